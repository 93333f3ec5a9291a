/-! the rules: what is decided by any run of them lies in every state that is closed under them and without a clash -/
theorem ml_core {Z M F : Nat → Bool} {l l' : Int} (hd : ∀ x, x < 20 → ¬ (M x = true ∧ F x = true)) (e : l' = l - (mb_cn (fun x => Z x && M x) 20 : Int)) (h0 : 0 ≤ l') (h1 : l' ≤ (mb_cn (fun x => Z x && !M x && !F x) 20 : Int))
    (hc : l' = 0 ∨ l' = (mb_cn (fun x => Z x && !M x && !F x) 20 : Int) → mb_cn (fun x => Z x && !M x && !F x) 20 = 0) :
    0 ≤ l ∧ l ≤ (mb_cn Z 20 : Int) ∧ (l = 0 → ∀ x, x < 20 → Z x = true → F x = true) ∧ (l = (mb_cn Z 20 : Int) → ∀ x, x < 20 → Z x = true → M x = true) := by
  have s1 := mb_split Z M 20
  have s2 := mb_split (fun x => Z x && !M x) F 20
  have s3 : mb_cn (fun x => Z x && !M x && F x) 20 = mb_cn (fun x => Z x && F x) 20 := mb_eq (fun x hx => by
    have := hd x hx
    cases hM : M x <;> cases hF : F x <;> simp [hM, hF] at this ⊢)
  have key : mb_cn (fun x => Z x && !M x && !F x) 20 = 0 → ∀ x, x < 20 → Z x = true → M x = true ∨ F x = true := by
    intro hz x hx hZ
    have h := mb_zero hz x hx
    cases hM : M x <;> cases hF : F x <;> simp [hZ, hM, hF] at h ⊢
  refine ⟨by omega, by omega, fun hl x hx hZ => ?_, fun hl x hx hZ => ?_⟩
  · have a0 : mb_cn (fun x => Z x && M x) 20 = 0 := by omega
    have g0 := hc (Or.inl (by omega))
    have h := mb_zero a0 x hx
    rcases key g0 x hx hZ with z | z
    · simp [hZ, z] at h
    · exact z
  · have g0 := hc (Or.inr (by omega))
    have b0 : mb_cn (fun x => Z x && F x) 20 = 0 := by omega
    have h := mb_zero b0 x hx
    rcases key g0 x hx hZ with z | z
    · exact z
    · simp [hZ, z] at h
def ml_op (N : Nat → Nat → Bool) (cov M F : Nat → Bool) (d : Nat) : Nat → Bool := fun x => N d x && cov x && !M x && !F x
def ml_ot (N : Nat → Nat → Bool) (cov M F : Nat → Bool) (a b : Nat) : Nat → Bool := fun x => ml_op N cov M F b x && !ml_op N cov M F a x
def ml_lf (N : Nat → Nat → Bool) (kl : Nat → Int) (M : Nat → Bool) (d : Nat) : Int := kl d - (mb_cn (fun x => N d x && M x) 20 : Int)
def ml_Wf (cov M F : Nat → Bool) : Prop := ∀ x, x < 20 → ¬ (M x = true ∧ F x = true) ∧ (M x = true → cov x = true) ∧ (F x = true → cov x = true)
def ml_Sub (M F M' F' : Nat → Bool) : Prop := ∀ x, x < 20 → (M x = true → M' x = true) ∧ (F x = true → F' x = true)
/-- one set of undecided cells with so many mines among them is settled -/
def ml_ok (l : Int) (z : Nat) : Prop := 0 ≤ l ∧ l ≤ (z : Int) ∧ (l = 0 ∨ l = (z : Int) → z = 0)
def ml_c1 (N : Nat → Nat → Bool) (cov : Nat → Bool) (kl : Nat → Int) (M F : Nat → Bool) (d : Nat) : Prop := cov d = false → ml_ok (ml_lf N kl M d) (mb_cn (ml_op N cov M F d) 20)
def ml_inc (N : Nat → Nat → Bool) (cov M F : Nat → Bool) (a b : Nat) : Prop := ∀ x, x < 20 → ml_op N cov M F a x = true → ml_op N cov M F b x = true
def ml_c2 (N : Nat → Nat → Bool) (cov : Nat → Bool) (kl : Nat → Int) (M F : Nat → Bool) (a b : Nat) : Prop := a ≠ b → cov a = false → cov b = false → ml_inc N cov M F a b → ml_ok (ml_lf N kl M b - ml_lf N kl M a) (mb_cn (ml_ot N cov M F a b) 20)
def ml_Good (N : Nat → Nat → Bool) (cov : Nat → Bool) (kl : Nat → Int) (p : Bool) (M F : Nat → Bool) : Prop :=
  ml_Wf cov M F ∧ (∀ d, d < 20 → ml_c1 N cov kl M F d) ∧ (p = true → ∀ a b, a < 20 → b < 20 → ml_c2 N cov kl M F a b)
section
variable {N : Nat → Nat → Bool} {cov : Nat → Bool} {kl : Nat → Int} {p : Bool} {M F M' F' : Nat → Bool}
theorem ml_lo (w : ml_Wf cov M' F') (s : ml_Sub M F M' F') (d : Nat) : mb_cn (fun x => N d x && M' x) 20 = mb_cn (fun x => N d x && M x) 20 + mb_cn (fun x => ml_op N cov M F d x && M' x) 20 := by
  rw [mb_split (fun x => N d x && M' x) M 20]
  congr 1
  · refine mb_eq (fun x hx => ?_)
    have h := (s x hx).1
    cases hM : M x
    · simp
    · rw [h hM]; simp
  · refine mb_eq (fun x hx => ?_)
    obtain ⟨h1, h2⟩ := s x hx
    obtain ⟨w1, w2, w3⟩ := w x hx
    simp only [ml_op]
    cases hM : M x <;> cases hM' : M' x <;> cases hF : F x <;> cases hc : cov x <;> simp [hM, hM', hF, hc] at * <;> simp_all
theorem ml_op' (s : ml_Sub M F M' F') (d x : Nat) (hx : x < 20) : ml_op N cov M' F' d x = (ml_op N cov M F d x && !M' x && !F' x) := by
  obtain ⟨h1, h2⟩ := s x hx
  simp only [ml_op]
  cases hM : M x <;> cases hM' : M' x <;> cases hF : F x <;> cases hF' : F' x <;> simp [hM, hM', hF, hF'] at *
theorem ml_r1 (g : ml_Good N cov kl p M' F') (s : ml_Sub M F M' F') {d : Nat} (hd : d < 20) (hs : cov d = false) :
    0 ≤ ml_lf N kl M d ∧ ml_lf N kl M d ≤ (mb_cn (ml_op N cov M F d) 20 : Int) ∧ (ml_lf N kl M d = 0 → ∀ x, x < 20 → ml_op N cov M F d x = true → F' x = true) ∧ (ml_lf N kl M d = (mb_cn (ml_op N cov M F d) 20 : Int) → ∀ x, x < 20 → ml_op N cov M F d x = true → M' x = true) := by
  obtain ⟨c1, c2, c3⟩ := g.2.1 d hd hs
  have e := ml_lo (N := N) g.1 s d
  have eo : mb_cn (ml_op N cov M' F' d) 20 = mb_cn (fun x => ml_op N cov M F d x && !M' x && !F' x) 20 := mb_eq (fun x hx => ml_op' s d x hx)
  rw [eo] at c2 c3
  refine ml_core (M := M') (F := F') (l' := ml_lf N kl M' d) (fun x hx => (g.1 x hx).1) ?_ c1 c2 c3
  simp only [ml_lf]
  omega
theorem ml_r2 (g : ml_Good N cov kl true M' F') (s : ml_Sub M F M' F') {a b : Nat} (ha : a < 20) (hb : b < 20) (hne : a ≠ b) (hsa : cov a = false) (hsb : cov b = false) (hi : ml_inc N cov M F a b) :
    0 ≤ ml_lf N kl M b - ml_lf N kl M a ∧ ml_lf N kl M b - ml_lf N kl M a ≤ (mb_cn (ml_ot N cov M F a b) 20 : Int) ∧ (ml_lf N kl M b - ml_lf N kl M a = 0 → ∀ x, x < 20 → ml_ot N cov M F a b x = true → F' x = true) ∧ (ml_lf N kl M b - ml_lf N kl M a = (mb_cn (ml_ot N cov M F a b) 20 : Int) → ∀ x, x < 20 → ml_ot N cov M F a b x = true → M' x = true) := by
  have hi' : ml_inc N cov M' F' a b := by
    intro x hx h
    rw [ml_op' s a x hx] at h
    rw [ml_op' s b x hx]
    simp only [Bool.and_eq_true] at h ⊢
    exact ⟨⟨hi x hx h.1.1, h.1.2⟩, h.2⟩
  obtain ⟨c1, c2, c3⟩ := g.2.2 rfl a b ha hb hne hsa hsb hi'
  have ea := ml_lo (N := N) g.1 s a
  have eb := ml_lo (N := N) g.1 s b
  have eo : mb_cn (ml_ot N cov M' F' a b) 20 = mb_cn (fun x => ml_ot N cov M F a b x && !M' x && !F' x) 20 := mb_eq (fun x hx => by
    simp only [ml_ot]
    rw [ml_op' s a x hx, ml_op' s b x hx]
    cases ml_op N cov M F a x <;> cases ml_op N cov M F b x <;> cases M' x <;> cases F' x <;> rfl)
  rw [eo] at c2 c3
  refine ml_core (M := M') (F := F') (l' := ml_lf N kl M' b - ml_lf N kl M' a) (fun x hx => (g.1 x hx).1) ?_ c1 c2 c3
  have sp := mb_split (fun x => ml_op N cov M F b x && M' x) (ml_op N cov M F a) 20
  have e1 : mb_cn (fun x => ml_op N cov M F b x && M' x && ml_op N cov M F a x) 20 = mb_cn (fun x => ml_op N cov M F a x && M' x) 20 := mb_eq (fun x hx => by
    have := hi x hx
    cases h1 : ml_op N cov M F a x
    · simp
    · rw [this h1]; simp)
  have e2 : mb_cn (fun x => ml_op N cov M F b x && M' x && !ml_op N cov M F a x) 20 = mb_cn (fun x => ml_ot N cov M F a b x && M' x) 20 := mb_eq (fun x hx => by
    simp only [ml_ot]
    cases ml_op N cov M F a x <;> cases ml_op N cov M F b x <;> cases M' x <;> rfl)
  simp only [ml_lf]
  omega
/-- what holds while rules are applied -/
def ml_I (N : Nat → Nat → Bool) (cov : Nat → Bool) (kl : Nat → Int) (p : Bool) (M F : Nat → Bool) : Prop := ml_Wf cov M F ∧ ∀ M' F', ml_Good N cov kl p M' F' → ml_Sub M F M' F'
theorem ml_set (h : ml_I N cov kl p M F) {Z : Nat → Bool} {l : Int} (hZ : ∀ x, x < 20 → Z x = true → cov x = true ∧ M x = false ∧ F x = false)
    (hr : ∀ M' F', ml_Good N cov kl p M' F' → ml_Sub M F M' F' → 0 ≤ l ∧ l ≤ (mb_cn Z 20 : Int) ∧ (l = 0 → ∀ x, x < 20 → Z x = true → F' x = true) ∧ (l = (mb_cn Z 20 : Int) → ∀ x, x < 20 → Z x = true → M' x = true)) :
    (l < 0 ∨ (mb_cn Z 20 : Int) < l → ∀ M' F', ¬ ml_Good N cov kl p M' F') ∧ (l = 0 → ∀ F2 : Nat → Bool, (∀ x, x < 20 → F2 x = (F x || Z x)) → ml_I N cov kl p M F2) ∧ (l = (mb_cn Z 20 : Int) → ∀ M2 : Nat → Bool, (∀ x, x < 20 → M2 x = (M x || Z x)) → ml_I N cov kl p M2 F) := by
  refine ⟨fun hl M' F' g => ?_, fun hl F2 e => ⟨fun x hx => ?_, fun M' F' g x hx => ?_⟩, fun hl M2 e => ⟨fun x hx => ?_, fun M' F' g x hx => ?_⟩⟩
  · obtain ⟨a, b, -⟩ := hr M' F' g (h.2 M' F' g)
    omega
  · obtain ⟨w1, w2, w3⟩ := h.1 x hx
    have hz := hZ x hx
    rw [e x hx]
    cases hzx : Z x
    · simpa using ⟨by simpa using w1, w2, w3⟩
    · obtain ⟨z1, z2, z3⟩ := hz hzx
      simp [z1, z2]
  · have s := h.2 M' F' g
    refine ⟨(s x hx).1, fun hf => ?_⟩
    rw [e x hx] at hf
    cases hF : F x
    · rw [hF, Bool.false_or] at hf
      exact (hr M' F' g s).2.2.1 hl x hx hf
    · exact (s x hx).2 hF
  · obtain ⟨w1, w2, w3⟩ := h.1 x hx
    have hz := hZ x hx
    rw [e x hx]
    cases hzx : Z x
    · simpa using ⟨by simpa using w1, w2, w3⟩
    · obtain ⟨z1, z2, z3⟩ := hz hzx
      simp [z1, z3]
  · have s := h.2 M' F' g
    refine ⟨fun hf => ?_, (s x hx).2⟩
    rw [e x hx] at hf
    cases hM : M x
    · rw [hM, Bool.false_or] at hf
      exact (hr M' F' g s).2.2.2 hl x hx hf
    · exact (s x hx).1 hM
end
/-- the one answer -/
def ml_S (N : Nat → Nat → Bool) (cov : Nat → Bool) (kl : Nat → Int) (p r : Bool) (M F : Nat → Bool) : Prop :=
  (r = true → ml_Good N cov kl p M F ∧ ∀ M' F', ml_Good N cov kl p M' F' → ml_Sub M F M' F') ∧ (r = false → ∀ M' F', ¬ ml_Good N cov kl p M' F')
theorem ml_uniq {N : Nat → Nat → Bool} {cov : Nat → Bool} {kl : Nat → Int} {p r r' : Bool} {M F M' F' : Nat → Bool} (h : ml_S N cov kl p r M F) (h' : ml_S N cov kl p r' M' F') : r = r' ∧ (r = true → ∀ x, x < 20 → M x = M' x ∧ F x = F' x) := by
  cases r <;> cases r'
  · exact ⟨rfl, fun z => by cases z⟩
  · exact absurd (h'.1 rfl).1 (h.2 rfl M' F')
  · exact absurd (h.1 rfl).1 (h'.2 rfl M F)
  · refine ⟨rfl, fun _ x hx => ?_⟩
    obtain ⟨g, s⟩ := h.1 rfl
    obtain ⟨g', s'⟩ := h'.1 rfl
    obtain ⟨a1, a2⟩ := s M' F' g' x hx
    obtain ⟨b1, b2⟩ := s' M F g x hx
    constructor
    · cases hM : M x <;> cases hM' : M' x <;> simp [hM, hM'] at a1 b1 ⊢
    · cases hM : F x <;> cases hM' : F' x <;> simp [hM, hM'] at a2 b2 ⊢
theorem ml_wf0 (cov : Nat → Bool) : ml_Wf cov (fun _ => false) (fun _ => false) := fun _ _ => ⟨by simp, by simp, by simp⟩
