/-! the rules on sets of cells -/
def mu_N (d x : Nat) : Bool := bt (me_t d) x
def mu_v (S : Int32) (x : Nat) : Bool := !bt S x
def mu_k (ac : Nat → Int32) (d : Nat) : Int := (ac d).toInt
def mu_o (S M F : Int32) (d : Nat) : Int32 := me_t d &&& (((S ||| M) ||| F) ^^^ (-1))
theorem mu_ol {S M F : Int32} {d : Nat} (hd : d < 20) : me_lo (mu_o S M F d) := mr_andl (mr_tl hd) _
theorem mu_ob {S M F : Int32} {d x : Nat} (hx : x < 20) : bt (mu_o S M F d) x = ml_op mu_N (mu_v S) (bt M) (bt F) d x := by
  rw [mu_o, b_and, mr_not _ (by omega), b_or, b_or]
  simp only [ml_op, mu_N, mu_v]
  cases bt S x <;> cases bt M x <;> cases bt F x <;> simp
theorem mu_oc (S M F : Int32) (d : Nat) : me_c (mu_o S M F d) = mb_cn (ml_op mu_N (mu_v S) (bt M) (bt F) d) 20 := mb_eq (fun _ hx => mu_ob hx)
theorem mu_lc (M : Int32) (d : Nat) : me_c (me_t d &&& M) = mb_cn (fun x => mu_N d x && bt M x) 20 := mb_eq (fun x _ => b_and _ _ x)
theorem mu_c20 (x : Int32) : me_c x ≤ 20 := mb_le _ _
theorem mu_lf {S : Int32} {ac : Nat → Int32} (hC : mr_C S ac) {M : Int32} {d : Nat} (hd : d < 20) (hs : bt S d = true) : (ac d - nI (me_c (me_t d &&& M))).toInt = ml_lf mu_N (mu_k ac) (bt M) d := by
  obtain ⟨n, hn, e⟩ := (hC.2 d hd).1 hs
  have := mu_c20 (me_t d &&& M)
  rw [ml_lf, mu_k, e, pk_sub_toInt (by omega) (by omega), nI_toInt (by omega), mu_lc]
/-- what one rule makes of a set of undecided cells -/
def mu_nM (l : Int) (Z M : Int32) : Int32 := if l = 0 then M else if l = (me_c Z : Int) then M ||| Z else M
def mu_nF (l : Int) (Z F : Int32) : Int32 := if l = 0 then F ||| Z else F
def mu_I (S : Int32) (ac : Nat → Int32) (p : Bool) (M F : Int32) : Prop := ml_I mu_N (mu_v S) (mu_k ac) p (bt M) (bt F) ∧ me_lo M ∧ me_lo F
def mu_G (S : Int32) (ac : Nat → Int32) (p : Bool) : Prop := ∃ M F, ml_Good mu_N (mu_v S) (mu_k ac) p M F
def mu_Sub (M F M' F' : Int32) : Prop := ∀ x, x < 20 → (bt M x = true → bt M' x = true) ∧ (bt F x = true → bt F' x = true)
theorem mu_Sub0 (M F : Int32) : mu_Sub M F M F := fun _ _ => ⟨id, id⟩
theorem mu_SubT {M F M' F' M2 F2 : Int32} (h : mu_Sub M F M' F') (h' : mu_Sub M' F' M2 F2) : mu_Sub M F M2 F2 := fun x hx => ⟨fun z => (h' x hx).1 ((h x hx).1 z), fun z => (h' x hx).2 ((h x hx).2 z)⟩
theorem mu_SubA {M F M' F' : Int32} (l1 : me_lo M) (l2 : me_lo F) (l3 : me_lo M') (l4 : me_lo F') (h : mu_Sub M F M' F') (h' : mu_Sub M' F' M F) : M' = M ∧ F' = F := by
  constructor
  · refine me_ext l3 l1 (fun j hj => ?_)
    have a := (h j hj).1
    have b := (h' j hj).1
    cases h1 : bt M j <;> cases h2 : bt M' j <;> simp [h1, h2] at a b ⊢
  · refine me_ext l4 l2 (fun j hj => ?_)
    have a := (h j hj).2
    have b := (h' j hj).2
    cases h1 : bt F j <;> cases h2 : bt F' j <;> simp [h1, h2] at a b ⊢
theorem mu_set {S : Int32} {ac : Nat → Int32} {p : Bool} {M F Z : Int32} {l : Int} (h : mu_I S ac p M F) (lZ : me_lo Z) (hZ : ∀ x, x < 20 → bt Z x = true → mu_v S x = true ∧ bt M x = false ∧ bt F x = false)
    (hr : ∀ M' F', ml_Good mu_N (mu_v S) (mu_k ac) p M' F' → ml_Sub (bt M) (bt F) M' F' → 0 ≤ l ∧ l ≤ (me_c Z : Int) ∧ (l = 0 → ∀ x, x < 20 → bt Z x = true → F' x = true) ∧ (l = (me_c Z : Int) → ∀ x, x < 20 → bt Z x = true → M' x = true)) :
    (l < 0 ∨ (me_c Z : Int) < l → ¬ mu_G S ac p) ∧ (0 ≤ l → l ≤ (me_c Z : Int) → mu_I S ac p (mu_nM l Z M) (mu_nF l Z F) ∧ mu_Sub M F (mu_nM l Z M) (mu_nF l Z F) ∧ (mu_nM l Z M = M → mu_nF l Z F = F → ml_ok l (me_c Z))) := by
  obtain ⟨a, b, c⟩ := ml_set h.1 hZ hr
  have fr : ∀ Y : Int32, (∀ x, x < 20 → bt Z x = true → bt Y x = false) → Y ||| Z = Y → me_c Z = 0 := by
    intro Y hY e
    refine mb_of0 (fun x hx => ?_)
    cases hz : bt Z x
    · rfl
    · have := hY x hx hz
      rw [← e, b_or, hz] at this
      simp at this
  refine ⟨fun hl ⟨M', F', g⟩ => a hl M' F' g, fun h0 h1 => ?_⟩
  unfold mu_nM mu_nF
  by_cases z : l = 0
  · simp only [z, if_true]
    refine ⟨⟨b z (bt (F ||| Z)) (fun x _ => b_or _ _ x), h.2.1, mr_orl h.2.2 lZ⟩, fun x _ => ⟨id, fun y => by rw [b_or, y]; rfl⟩, fun _ e => ?_⟩
    have := fr F (fun x hx y => (hZ x hx y).2.2) e
    exact ⟨by omega, by omega, fun _ => this⟩
  · simp only [z, if_false]
    by_cases z2 : l = (me_c Z : Int)
    · simp only [z2, if_true]
      refine ⟨⟨c z2 (bt (M ||| Z)) (fun x _ => b_or _ _ x), mr_orl h.2.1 lZ, h.2.2⟩, fun x _ => ⟨fun y => by rw [b_or, y]; rfl, id⟩, fun e _ => ?_⟩
      have := fr M (fun x hx y => (hZ x hx y).2.1) e
      omega
    · simp only [z2, if_false]
      exact ⟨h, mu_Sub0 M F, fun _ _ => ⟨h0, h1, fun y => by omega⟩⟩
/-- rule 1 -/
theorem mu_r1 {S : Int32} {ac : Nat → Int32} {p : Bool} {M F : Int32} (h : mu_I S ac p M F) {d : Nat} (hd : d < 20) (hs : bt S d = true) :
    (ml_lf mu_N (mu_k ac) (bt M) d < 0 ∨ (me_c (mu_o S M F d) : Int) < ml_lf mu_N (mu_k ac) (bt M) d → ¬ mu_G S ac p) ∧
    (0 ≤ ml_lf mu_N (mu_k ac) (bt M) d → ml_lf mu_N (mu_k ac) (bt M) d ≤ (me_c (mu_o S M F d) : Int) →
      mu_I S ac p (mu_nM (ml_lf mu_N (mu_k ac) (bt M) d) (mu_o S M F d) M) (mu_nF (ml_lf mu_N (mu_k ac) (bt M) d) (mu_o S M F d) F) ∧
      mu_Sub M F (mu_nM (ml_lf mu_N (mu_k ac) (bt M) d) (mu_o S M F d) M) (mu_nF (ml_lf mu_N (mu_k ac) (bt M) d) (mu_o S M F d) F) ∧
      (mu_nM (ml_lf mu_N (mu_k ac) (bt M) d) (mu_o S M F d) M = M → mu_nF (ml_lf mu_N (mu_k ac) (bt M) d) (mu_o S M F d) F = F → ml_c1 mu_N (mu_v S) (mu_k ac) (bt M) (bt F) d)) := by
  have hv : mu_v S d = false := by rw [mu_v, hs]; rfl
  obtain ⟨a, b⟩ := mu_set (l := ml_lf mu_N (mu_k ac) (bt M) d) h (mu_ol (S := S) (M := M) (F := F) hd) (fun x hx hz => by
    rw [mu_ob hx] at hz
    simp only [ml_op, Bool.and_eq_true, Bool.not_eq_true'] at hz
    exact ⟨hz.1.1.2, hz.1.2, hz.2⟩) (fun M' F' g s => by
      obtain ⟨r1, r2, r3, r4⟩ := ml_r1 g s hd hv
      rw [mu_oc]
      exact ⟨r1, r2, fun e x hx hz => r3 e x hx (by rw [← mu_ob hx]; exact hz), fun e x hx hz => r4 e x hx (by rw [← mu_ob hx]; exact hz)⟩)
  refine ⟨a, fun h0 h1 => ?_⟩
  obtain ⟨b1, b2, b3⟩ := b h0 h1
  exact ⟨b1, b2, fun e1 e2 _ => by have := b3 e1 e2; rw [mu_oc] at this; exact this⟩
/-- rule 2 -/
theorem mu_r2 {S : Int32} {ac : Nat → Int32} {M F Z : Int32} (h : mu_I S ac true M F) {a b : Nat} (ha : a < 20) (hb : b < 20) (hne : a ≠ b) (hsa : bt S a = true) (hsb : bt S b = true) (hi : ml_inc mu_N (mu_v S) (bt M) (bt F) a b)
    (lZ : me_lo Z) (hZ : ∀ x, x < 20 → bt Z x = ml_ot mu_N (mu_v S) (bt M) (bt F) a b x) {l : Int} (hl : l = ml_lf mu_N (mu_k ac) (bt M) b - ml_lf mu_N (mu_k ac) (bt M) a) :
    (l < 0 ∨ (me_c Z : Int) < l → ¬ mu_G S ac true) ∧
    (0 ≤ l → l ≤ (me_c Z : Int) → mu_I S ac true (mu_nM l Z M) (mu_nF l Z F) ∧ mu_Sub M F (mu_nM l Z M) (mu_nF l Z F) ∧
      (mu_nM l Z M = M → mu_nF l Z F = F → ml_c2 mu_N (mu_v S) (mu_k ac) (bt M) (bt F) a b)) := by
  have hva : mu_v S a = false := by rw [mu_v, hsa]; rfl
  have hvb : mu_v S b = false := by rw [mu_v, hsb]; rfl
  have ec : me_c Z = mb_cn (ml_ot mu_N (mu_v S) (bt M) (bt F) a b) 20 := mb_eq (fun x hx => hZ x hx)
  obtain ⟨q1, q2⟩ := mu_set (l := l) h lZ (fun x hx hz => by
    rw [hZ x hx] at hz
    simp only [ml_ot, ml_op, Bool.and_eq_true, Bool.not_eq_true'] at hz
    exact ⟨hz.1.1.1.2, hz.1.1.2, hz.1.2⟩) (fun M' F' g s => by
      obtain ⟨r1, r2, r3, r4⟩ := ml_r2 g s ha hb hne hva hvb hi
      rw [ec, hl]
      exact ⟨r1, r2, fun e x hx hz => r3 e x hx (by rw [← hZ x hx]; exact hz), fun e x hx hz => r4 e x hx (by rw [← hZ x hx]; exact hz)⟩)
  refine ⟨q1, fun h0 h1 => ?_⟩
  obtain ⟨b1, b2, b3⟩ := q2 h0 h1
  exact ⟨b1, b2, fun e1 e2 _ _ _ _ => by have := b3 e1 e2; rw [ec, hl] at this; exact this⟩
/-- an a without undecided cells adds nothing to rule 1 -/
theorem mu_c2e {S : Int32} {ac : Nat → Int32} {M F : Int32} (h1 : ∀ d, d < 20 → ml_c1 mu_N (mu_v S) (mu_k ac) (bt M) (bt F) d) {a b : Nat} (ha : a < 20) (hb : b < 20) (he : mu_o S M F a = 0) : ml_c2 mu_N (mu_v S) (mu_k ac) (bt M) (bt F) a b := by
  intro hne hva hvb _
  have ea : ∀ x, x < 20 → ml_op mu_N (mu_v S) (bt M) (bt F) a x = false := fun x hx => by rw [← mu_ob hx, he, b_0]
  have e0 : mb_cn (ml_op mu_N (mu_v S) (bt M) (bt F) a) 20 = 0 := mb_of0 ea
  obtain ⟨a1, a2, a3⟩ := h1 a ha hva
  obtain ⟨b1, b2, b3⟩ := h1 b hb hvb
  rw [e0] at a2
  have ez : mb_cn (ml_ot mu_N (mu_v S) (bt M) (bt F) a b) 20 = mb_cn (ml_op mu_N (mu_v S) (bt M) (bt F) b) 20 := mb_eq (fun x hx => by simp only [ml_ot]; rw [ea x hx]; simp)
  rw [ez]
  have : ml_lf mu_N (mu_k ac) (bt M) a = 0 := by omega
  rw [this, Int.sub_zero]
  exact ⟨b1, b2, b3⟩
/-- the answer when a whole round has changed nothing -/
theorem mu_fin {S : Int32} {ac : Nat → Int32} {p : Bool} {M F : Int32} (h : mu_I S ac p M F) (h1 : ∀ d, d < 20 → ml_c1 mu_N (mu_v S) (mu_k ac) (bt M) (bt F) d) (h2 : p = true → ∀ a b, a < 20 → b < 20 → ml_c2 mu_N (mu_v S) (mu_k ac) (bt M) (bt F) a b) : ml_S mu_N (mu_v S) (mu_k ac) p true (bt M) (bt F) :=
  ⟨fun _ => ⟨⟨h.1.1, h1, h2⟩, h.1.2⟩, fun z => by cases z⟩
theorem mu_bad {S : Int32} {ac : Nat → Int32} {p : Bool} {M F : Int32} (h : ¬ mu_G S ac p) : ml_S mu_N (mu_v S) (mu_k ac) p false (bt M) (bt F) :=
  ⟨fun z => (by cases z), fun _ M1 F1 g => h ⟨M1, F1, g⟩⟩
theorem mu_I0 (S : Int32) (ac : Nat → Int32) (p : Bool) : mu_I S ac p 0 0 :=
  ⟨⟨fun x _ => ⟨by rw [b_0]; simp, by rw [b_0]; simp, by rw [b_0]; simp⟩, fun M' F' _ x _ => ⟨by rw [b_0]; simp, by rw [b_0]; simp⟩⟩, mr_0l, mr_0l⟩
/-- the number decided -/
def mu_c (M F : Int32) : Nat := me_c (M ||| F)
theorem mu_cm {M F M' F' : Int32} (h : mu_Sub M F M' F') : mu_c M F ≤ mu_c M' F' := mb_mono (fun x hx z => by
  rw [b_or] at z ⊢
  simp only [Bool.or_eq_true] at z ⊢
  exact z.imp (h x hx).1 (h x hx).2)
theorem mu_same {S : Int32} {ac : Nat → Int32} {p : Bool} {M F M' F' : Int32} (h : mu_I S ac p M F) (h' : mu_I S ac p M' F') (s : mu_Sub M F M' F') (e : ∀ x, x < 20 → bt (M' ||| F') x = true → bt (M ||| F) x = true) : M' = M ∧ F' = F := by
  refine mu_SubA h.2.1 h.2.2 h'.2.1 h'.2.2 s (fun x hx => ?_)
  obtain ⟨w1, w2, w3⟩ := h'.1.1 x hx
  have e' := e x hx
  rw [b_or, b_or] at e'
  have s' := s x hx
  constructor
  · intro z
    rw [z] at e'
    cases hM : bt M x
    · rw [hM] at e'
      have := s'.2 (by simpa using e')
      exact absurd ⟨z, this⟩ w1
    · rfl
  · intro z
    rw [z] at e'
    cases hF : bt F x
    · rw [hF] at e'
      have := s'.1 (by simpa using e')
      exact absurd ⟨this, z⟩ w1
    · rfl
theorem mu_eqor {S : Int32} {ac : Nat → Int32} {p : Bool} {M F M' F' : Int32} (h : mu_I S ac p M F) (h' : mu_I S ac p M' F') (s : mu_Sub M F M' F') (e : M' ||| F' = M ||| F) : M' = M ∧ F' = F :=
  mu_same h h' s (fun x _ z => by rw [← e]; exact z)
theorem mu_eqc {S : Int32} {ac : Nat → Int32} {p : Bool} {M F M' F' : Int32} (h : mu_I S ac p M F) (h' : mu_I S ac p M' F') (s : mu_Sub M F M' F') (e : mu_c M' F' = mu_c M F) : M' = M ∧ F' = F := by
  refine mu_same h h' s (fun x hx z => ?_)
  cases hb : bt (M ||| F) x
  · have : mu_c M F < mu_c M' F' := mb_lt hx hb z (fun y hy q => by
      rw [b_or] at q ⊢
      simp only [Bool.or_eq_true] at q ⊢
      exact q.imp (s y hy).1 (s y hy).2)
    omega
  · rfl
theorem mu_lt {S : Int32} {ac : Nat → Int32} {p : Bool} {M F M' F' : Int32} (h : mu_I S ac p M F) (h' : mu_I S ac p M' F') (s : mu_Sub M F M' F') (e : M' ||| F' ≠ M ||| F) : mu_c M F < mu_c M' F' := by
  have := mu_cm s
  rcases Nat.lt_or_ge (mu_c M F) (mu_c M' F') with z | z
  · exact z
  · obtain ⟨e1, e2⟩ := mu_eqc h h' s (by omega)
    exact absurd (by rw [e1, e2]) e
