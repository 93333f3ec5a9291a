/-! the component's kinds against the counts -/
theorem mc_flat_app : ∀ (a b : List (Nat × Int32)), mg_flat (a ++ b) = mg_flat a ++ mg_flat b
  | [], _ => rfl
  | k :: a, b => by rw [List.cons_append, mg_flat, mg_flat, mc_flat_app a b, List.append_assoc]
theorem mc_flat1 (n : Nat) (m : Int32) : mg_flat [(n, m)] = List.replicate n m := by simp [mg_flat]
theorem mc_erase (f : Nat → Int32) {l : List Nat} {c : Nat} (h : c ∈ l) : List.Perm (l.map f) (f c :: (l.erase c).map f) := by
  rw [← List.map_cons]
  exact (List.perm_cons_erase h).map f
theorem mc_X1 {S : Int32} {ks : List (Nat × Int32)} (hp : List.Perm (mg_flat ks) ((me_E S).map (me_mk S))) (kl : Nat → Int) {T : Int} (hT : ¬ T < 0) :
    mg_K (mg_L (bt S)) (ks ++ [(me_R S, me_b)]) (me_w S kl T) = me_Cnt S kl T := by
  rw [mg_KG, me_Cnt, if_neg hT, mc_flat_app, mc_flat1]
  exact mg_perm (List.perm_append_comm.trans (hp.append_left _)) _
theorem mc_X2 {S : Int32} {ks : List (Nat × Int32)} (hp : List.Perm (mg_flat ks) ((me_E S).map (me_mk S))) (kl : Nat → Int) {T : Int} (hT : ¬ T < 0) {c i s : Nat} (hc : c < 20) (he : me_ed S c = true) (hi : ks[i]? = some (s + 1, me_mk S c)) :
    mg_H (mg_L (bt S)) i (ks ++ [(me_R S, me_b)]) (me_w S kl T) = (s + 1) * me_Min S kl T c := by
  have hi' : (ks ++ [(me_R S, me_b)])[i]? = some (s + 1, me_mk S c) := by
    rw [List.getElem?_append_left]
    · exact hi
    · exact (List.getElem?_eq_some_iff.mp hi).1
  rw [mg_HK _ _ _ _ _ _ hi', mg_KG, me_Min, if_pos he, if_neg hT]
  congr 1
  refine mg_perm ?_ _
  have h1 := mg_decp _ _ _ _ hi'
  rw [mc_flat_app, mc_flat1] at h1
  have h2 : List.Perm (mg_flat ks ++ List.replicate (me_R S) me_b) (me_mk S c :: (List.replicate (me_R S) me_b ++ ((me_E S).erase c).map (me_mk S))) :=
    (List.perm_append_comm.trans ((hp.trans (mc_erase (me_mk S) (me_E_mem.mpr ⟨hc, he⟩))).append_left _)).trans List.perm_middle
  exact (h1.trans h2).cons_inv
theorem mc_X3 {S : Int32} {ks : List (Nat × Int32)} (hp : List.Perm (mg_flat ks) ((me_E S).map (me_mk S))) (kl : Nat → Int) {T : Int} (hT : ¬ T < 0) {c : Nat} (he : ¬ me_ed S c = true) (hR : 0 < me_R S) :
    mg_H (mg_L (bt S)) ks.length (ks ++ [(me_R S, me_b)]) (me_w S kl T) = me_R S * me_Min S kl T c := by
  obtain ⟨s, hs⟩ : ∃ s, me_R S = s + 1 := ⟨me_R S - 1, by omega⟩
  have hi' : (ks ++ [(me_R S, me_b)])[ks.length]? = some (s + 1, me_b) := by
    rw [List.getElem?_append_right (Nat.le_refl _), hs]; simp
  rw [mg_HK _ _ _ _ _ _ hi', mg_KG, me_Min, if_neg he, if_neg hT, hs]
  congr 1
  have e : mg_sub (me_w S kl T) me_b = me_w S kl (T - 1) := by
    funext j
    simp only [mg_sub, me_w, me_bb]
    by_cases z : j = 20 <;> simp [z]
  rw [e]
  refine mg_perm ?_ _
  have h1 := mg_decp _ _ _ _ hi'
  rw [mc_flat_app, mc_flat1, hs] at h1
  have h2 : List.Perm (mg_flat ks ++ List.replicate (s + 1) me_b) (me_b :: (List.replicate (s + 1 - 1) me_b ++ (me_E S).map (me_mk S))) := by
    rw [Nat.add_sub_cancel, ← List.cons_append, ← List.replicate_succ]
    exact List.perm_append_comm.trans (hp.append_left _)
  exact (h1.trans h2).cons_inv
def mc_mx (S : Int32) (c : Nat) : Int32 := me_t c &&& S
theorem mc_mxb (S : Int32) {c j : Nat} (hj : j < 20) : bt (mc_mx S c) j = bt (me_mk S c) j := by rw [me_mkb S hj, mc_mx, b_and]
theorem mc_b20 (S : Int32) (l : List Nat) {w w' : Nat → Int} (hw : ∀ j, j < 20 → w j = w' j) : mg_G (mg_L' (bt S)) (l.map (mc_mx S)) w = mg_G (mg_L' (bt S)) (l.map (me_mk S)) w' :=
  mg_b20 (bt S) _ _ w w' (by simp) (fun i h1 h2 j hj => by simp only [List.getElem_map]; exact mc_mxb S hj) hw
theorem mc_X4 {S : Int32} {ks : List (Nat × Int32)} (hp : List.Perm (mg_flat ks) ((me_E S).map (mc_mx S))) (kl : Nat → Int) {T : Int} (hT : T < 0) (T' : Int) :
    2 ^ me_R S * mg_K (mg_L' (bt S)) ks (me_w S kl T') = me_Cnt S kl T := by
  rw [mg_KG, me_Cnt, if_pos hT, mg_perm hp, mc_b20 S (me_E S) (w' := me_w S kl 0)]
  intro j hj
  simp only [me_w, show j ≠ 20 by omega, if_false]
theorem mc_X5 {S : Int32} {ks : List (Nat × Int32)} (hp : List.Perm (mg_flat ks) ((me_E S).map (mc_mx S))) (kl : Nat → Int) {T : Int} (hT : T < 0) (T' : Int) {c i s : Nat} (hc : c < 20) (he : me_ed S c = true) (hi : ks[i]? = some (s + 1, mc_mx S c)) :
    2 ^ me_R S * mg_H (mg_L' (bt S)) i ks (me_w S kl T') = (s + 1) * me_Min S kl T c := by
  rw [mg_HK _ _ _ _ _ _ hi, mg_KG, me_Min, if_pos he, if_pos hT, Nat.mul_left_comm]
  congr 2
  have h1 := mg_decp _ _ _ _ hi
  have h2 := (h1.trans (hp.trans (mc_erase (mc_mx S) (me_E_mem.mpr ⟨hc, he⟩)))).cons_inv
  rw [mg_perm h2]
  apply mc_b20
  intro j hj
  simp only [mg_sub, me_w, mc_mxb S hj, show j ≠ 20 by omega, if_false]
theorem mc_X6 {S : Int32} {ks : List (Nat × Int32)} (hp : List.Perm (mg_flat ks) ((me_E S).map (mc_mx S))) (kl : Nat → Int) {T : Int} (hT : T < 0) (T' : Int) {c : Nat} (he : ¬ me_ed S c = true) (hR : 0 < me_R S) :
    2 ^ me_R S * mg_K (mg_L' (bt S)) ks (me_w S kl T') * me_R S / 2 = me_R S * me_Min S kl T c := by
  have h4 := mc_X4 hp kl hT T'
  obtain ⟨s, hs⟩ : ∃ s, me_R S = s + 1 := ⟨me_R S - 1, by omega⟩
  rw [h4, me_Min, if_neg he, if_pos hT, me_Cnt, if_pos hT, hs, Nat.add_sub_cancel, Nat.pow_succ]
  generalize mg_G (mg_L' (bt S)) ((me_E S).map (me_mk S)) (me_w S kl 0) = g
  have e : 2 ^ s * 2 * g * (s + 1) = (s + 1) * (2 ^ s * g) * 2 := by
    rw [Nat.mul_right_comm (2 ^ s) 2 g, Nat.mul_right_comm (2 ^ s * g) 2 (s + 1), Nat.mul_comm (2 ^ s * g) (s + 1)]
  rw [e, Nat.mul_div_cancel _ (by omega)]
/-! leaves of the search -/
noncomputable def mc_L (J : Nat → Bool) (r : Nat → Int) (w : Nat → Int) : Nat := mg_i (∀ j, j < 21 → J j = true → 0 ≤ w j ∧ w j ≤ r j)
theorem mc_L1 (J : Nat → Bool) (r : Nat → Int) (w : Nat → Int) : mc_L J r w ≤ 1 := mg_i_le _
/-- with a total -/
theorem mc_LT {S J : Int32} (hJ : ∀ j, j < 21 → bt J j = (bt S j || decide (j = 20))) {r : Nat → Int} (hr : ∀ j, j < 21 → bt J j = true → r j = 0) (h20 : bt S 20 = false) : mc_L (bt J) r = mg_L (bt S) := by
  funext w
  refine mg_i_eq ⟨fun h => ⟨fun j hj hs => ?_, ?_⟩, fun h j hj hs => ?_⟩
  · have hb : bt J j = true := by rw [hJ j (by omega), hs]; rfl
    have := h j (by omega) hb
    rw [hr j (by omega) hb] at this
    omega
  · have hb : bt J 20 = true := by rw [hJ 20 (by omega)]; simp
    have := h 20 (by omega) hb
    rw [hr 20 (by omega) hb] at this
    omega
  · rw [hr j hj hs]
    by_cases z : j = 20
    · subst z; have := h.2; omega
    · rw [hJ j hj, decide_eq_false z, Bool.or_false] at hs
      have := h.1 j (by omega) hs
      omega
theorem mc_LN {S J : Int32} (hJ : ∀ j, j < 21 → bt J j = bt S j) {r : Nat → Int} (hr : ∀ j, j < 21 → bt J j = true → r j = 0) (h20 : bt S 20 = false) : mc_L (bt J) r = mg_L' (bt S) := by
  funext w
  refine mg_i_eq ⟨fun h j hj hs => ?_, fun h j hj hs => ?_⟩
  · have hb : bt J j = true := by rw [hJ j (by omega), hs]
    have := h j (by omega) hb
    rw [hr j (by omega) hb] at this
    omega
  · rw [hr j hj hs]
    rw [hJ j hj] at hs
    have z : j ≠ 20 := fun z => by rw [z, h20] at hs; cases hs
    have := h j (by omega) hs
    omega
/-! a watched cell c: r c = 8, need 8; its number b -/
noncomputable def mc_Lb (J : Nat → Bool) (r : Nat → Int) (c : Nat) (b : Nat) (w : Nat → Int) : Nat := mg_i ((∀ j, j < 21 → J j = true → 0 ≤ w j ∧ w j ≤ r j) ∧ w c = 8 - (b : Int))
def mc_sh (c : Nat) (d : Int) (w : Nat → Int) : Nat → Int := fun j => if j = c then w j - d else w j
theorem mc_shG (L : (Nat → Int) → Nat) (c : Nat) (d : Int) : ∀ (l : List Int32) (w : Nat → Int), mg_G (fun w => L (mc_sh c d w)) l w = mg_G L l (mc_sh c d w)
  | [], _ => rfl
  | m :: l, w => by
    rw [mg_G, mg_G, mc_shG L c d l, mc_shG L c d l]
    congr 2
    funext j
    simp only [mc_sh, mg_sub]
    by_cases z : j = c <;> simp [z] <;> omega
theorem mc_LbT {S J : Int32} {c b : Nat} (hc : c < 20) (hcS : bt S c = true) (hb : b ≤ 8) (hJ : ∀ j, j < 21 → bt J j = (bt S j || decide (j = 20))) {r : Nat → Int} (hr : ∀ j, j < 21 → bt J j = true → r j = if j = c then 8 else 0) (h20 : bt S 20 = false) :
    mc_Lb (bt J) r c b = fun w => mg_L (bt S) (mc_sh c (8 - (b : Int)) w) := by
  funext w
  refine mg_i_eq ⟨fun h => ⟨fun j hj hs => ?_, ?_⟩, fun h => ⟨fun j hj hs => ?_, ?_⟩⟩
  · have hb' : bt J j = true := by rw [hJ j (by omega), hs]; rfl
    have := h.1 j (by omega) hb'
    rw [hr j (by omega) hb'] at this
    simp only [mc_sh]
    by_cases z : j = c
    · subst z; simp; have := h.2; omega
    · simp [z] at this ⊢; omega
  · have hb' : bt J 20 = true := by rw [hJ 20 (by omega)]; simp
    have := h.1 20 (by omega) hb'
    rw [hr 20 (by omega) hb'] at this
    have z : (20 : Nat) ≠ c := by omega
    simp [mc_sh, z] at this ⊢; omega
  · rw [hr j hj hs]
    by_cases z : j = c
    · subst z
      have := h.1 j (by omega) hcS
      simp [mc_sh] at this ⊢; omega
    · by_cases z2 : j = 20
      · subst z2; have := h.2; simp [mc_sh, z] at this ⊢; omega
      · rw [hJ j hj, decide_eq_false z2, Bool.or_false] at hs
        have := h.1 j (by omega) hs
        simp [mc_sh, z] at this ⊢; omega
  · have := h.1 c hc hcS
    simp [mc_sh] at this; omega
theorem mc_LbN {S J : Int32} {c b : Nat} (hc : c < 20) (hcS : bt S c = true) (hb : b ≤ 8) (hJ : ∀ j, j < 21 → bt J j = bt S j) {r : Nat → Int} (hr : ∀ j, j < 21 → bt J j = true → r j = if j = c then 8 else 0) (h20 : bt S 20 = false) :
    mc_Lb (bt J) r c b = fun w => mg_L' (bt S) (mc_sh c (8 - (b : Int)) w) := by
  funext w
  refine mg_i_eq ⟨fun h j hj hs => ?_, fun h => ⟨fun j hj hs => ?_, ?_⟩⟩
  · have hb' : bt J j = true := by rw [hJ j (by omega), hs]
    have := h.1 j (by omega) hb'
    rw [hr j (by omega) hb'] at this
    simp only [mc_sh]
    by_cases z : j = c
    · subst z; simp; have := h.2; omega
    · simp [z] at this ⊢; omega
  · rw [hr j hj hs]
    rw [hJ j hj] at hs
    have z2 : j ≠ 20 := fun z => by rw [z, h20] at hs; cases hs
    by_cases z : j = c
    · subst z
      have := h j (by omega) hcS
      simp [mc_sh] at this ⊢; omega
    · have := h j (by omega) hs
      simp [mc_sh, z] at this ⊢; omega
  · have := h c hc hcS
    simp [mc_sh] at this; omega
/-- the number b of the watched cell c: a layout with c shown as b -/
theorem mc_W1 {S : Int32} {ks : List (Nat × Int32)} (hp : List.Perm (mg_flat ks) ((me_E S).map (me_mk S))) (kl : Nat → Int) {T : Int} (hT : ¬ T < 0) {c b : Nat} (hc : c < 20) (hcS : bt S c = true) {w : Nat → Int} (hw : mc_sh c (8 - (b : Int)) w = me_w S kl T) :
    mg_K (fun w => mg_L (bt S) (mc_sh c (8 - (b : Int)) w)) (ks ++ [(me_R S, me_b)]) w = me_Cnt S kl T := by
  rw [← mc_X1 hp kl hT, mg_KG, mg_KG, mc_shG, hw]
theorem mc_W2 {S : Int32} {ks : List (Nat × Int32)} (hp : List.Perm (mg_flat ks) ((me_E S).map (mc_mx S))) (kl : Nat → Int) {T : Int} (hT : T < 0) (T' : Int) {c b : Nat} (hc : c < 20) (hcS : bt S c = true) {w : Nat → Int} (hw : mc_sh c (8 - (b : Int)) w = me_w S kl T') :
    2 ^ me_R S * mg_K (fun w => mg_L' (bt S) (mc_sh c (8 - (b : Int)) w)) ks w = me_Cnt S kl T := by
  rw [← mc_X4 hp kl hT T', mg_KG, mg_KG, mc_shG, hw]
