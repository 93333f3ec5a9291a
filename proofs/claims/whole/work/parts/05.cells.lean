/-! the field -/
def me_tab : List Nat := [98, 229, 458, 916, 776, 3139, 7335, 14670, 29340, 24856, 100448, 234720, 469440, 938880, 795392, 68608, 171008, 342016, 684032, 286720]
def me_t (c : Nat) : Int32 := nI (me_tab.getD c 0)
def me_nr (c d : Nat) : Bool := decide (c ≠ d ∧ c / 5 ≤ d / 5 + 1 ∧ d / 5 ≤ c / 5 + 1 ∧ c % 5 ≤ d % 5 + 1 ∧ d % 5 ≤ c % 5 + 1)
theorem me_bt : ∀ c, c < 20 → ∀ d, d < 32 → bt (me_t c) d = (decide (d < 20) && me_nr c d) := by decide +kernel
theorem me_sym (c d : Nat) : me_nr c d = me_nr d c := decide_eq_decide.mpr ⟨fun h => ⟨fun z => h.1 z.symm, h.2.2.1, h.2.1, h.2.2.2.2, h.2.2.2.1⟩, fun h => ⟨fun z => h.1 z.symm, h.2.2.1, h.2.1, h.2.2.2.2, h.2.2.2.1⟩⟩
theorem me_btS {c d : Nat} (hc : c < 20) (hd : d < 20) : bt (me_t c) d = bt (me_t d) c := by
  rw [me_bt c hc d (by omega), me_bt d hd c (by omega), me_sym, decide_eq_true hc, decide_eq_true hd]
theorem me_btH {c d : Nat} (hc : c < 20) (hd : 20 ≤ d) : bt (me_t c) d = false := by
  rcases Nat.lt_or_ge d 32 with h | h
  · rw [me_bt c hc d h, decide_eq_false (by omega)]; rfl
  · exact b_big h
theorem me_self {c : Nat} (hc : c < 20) : bt (me_t c) c = false := by
  rw [me_bt c hc c (by omega)]
  simp [me_nr]
theorem me_le8 : ∀ c, c < 20 → mb_cn (bt (me_t c)) 20 ≤ 8 := by decide +kernel
def me_b : Int32 := nI 1048576
theorem me_bb (j : Nat) : bt me_b j = decide (j = 20) := by
  rcases Nat.lt_or_ge j 32 with h | h
  · exact (by decide +kernel : ∀ j, j < 32 → bt me_b j = decide (j = 20)) j h
  · rw [b_big h, decide_eq_false (by omega)]
/-- a mask of cells alone -/
def me_lo (x : Int32) : Prop := ∀ j, 20 ≤ j → bt x j = false
theorem me_ext {x y : Int32} (hx : me_lo x) (hy : me_lo y) (h : ∀ j, j < 20 → bt x j = bt y j) : x = y := b_ext (fun i _ => by
  rcases Nat.lt_or_ge i 20 with z | z
  · exact h i z
  · rw [hx i z, hy i z])
theorem me_loN {x : Int32} (h : me_lo x) : ∃ n, n < 2 ^ 20 ∧ x = nI n := by
  refine ⟨x.toBitVec.toNat, ?_, ?_⟩
  · apply Nat.lt_pow_two_of_testBit
    intro i hi
    have := h i hi
    rw [← this]
    rfl
  · apply Int32.toBitVec_inj.1
    show x.toBitVec = BitVec.ofNat 32 x.toBitVec.toNat
    simp
theorem me_btN {n : Nat} (h : n < 2 ^ 20) (i : Nat) : bt (nI n) i = n.testBit i := by
  show (BitVec.ofNat 32 n).getLsbD i = _
  rw [BitVec.getLsbD_ofNat]
  rcases Nat.lt_or_ge i 32 with z | z
  · simp [z]
  · have : n.testBit i = false := Nat.testBit_lt_two_pow (Nat.lt_of_lt_of_le h (Nat.pow_le_pow_right (by omega) (by omega)))
    simp [this]
theorem me_0 {x : Int32} (hx : me_lo x) : x = 0 ↔ ∀ j, j < 20 → bt x j = false := by
  constructor
  · intro h j _; rw [h, b_0]
  · intro h; exact me_ext hx (fun j _ => b_0 j) (fun j hj => by rw [h j hj, b_0])
/-- the number of cells of a set -/
def me_c (x : Int32) : Nat := mb_cn (bt x) 20
def me_ed (S : Int32) (c : Nat) : Bool := !bt S c && decide (me_t c &&& S ≠ 0)
def me_ot (S : Int32) (c : Nat) : Bool := !bt S c && decide (me_t c &&& S = 0)
def me_E (S : Int32) : List Nat := (List.range 20).filter (me_ed S)
def me_R (S : Int32) : Nat := mb_cn (me_ot S) 20
def me_mk (S : Int32) (c : Nat) : Int32 := (me_t c &&& S) ||| me_b
def me_w (S : Int32) (kl : Nat → Int) (T : Int) : Nat → Int := fun j => if j = 20 then T else if bt S j = true then kl j else 0
theorem me_E_mem {S : Int32} {c : Nat} : c ∈ me_E S ↔ c < 20 ∧ me_ed S c = true := by simp [me_E]
theorem me_E_nd (S : Int32) : (me_E S).Nodup := List.Pairwise.filter _ List.nodup_range
theorem me_E_len (S : Int32) : (me_E S).length = mb_cn (me_ed S) 20 := (mb_filter _ _).symm
theorem me_ER (S : Int32) : (me_E S).length + me_R S = mb_cn (fun c => !bt S c) 20 := by
  rw [me_E_len, me_R, mb_split (fun c => !bt S c) (fun c => decide (me_t c &&& S ≠ 0)) 20]
  congr 1
  refine mb_eq (fun c _ => ?_)
  simp [me_ot]
theorem me_ER20 (S : Int32) : (me_E S).length + me_R S ≤ 20 := by rw [me_ER]; exact mb_le _ _
theorem me_w_set (S : Int32) (kl : Nat → Int) (T T' : Int) : mg_set (me_w S kl T') T = me_w S kl T := by
  funext j
  simp only [mg_set, me_w]
  by_cases h : j = 20 <;> simp [h]
theorem me_mk20 {S : Int32} (c : Nat) : bt (me_mk S c) 20 = true := by rw [me_mk, b_or, me_bb]; simp
theorem me_mkb (S : Int32) {c j : Nat} (hj : j < 20) : bt (me_mk S c) j = (bt (me_t c) j && bt S j) := by
  rw [me_mk, b_or, me_bb, b_and, decide_eq_false (by omega), Bool.or_false]
noncomputable def me_F (S : Int32) (kl : Nat → Int) (m : Int) : Nat := mg_G (mg_L (bt S)) ((me_E S).map (me_mk S)) (me_w S kl m)
noncomputable def me_Fc (S : Int32) (kl : Nat → Int) (c : Nat) (m : Int) : Nat := mg_G (mg_L (bt S)) (((me_E S).erase c).map (me_mk S)) (mg_sub (me_w S kl m) (me_mk S c))
noncomputable def me_Cnt (S : Int32) (kl : Nat → Int) (T : Int) : Nat :=
  if T < 0 then 2 ^ me_R S * mg_G (mg_L' (bt S)) ((me_E S).map (me_mk S)) (me_w S kl 0) else mg_G (mg_L (bt S)) (List.replicate (me_R S) me_b ++ (me_E S).map (me_mk S)) (me_w S kl T)
noncomputable def me_Min (S : Int32) (kl : Nat → Int) (T : Int) (c : Nat) : Nat :=
  if me_ed S c = true then
    (if T < 0 then 2 ^ me_R S * mg_G (mg_L' (bt S)) (((me_E S).erase c).map (me_mk S)) (mg_sub (me_w S kl 0) (me_mk S c))
      else mg_G (mg_L (bt S)) (List.replicate (me_R S) me_b ++ ((me_E S).erase c).map (me_mk S)) (mg_sub (me_w S kl T) (me_mk S c)))
  else
    (if T < 0 then 2 ^ (me_R S - 1) * mg_G (mg_L' (bt S)) ((me_E S).map (me_mk S)) (me_w S kl 0)
      else mg_G (mg_L (bt S)) (List.replicate (me_R S - 1) me_b ++ (me_E S).map (me_mk S)) (me_w S kl (T - 1)))
/-! the reference's sums -/
theorem me_Y0 (S : Int32) (kl : Nat → Int) {T : Int} (h : T < 0) : mg_sum (fun m => me_F S kl m * 2 ^ me_R S) 21 = me_Cnt S kl T := by
  rw [me_Cnt, if_pos h, mg_sum_eq (g := fun m : Nat => 2 ^ me_R S * mg_G (mg_L (bt S)) ((me_E S).map (me_mk S)) (mg_set (me_w S kl 0) ((m : Int) - (0 : Nat)))), mg_sum_mul, mg_nt]
  · intro m hm
    obtain ⟨c, -, rfl⟩ := List.mem_map.mp hm
    exact me_mk20 c
  · have := me_ER20 S; simp; omega
  · intro i _
    rw [me_F, me_w_set, Nat.mul_comm, show (i : Int) - ((0 : Nat) : Int) = i by omega]
theorem me_Y1 (S : Int32) (kl : Nat → Int) (T : Int) (r : Nat) : mg_sum (fun m => me_F S kl m * mg_C r (T - m)) 21 = mg_G (mg_L (bt S)) (List.replicate r me_b ++ (me_E S).map (me_mk S)) (me_w S kl T) := by
  have h := mg_wt (bt S) me_b me_bb ((me_E S).map (me_mk S)) (me_w S kl 0) 0 (by have := me_ER20 S; simp; omega) r T
  rw [me_w_set, show T - ((0 : Nat) : Int) = T by omega] at h
  rw [← h]
  refine mg_sum_eq (fun m _ => ?_)
  rw [me_F, me_w_set, show (m : Int) - ((0 : Nat) : Int) = m by omega]
theorem me_Er {S : Int32} {c : Nat} (h : c ∈ me_E S) : ((me_E S).erase c).length + 1 = (me_E S).length := by
  have h1 := List.length_erase_of_mem h
  have h2 := List.length_pos_of_mem h
  omega
theorem me_Fc' (S : Int32) (kl : Nat → Int) (c : Nat) (m : Int) : me_Fc S kl c m = mg_G (mg_L (bt S)) (((me_E S).erase c).map (me_mk S)) (mg_set (mg_sub (me_w S kl 0) (me_mk S c)) (m - 1)) := by
  rw [me_Fc, ← mg_set_sub (me_mk20 c), me_w_set]
theorem me_Y2 (S : Int32) (kl : Nat → Int) {T : Int} {c : Nat} (h : T < 0) (hc : c < 20) (he : me_ed S c = true) : mg_sum (fun m => me_Fc S kl c m * 2 ^ me_R S) 21 = me_Min S kl T c := by
  have hm := me_E_mem.mpr ⟨hc, he⟩
  have hl := me_Er hm
  rw [me_Min, if_pos he, if_pos h, mg_sum_eq (g := fun m : Nat => 2 ^ me_R S * mg_G (mg_L (bt S)) (((me_E S).erase c).map (me_mk S)) (mg_set (mg_sub (me_w S kl 0) (me_mk S c)) ((m : Int) - (1 : Nat)))), mg_sum_mul, mg_nt]
  · intro m hm
    obtain ⟨c, -, rfl⟩ := List.mem_map.mp hm
    exact me_mk20 c
  · have := me_ER20 S; rw [List.length_map]; omega
  · intro i _
    rw [me_Fc', Nat.mul_comm]
    rfl
theorem me_Y3 (S : Int32) (kl : Nat → Int) {T : Int} {c : Nat} (h : ¬ T < 0) (hc : c < 20) (he : me_ed S c = true) : mg_sum (fun m => me_Fc S kl c m * mg_C (me_R S) (T - m)) 21 = me_Min S kl T c := by
  have hm := me_E_mem.mpr ⟨hc, he⟩
  have hl := me_Er hm
  have hw := mg_wt (bt S) me_b me_bb (((me_E S).erase c).map (me_mk S)) (mg_sub (me_w S kl 0) (me_mk S c)) 1 (by have := me_ER20 S; rw [List.length_map]; omega) (me_R S) T
  rw [me_Min, if_pos he, if_neg h]
  have e : mg_sub (me_w S kl T) (me_mk S c) = mg_set (mg_sub (me_w S kl 0) (me_mk S c)) (T - ((1 : Nat) : Int)) := by
    rw [show T - ((1 : Nat) : Int) = T - 1 from rfl, ← mg_set_sub (me_mk20 c), me_w_set]
  rw [e, ← hw]
  refine mg_sum_eq (fun m _ => ?_)
  rw [me_Fc']
  rfl
theorem me_Y4 (S : Int32) (kl : Nat → Int) {T : Int} {c : Nat} (h : T < 0) (he : ¬ me_ed S c = true) : mg_sum (fun m => me_F S kl m * 2 ^ (me_R S - 1)) 21 = me_Min S kl T c := by
  rw [me_Min, if_neg he, if_pos h, mg_sum_eq (g := fun m : Nat => 2 ^ (me_R S - 1) * mg_G (mg_L (bt S)) ((me_E S).map (me_mk S)) (mg_set (me_w S kl 0) ((m : Int) - (0 : Nat)))), mg_sum_mul, mg_nt]
  · intro m hm
    obtain ⟨c, -, rfl⟩ := List.mem_map.mp hm
    exact me_mk20 c
  · have := me_ER20 S; simp; omega
  · intro i _
    rw [me_F, me_w_set, Nat.mul_comm, show (i : Int) - ((0 : Nat) : Int) = i by omega]
theorem me_Y5 (S : Int32) (kl : Nat → Int) {T : Int} {c : Nat} (h : ¬ T < 0) (he : ¬ me_ed S c = true) : mg_sum (fun m => me_F S kl m * mg_C (me_R S - 1) (T - (m + 1 : Nat))) 21 = me_Min S kl T c := by
  rw [me_Min, if_neg he, if_neg h, ← me_Y1]
  refine mg_sum_eq (fun m _ => ?_)
  congr 2
  omega
theorem me_L1 (sh : Nat → Bool) (w : Nat → Int) : mg_L sh w ≤ 1 := mg_i_le _
theorem me_L1' (sh : Nat → Bool) (w : Nat → Int) : mg_L' sh w ≤ 1 := mg_i_le _
theorem me_Cb (S : Int32) (kl : Nat → Int) (T : Int) : me_Cnt S kl T ≤ 2 ^ 20 := by
  have hl := me_ER20 S
  have mono : ∀ a, a ≤ 20 → 2 ^ a ≤ 2 ^ 20 := fun a ha => Nat.pow_le_pow_right (by omega) ha
  rw [me_Cnt]
  split
  · have h := mg_bound (me_L1' (bt S)) ((me_E S).map (me_mk S)) (me_w S kl 0)
    rw [List.length_map] at h
    refine Nat.le_trans (Nat.mul_le_mul_left _ h) ?_
    rw [← Nat.pow_add]
    exact mono _ (by omega)
  · have h := mg_bound (me_L1 (bt S)) (List.replicate (me_R S) me_b ++ (me_E S).map (me_mk S)) (me_w S kl T)
    rw [List.length_append, List.length_replicate, List.length_map] at h
    exact Nat.le_trans h (mono _ (by omega))
theorem me_Mb (S : Int32) (kl : Nat → Int) (T : Int) (c : Nat) (hc : c < 20) : me_Min S kl T c ≤ 2 ^ 20 := by
  have hl := me_ER20 S
  have mono : ∀ a, a ≤ 20 → 2 ^ a ≤ 2 ^ 20 := fun a ha => Nat.pow_le_pow_right (by omega) ha
  rw [me_Min]
  split
  · rename_i he
    have hm := me_Er (me_E_mem.mpr ⟨hc, he⟩)
    split
    · have h := mg_bound (me_L1' (bt S)) (((me_E S).erase c).map (me_mk S)) (mg_sub (me_w S kl 0) (me_mk S c))
      rw [List.length_map] at h
      refine Nat.le_trans (Nat.mul_le_mul_left _ h) ?_
      rw [← Nat.pow_add]
      exact mono _ (by omega)
    · have h := mg_bound (me_L1 (bt S)) (List.replicate (me_R S) me_b ++ ((me_E S).erase c).map (me_mk S)) (mg_sub (me_w S kl T) (me_mk S c))
      rw [List.length_append, List.length_replicate, List.length_map] at h
      exact Nat.le_trans h (mono _ (by omega))
  · split
    · have h := mg_bound (me_L1' (bt S)) ((me_E S).map (me_mk S)) (me_w S kl 0)
      rw [List.length_map] at h
      refine Nat.le_trans (Nat.mul_le_mul_left _ h) ?_
      rw [← Nat.pow_add]
      exact mono _ (by omega)
    · have h := mg_bound (me_L1 (bt S)) (List.replicate (me_R S - 1) me_b ++ (me_E S).map (me_mk S)) (me_w S kl (T - 1))
      rw [List.length_append, List.length_replicate, List.length_map] at h
      exact Nat.le_trans h (mono _ (by omega))
