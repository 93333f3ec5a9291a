/-! the small methods -/
theorem mx_b1 (i : Nat) : bt 1 i = decide (i = 0) := by
  rcases Nat.lt_or_ge i 32 with h | h
  · exact (by decide +kernel : ∀ i, i < 32 → bt 1 i = decide (i = 0)) i h
  · rw [b_big h, decide_eq_false (by omega)]
theorem mx_tst (x : Int32) {c : Nat} (hc : c < 32) : (x >>> (nI c &&& 31)) &&& 1 = if bt x c = true then 1 else 0 := by
  apply b_ext
  intro i hi
  rw [b_and, mx_b1]
  by_cases z : i = 0
  · subst z
    rw [b_sshr c hc x (by omega), Nat.add_zero, if_pos hc]
    cases h : bt x c
    · simp [b_0]
    · simp [mx_b1]
  · rw [decide_eq_false z, Bool.and_false]
    cases h : bt x c
    · simp [b_0]
    · simp [mx_b1, z]
theorem mx_t0 {x : Int32} {c : Nat} (hc : c < 32) (h : bt x c = false) : (x >>> (nI c &&& 31)) &&& 1 = 0 := by rw [mx_tst x hc, h]; rfl
theorem mx_t1 {x : Int32} {c : Nat} (hc : c < 32) (h : bt x c = true) : (x >>> (nI c &&& 31)) &&& 1 = 1 := by rw [mx_tst x hc, h]; rfl
theorem mx_10 : ¬ (1 : Int32) = 0 := by decide
theorem mx_01 : ¬ (0 : Int32) = 1 := by decide
theorem mx_t0' {x : Int32} {c : Nat} (hc : c < 32) (h : bt x c = true) : ¬ (x >>> (nI c &&& 31)) &&& 1 = 0 := by rw [mx_t1 hc h]; exact mx_10
theorem mx_t1' {x : Int32} {c : Nat} (hc : c < 32) (h : bt x c = false) : ¬ (x >>> (nI c &&& 31)) &&& 1 = 1 := by rw [mx_t0 hc h]; exact mx_01
theorem mx_has {post : Int32 → Prop} {x : Int32} {c : Nat} (hc : c < 32) (h1 : bt x c = true → post 1) (h0 : bt x c = false → post 0) : wpX_has post x (nI c) := by
  cases h : bt x c
  · exact br_t (mx_t0 hc h) (h0 h)
  · exact br_f (mx_t0' hc h) (h1 h)
theorem mx_ixv (v : Int32) : (v < 0 ∨ (¬ v < 0 ∧ 20 ≤ v)) ∨ ∃ j, j < 20 ∧ v = nI j := by
  rcases pk_ix v (n := 20) (by omega) with h | h | h
  · exact Or.inl (Or.inl h)
  · refine Or.inl (Or.inr ⟨fun z => ?_, h⟩)
    have : (0 : Int32) < 0 := Int32.lt_of_lt_of_le (b := nI 20) (by decide) (Int32.le_trans h (Int32.le_of_lt z))
    exact absurd this (by decide)
  · exact Or.inr h
theorem mx_20 {j : Nat} (h : j < 20) : ¬ (20 : Int32) ≤ nI j := nI_ge (b := 20) h (by omega)
theorem mx_19 {j : Nat} (h : j < 20) : ¬ (19 : Int32) < nI j := nI_nlt (a := 19) (by omega) (by omega)
theorem mx_cell {post : Int32 → Prop} {j : Nat} (h : j < 20) (hp : post 1) : wpX_isCell post (nI j) := br_f (nI_pos (by omega)) (br_f (mx_20 h) hp)
theorem mx_nocell {post : Int32 → Prop} {v : Int32} (h : v < 0 ∨ (¬ v < 0 ∧ 20 ≤ v)) (hp : post 0) : wpX_isCell post v := by
  rcases h with h | ⟨h, h2⟩
  · exact br_t h hp
  · exact br_f h (br_t h2 hp)
theorem my_cell {post : Int32 → Prop} {u : SY} {j : Nat} (h : j < 20) (hp : post 1) : wpY_isCell post u (nI j) := br_f (nI_pos (by omega)) (br_f (mx_19 h) hp)
theorem my_nocell {post : Int32 → Prop} {u : SY} {v : Int32} (h : v < 0 ∨ (¬ v < 0 ∧ 20 ≤ v)) (hp : post 0) : wpY_isCell post u v := by
  rcases h with h | ⟨h, h2⟩
  · exact br_t h hp
  · exact br_f h (br_t (Int32.lt_of_lt_of_le (b := 20) (by decide) h2) hp)
theorem mx_nmod (n : Nat) : nI n = nI (n % 4294967296) := by
  apply Int32.toBitVec_inj.1
  show BitVec.ofNat 32 n = BitVec.ofNat 32 (n % 4294967296)
  apply BitVec.eq_of_toNat_eq
  simp
theorem mx_pc {x : Int32} {n : Nat} (hn : n < 2 ^ 20) (hx : x = nI n) : me_c x = mb_pb 20 n := by
  rw [hx, me_c, ← mb_pbcn]
  exact mb_eq (fun i _ => me_btN hn i)
theorem mx_pbs (n : Nat) : mb_pb 8 n ≤ 8 ∧ mb_pb 8 (n / 256) ≤ 8 ∧ mb_pb 4 (n / 65536) ≤ 4 := ⟨mb_pb_le _ _, mb_pb_le _ _, mb_pb_le _ _⟩
theorem mx_T1b : ∀ k n, mb_T1 k n < 4 ^ k
  | 0, _ => by simp [mb_T1]
  | k + 1, n => by have := mx_T1b k (n / 4); simp only [mb_T1, Nat.pow_succ]; omega
theorem mx_T2b : ∀ k n, mb_T2 k n < 16 ^ k
  | 0, _ => by simp [mb_T2]
  | k + 1, n => by have := mx_T2b k (n / 16); simp only [mb_T2, Nat.pow_succ]; omega
theorem mx_ml {x0 x1 x2 : Nat} (h0 : x0 ≤ 8) (h1 : x1 ≤ 8) (h2 : x2 ≤ 4) : (x0 + 256 * x1 + 65536 * x2) * 16843009 % 4294967296 / 16777216 = x0 + x1 + x2 := by
  have e : (x0 + 256 * x1 + 65536 * x2) * 16843009 = 4294967296 * (x1 + 257 * x2) + (16777216 * (x0 + x1 + x2) + (x0 + 256 * (x0 + x1) + 65536 * (x0 + x1 + x2))) := by omega
  rw [e, Nat.mul_add_mod, Nat.mod_eq_of_lt (by omega)]
  omega
theorem mx_size {post : Int32 → Prop} {x : Int32} (hx : me_lo x) (h : post (nI (me_c x))) : wpX_sizeOf post x := by
  obtain ⟨n, hn, e⟩ := me_loN hx
  rw [mx_pc hn e] at h
  subst e
  have c1 : (n &&& 1431655765) + (n / 2 &&& 1431655765) = mb_T1 16 n := mb_t1 16 n
  have b1 : mb_T1 16 n < 4294967296 := mx_T1b 16 n
  have c2 : (mb_T1 16 n &&& 858993459) + (mb_T1 16 n / 4 &&& 858993459) = mb_T2 8 (mb_T1 16 n) := mb_t2 8 _
  have b2 : mb_T2 8 (mb_T1 16 n) < 4294967296 := mx_T2b 8 _
  have c3 : (mb_T2 8 (mb_T1 16 n) &&& 252645135) + (mb_T2 8 (mb_T1 16 n) / 16 &&& 252645135) = mb_T3 4 (mb_T2 8 (mb_T1 16 n)) := mb_t3 4 _
  have c4 := mb_X n hn
  have c5 := mb_pb20 n
  obtain ⟨d1, d2, d3⟩ := mx_pbs n
  refine nm_r (e' := nI (mb_T1 16 n)) ?_ (nm_r (e' := nI (mb_T2 8 (mb_T1 16 n))) ?_ (nm_r (e' := nI (mb_T3 4 (mb_T2 8 (mb_T1 16 n)))) ?_ ?_))
  · rw [pk_ushrN (by omega) 1 1 (by decide), show (1431655765 : Int32) = nI 1431655765 from rfl, nx_and, nx_and, nI_add, Nat.pow_one, c1]
  · rw [pk_ushrN (by omega) 2 2 (by decide), show (858993459 : Int32) = nI 858993459 from rfl, nx_and, nx_and, nI_add, show (2 : Nat) ^ 2 = 4 from rfl, c2]
  · rw [pk_ushrN (by omega) 4 4 (by decide), show (252645135 : Int32) = nI 252645135 from rfl, nx_and, nx_and, nI_add, show (2 : Nat) ^ 4 = 16 from rfl, c3]
  · rw [c4, show (16843009 : Int32) = nI 16843009 from rfl, pk_mul, mx_nmod, pk_ushrN (Nat.mod_lt _ (by omega)) 24 24 (by decide), show (2 : Nat) ^ 24 = 16777216 from rfl]
    have this := mx_ml d1 d2 d3
    rw [← c5] at this
    rw [this]
    exact h
theorem my_bits {post : Int32 → Prop} {u : SY} {x : Int32} (hx : me_lo x) (h : post (nI (me_c x))) : wpY_bits post u x := by
  obtain ⟨n, hn, e⟩ := me_loN hx
  rw [mx_pc hn e] at h
  subst e
  have c1 : (n &&& 349525) + (n / 2 &&& 349525) = mb_T1 10 n := mb_t1 10 n
  have b1 : mb_T1 10 n < 1048576 := mx_T1b 10 n
  have c2 : (mb_T1 10 n &&& 209715) + (mb_T1 10 n / 4 &&& 209715) = mb_T2 5 (mb_T1 10 n) := mb_t2 5 _
  have b2 : mb_T2 5 (mb_T1 10 n) < 1048576 := mx_T2b 5 _
  have c3 : (mb_T2 5 (mb_T1 10 n) &&& 986895) + (mb_T2 5 (mb_T1 10 n) / 16 &&& 986895) = mb_T3 3 (mb_T2 5 (mb_T1 10 n)) := mb_t3 3 _
  have c4 := mb_Y n hn
  have c5 := mb_pb20 n
  obtain ⟨d1, d2, d3⟩ := mx_pbs n
  refine nm_r (e' := nI (mb_T1 10 n)) ?_ (nm_r (e' := nI (mb_T2 5 (mb_T1 10 n))) ?_ (nm_r (e' := nI (mb_T3 3 (mb_T2 5 (mb_T1 10 n)))) ?_ ?_))
  · rw [pk_shrN (by omega) _ 1 (by decide), show (349525 : Int32) = nI 349525 from rfl, nx_and, nx_and, nI_add, Nat.pow_one, c1]
  · rw [pk_shrN (by omega) _ 2 (by decide), show (209715 : Int32) = nI 209715 from rfl, nx_and, nx_and, nI_add, show (2 : Nat) ^ 2 = 4 from rfl, c2]
  · rw [pk_shrN (by omega) _ 4 (by decide), show (986895 : Int32) = nI 986895 from rfl, nx_and, nx_and, nI_add, show (2 : Nat) ^ 4 = 16 from rfl, c3]
  · rw [c4]
    generalize mb_pb 8 n = x0 at *
    generalize mb_pb 8 (n / 256) = x1 at *
    generalize mb_pb 4 (n / 65536) = x2 at *
    rw [pk_shrN (by omega) _ 8 (by decide), pk_shrN (by omega) _ 16 (by decide), pk_andN (by omega) 8 (by decide), pk_andN (by omega) 8 (by decide), nI_add, nI_add]
    have : (x0 + 256 * x1 + 65536 * x2) % 2 ^ 8 + (x0 + 256 * x1 + 65536 * x2) / 2 ^ 8 % 2 ^ 8 + (x0 + 256 * x1 + 65536 * x2) / 2 ^ 16 = mb_pb 20 n := by omega
    rw [this]
    exact h
theorem mx_choose {post : Int32 → Prop} {s t : Nat} (hs : s ≤ 20) (ht : t ≤ s) (h : post (nI (mg_ch s t))) : wpX_choose post (nI s) (nI t) := by
  refine loop_0 (σ := Int32) (fun n i x => wX_choose_4 post (nI s) (nI t) n x (nI i)) (fun i x => x = nI (mg_ch s i)) t 1 (by rw [mg_ch0]; rfl) (fun n x hx => ?_) (fun n i x hi hx hk => ?_)
  · subst hx
    exact br_t (nI_le (by omega) (by omega)) h
  · subst hx
    have hb := mg_chb s i
    have hb2 : mg_ch s i ≤ 2 ^ 20 := Nat.le_trans hb (Nat.pow_le_pow_right (by omega) hs)
    refine br_f (nI_ge hi (by omega)) ⟨?_, nm_r (e' := nI (mg_ch s (i + 1))) ?_ (nm_r (nI_1 i) (hk _ rfl))⟩
    · rw [nI_1]; exact nI_ne0 (by omega) (by omega)
    · rw [nI_1, pk_sub (by omega), pk_mul, pk_div _ (by omega) (by omega)]
      · rw [Nat.mul_comm (mg_ch s i), ← mg_chs, Nat.mul_div_cancel_left _ (by omega)]
      · have : mg_ch s i * (s - i) ≤ 2 ^ 20 * 20 := Nat.mul_le_mul hb2 (by omega)
        omega
variable {f_total f_edgeCount f_coveredCount f_known f_sureMines f_sureFree : Int32} {a_clues a_around a_edge a_found a_foundWith : Nat → Int32}
theorem my_choices {post : Int32 → Prop} {s : Nat} {k : Int} {x : Int32} (hs : s ≤ 20) (hx : x.toInt = k) (h : post (nI (mg_C s k))) : wpY_choices post (f_total, f_edgeCount, f_coveredCount, f_known, f_sureMines, f_sureFree, a_clues, a_around, a_edge, a_found, a_foundWith) (nI s) x := by
  by_cases z : x < 0
  · have : k < 0 := by rw [← hx]; exact Int32.lt_iff_toInt_lt.mp z
    rw [mg_C, if_pos this] at h
    exact br_t z h
  · obtain ⟨t, ht, rfl⟩ := nI_of z
    rw [nI_toInt ht] at hx
    subst hx
    rw [mg_C, if_neg (by omega), Int.toNat_natCast] at h
    refine br_f z (pk_le t s (fun hts => ?_) (fun hts => ?_))
    · refine loop_0 (σ := Int64) (fun n i x => wY_choices_16 post (nI s) (nI t) f_total f_edgeCount f_coveredCount f_known f_sureMines f_sureFree a_clues a_around a_edge a_found a_foundWith n x (nI i)) (fun i x => x = lN (mg_ch s i)) t 1 (by rw [mg_ch0]; rfl) (fun n x hx => ?_) (fun n i x hi hx hk => ?_)
      · subst hx
        refine br_t (nI_le (by omega) (by omega)) ?_
        rw [lN_i]; exact h
      · subst hx
        have hb := mg_chb s i
        have hb2 : mg_ch s i ≤ 2 ^ 20 := Nat.le_trans hb (Nat.pow_le_pow_right (by omega) hs)
        refine br_f (nI_ge hi (by omega)) ⟨?_, nm_r (e' := lN (mg_ch s (i + 1))) ?_ (nm_r (nI_1 i) (hk _ rfl))⟩
        · rw [nI_1, nI_l (by omega)]
          intro z
          have := (lN_eq (a := i + 1) (b := 0) (by omega) (by omega)).mp z
          omega
        · have hb3 : mg_ch s i * (s - i) ≤ 2 ^ 20 * 20 := Nat.mul_le_mul hb2 (by omega)
          rw [nI_1, pk_sub (by omega), nI_l (by omega), nI_l (by omega), lN_mul, pk_lDiv (by omega) (by omega) (by omega)]
          rw [Nat.mul_comm (mg_ch s i), ← mg_chs, Nat.mul_div_cancel_left _ (by omega)]
    · rw [mg_chz hts] at h
      exact h
