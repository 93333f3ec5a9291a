/-! the relation, and the small calls -/
/-- both hold the same field: the same shown cells and clues, the same table, the same total; what either keeps of an earlier count is that of this field -/
def i_Rel (_ : Nat) (u : SX) (v : SY) : Prop := match u, v with
  | (f_shown, f_total, f_knownMined, f_knownFree, f_lastKind, f_listed, f_count, f_numbers, f_countedCell, f_countedMines, f_counted, a_around, a_clueOf, a_kindOf, a_cluesOf, a_sizes, a_clueList, a_missing, a_room, a_links, a_laterRoom, a_linkEnd, a_taken, a_most, a_countBefore, a_ways, a_minesIn), (f_totaly, f_edgeCounty, f_coveredCounty, f_knowny, f_sureMinesy, f_sureFreey, a_cluesy, a_aroundy, a_edgey, a_foundy, a_foundWithy) => mr_C f_shown a_cluesy ∧ mr_X f_shown a_cluesy a_clueOf ∧ mr_A a_around ∧ mr_A a_aroundy ∧ f_total = f_totaly ∧ mr_T f_total ∧
    (f_counted = 0 ∨ mr_XC f_shown a_cluesy f_countedCell f_countedMines f_count f_numbers a_kindOf a_sizes a_minesIn) ∧ (f_knowny = 0 ∨ mr_Y f_shown a_cluesy f_edgeCounty f_coveredCounty a_foundy a_foundWithy)
theorem i_up {k : Nat} {u : SX} {v : SY} (h : i_Rel k u v) : i_Rel (k + 3) u v := h
theorem i_vc0 : wpX_init (fun u => wpY_init (fun v => i_Rel 0 u v)) := by
  refine mi_X ?_
  intro f_shown f_total f_knownMined f_knownFree f_lastKind f_listed f_count f_numbers f_countedCell f_countedMines f_counted a_around a_clueOf a_kindOf a_cluesOf a_sizes a_clueList a_missing a_room a_links a_laterRoom a_linkEnd a_taken a_most a_countBefore a_ways a_minesIn hA hcl e1 e2 e3
  refine mi_Y ?_
  intro f_totaly f_edgeCounty f_coveredCounty f_knowny f_sureMinesy f_sureFreey a_cluesy a_aroundy a_edgey a_foundy a_foundWithy hA' hcl' e4 e5
  subst e1 e2 e3 e4 e5
  refine ⟨⟨mr_0l, fun j hj => ⟨fun z => ?_, fun _ => hcl' j hj⟩⟩, fun j hj => ⟨fun z => ?_, fun _ => hcl j hj⟩, hA, hA', rfl, Or.inl rfl, Or.inl rfl, Or.inl rfl⟩
  · rw [b_0] at z; cases z
  · rw [b_0] at z; cases z
theorem mj_Xs {S : Int32} {ac ax : Nat → Int32} (h : mr_X S ac ax) {j : Nat} (hj : j < 20) (x : Int32) : mr_X (S ||| my_bit j) (upd ac j x) (upd ax j x) := by
  intro i hi
  rw [b_or, my_bitb (by omega)]
  by_cases z : i = j
  · subst z
    rw [pk_us, pk_us]
    exact ⟨fun _ => rfl, fun y => by simp at y⟩
  · rw [decide_eq_false z, Bool.or_false, pk_un z, pk_un z]
    exact h i hi
theorem mj_nb {S : Int32} {i j : Nat} (hi : i < 20) (hj : j < 20) : bt (S &&& (my_bit j ^^^ (-1))) i = (bt S i && !decide (i = j)) := by rw [b_and, mr_not _ (by omega), my_bitb (by omega)]
theorem mj_Cc {S : Int32} {ac : Nat → Int32} (h : mr_C S ac) {j : Nat} (hj : j < 20) : mr_C (S &&& (my_bit j ^^^ (-1))) (upd ac j (-1)) := by
  refine ⟨mr_andl h.1 _, fun i hi => ?_⟩
  rw [mj_nb hi hj]
  by_cases z : i = j
  · subst z
    rw [pk_us]
    exact ⟨fun y => by simp at y, fun _ => rfl⟩
  · rw [decide_eq_false z, Bool.not_false, Bool.and_true, pk_un z]
    exact h.2 i hi
theorem mj_Xc {S : Int32} {ac ax : Nat → Int32} (h : mr_X S ac ax) {j : Nat} (hj : j < 20) : mr_X (S &&& (my_bit j ^^^ (-1))) (upd ac j (-1)) (upd ax j (-2)) := by
  intro i hi
  rw [mj_nb hi hj]
  by_cases z : i = j
  · subst z
    rw [pk_us, pk_us]
    exact ⟨fun y => by simp at y, fun _ => rfl⟩
  · rw [decide_eq_false z, Bool.not_false, Bool.and_true, pk_un z, pk_un z]
    exact h i hi
theorem i_vc_show {k : Nat} {u : SX} {v : SY} (I : i_Rel k u v) (hk : k + 3 ≤ 1536) (v1 : Int32) (v2 : Int32) : wpX_show (fun r u' => wpY_show (fun r' v' => r' = r ∧ i_Rel (k + 3) u' v') v v1 v2) u v1 v2 := by
  obtain ⟨f_shown, f_total, f_knownMined, f_knownFree, f_lastKind, f_listed, f_count, f_numbers, f_countedCell, f_countedMines, f_counted, a_around, a_clueOf, a_kindOf, a_cluesOf, a_sizes, a_clueList, a_missing, a_room, a_links, a_laterRoom, a_linkEnd, a_taken, a_most, a_countBefore, a_ways, a_minesIn⟩ := u
  obtain ⟨f_totaly, f_edgeCounty, f_coveredCounty, f_knowny, f_sureMinesy, f_sureFreey, a_cluesy, a_aroundy, a_edgey, a_foundy, a_foundWithy⟩ := v
  have I' := I
  obtain ⟨hC, hX, hA, hA', rfl, hT, hXC, hYC⟩ := I
  unfold wpX_show
  rcases mx_ixv v1 with hb | ⟨j, hj, rfl⟩
  · refine mx_nocell hb (br_t rfl ?_)
    unfold wpY_show
    exact my_nocell hb (br_t rfl ⟨rfl, I'⟩)
  · refine mx_cell hj (br_f mx_10 ?_)
    have vj := vp_in_nI hj (N := 20) (by omega)
    have cj : (nI j).toNatClampNeg = j := nI_clamp (by omega)
    by_cases h0 : v2 < 0
    · refine br_t h0 ?_
      unfold wpY_show
      exact my_cell hj (br_f mx_10 (br_t h0 ⟨rfl, I'⟩))
    · refine br_f h0 ?_
      by_cases h8 : v2 ≤ 8
      · obtain ⟨n, hn, rfl⟩ := nI_of2 (M := 8) (n := 8) (by decide) h0 h8
        refine br_t h8 ⟨vj, nm_e ⟨vj, nm_r (e' := upd a_clueOf j (nI n)) (by rw [cj]) (nm_r (e' := f_shown ||| my_bit j) rfl ?_)⟩⟩
        unfold wpY_show
        refine my_cell hj (br_f mx_10 (br_f h0 (br_t h8 ⟨vj, nm_e ⟨vj, nm_r (e' := upd a_cluesy j (nI n)) (by rw [cj]) ?_⟩⟩)))
        rw [cj]
        have hC' := mr_Cw hC hj hn (ac' := a_cluesy) (fun _ _ _ => rfl)
        have hX' := mj_Xs hX hj (nI n)
        cases hs : bt f_shown j
        · exact br_f (mr_nge hC hj hs) ⟨((hX j hj).2 hs).symm, hC', hX', hA, hA', rfl, hT, Or.inl rfl, Or.inl rfl⟩
        · exact br_t (mr_ge hC hj hs) ⟨((hX j hj).1 hs).symm, hC', hX', hA, hA', rfl, hT, Or.inl rfl, Or.inl rfl⟩
      · refine br_f h8 ?_
        unfold wpY_show
        exact my_cell hj (br_f mx_10 (br_f h0 (br_f h8 ⟨rfl, I'⟩)))
theorem i_vc_cover {k : Nat} {u : SX} {v : SY} (I : i_Rel k u v) (hk : k + 3 ≤ 1536) (v1 : Int32) : wpX_cover (fun r u' => wpY_cover (fun r' v' => r' = r ∧ i_Rel (k + 3) u' v') v v1) u v1 := by
  obtain ⟨f_shown, f_total, f_knownMined, f_knownFree, f_lastKind, f_listed, f_count, f_numbers, f_countedCell, f_countedMines, f_counted, a_around, a_clueOf, a_kindOf, a_cluesOf, a_sizes, a_clueList, a_missing, a_room, a_links, a_laterRoom, a_linkEnd, a_taken, a_most, a_countBefore, a_ways, a_minesIn⟩ := u
  obtain ⟨f_totaly, f_edgeCounty, f_coveredCounty, f_knowny, f_sureMinesy, f_sureFreey, a_cluesy, a_aroundy, a_edgey, a_foundy, a_foundWithy⟩ := v
  have I' := I
  obtain ⟨hC, hX, hA, hA', rfl, hT, hXC, hYC⟩ := I
  unfold wpX_cover
  rcases mx_ixv v1 with hb | ⟨j, hj, rfl⟩
  · refine mx_nocell hb (br_t rfl ?_)
    unfold wpY_cover
    exact my_nocell hb (br_t rfl ⟨rfl, I'⟩)
  · have vj := vp_in_nI hj (N := 20) (by omega)
    have cj : (nI j).toNatClampNeg = j := nI_clamp (by omega)
    refine mx_cell hj (br_f mx_10 ⟨vj, nm_e ⟨vj, nm_r (e' := upd a_clueOf j (-2)) (by rw [cj]) (nm_r (e' := f_shown &&& (my_bit j ^^^ (-1))) rfl ?_)⟩⟩)
    unfold wpY_cover
    refine my_cell hj (br_f mx_10 ⟨vj, nm_e ⟨vj, nm_r (e' := upd a_cluesy j (-1)) (by rw [cj]) ?_⟩⟩)
    rw [cj]
    have hC' := mj_Cc hC hj
    have hX' := mj_Xc hX hj
    cases hs : bt f_shown j
    · exact br_f (mr_nge hC hj hs) ⟨((hX j hj).2 hs).symm, hC', hX', hA, hA', rfl, hT, Or.inl rfl, Or.inl rfl⟩
    · exact br_t (mr_ge hC hj hs) ⟨((hX j hj).1 hs).symm, hC', hX', hA, hA', rfl, hT, Or.inl rfl, Or.inl rfl⟩
theorem i_vc_total {k : Nat} {u : SX} {v : SY} (I : i_Rel k u v) (hk : k + 3 ≤ 1536) (v1 : Int32) : wpX_total (fun r u' => wpY_total (fun r' v' => r' = r ∧ i_Rel (k + 3) u' v') v v1) u v1 := by
  obtain ⟨f_shown, f_total, f_knownMined, f_knownFree, f_lastKind, f_listed, f_count, f_numbers, f_countedCell, f_countedMines, f_counted, a_around, a_clueOf, a_kindOf, a_cluesOf, a_sizes, a_clueList, a_missing, a_room, a_links, a_laterRoom, a_linkEnd, a_taken, a_most, a_countBefore, a_ways, a_minesIn⟩ := u
  obtain ⟨f_totaly, f_edgeCounty, f_coveredCounty, f_knowny, f_sureMinesy, f_sureFreey, a_cluesy, a_aroundy, a_edgey, a_foundy, a_foundWithy⟩ := v
  have I' := I
  obtain ⟨hC, hX, hA, hA', rfl, hT, hXC, hYC⟩ := I
  by_cases h0 : v1 < -1
  · exact br_t h0 (br_t h0 ⟨rfl, I'⟩)
  · by_cases h20 : v1 ≤ 20
    · have hT' : mr_T v1 := by
        by_cases hn : v1 < 0
        · left
          have a1 : ¬ v1.toInt < (-1 : Int32).toInt := fun y => h0 (Int32.lt_iff_toInt_lt.mpr y)
          have a2 := Int32.lt_iff_toInt_lt.mp hn
          have a3 : (0 : Int32).toInt = 0 := by decide
          rw [mw_m1] at a1
          exact Int32.toInt_inj.mp (by rw [mw_m1]; omega)
        · obtain ⟨n, hn20, rfl⟩ := nI_of2 (M := 20) (n := 20) (by decide) hn h20
          exact mr_Tn hn20
      exact br_f h0 (br_t h20 (br_f h0 (br_t h20 ⟨rfl, hC, hX, hA, hA', rfl, hT', hXC, hYC⟩)))
    · exact br_f h0 (br_f h20 (br_f h0 (br_f h20 ⟨rfl, I'⟩)))
theorem i_vc_clue {k : Nat} {u : SX} {v : SY} (I : i_Rel k u v) (hk : k + 3 ≤ 1536) (v1 : Int32) : wpX_clue (fun r => wpY_clue (fun r' => r' = r ∧ i_Rel (k + 3) u v) v v1) u v1 := by
  obtain ⟨f_shown, f_total, f_knownMined, f_knownFree, f_lastKind, f_listed, f_count, f_numbers, f_countedCell, f_countedMines, f_counted, a_around, a_clueOf, a_kindOf, a_cluesOf, a_sizes, a_clueList, a_missing, a_room, a_links, a_laterRoom, a_linkEnd, a_taken, a_most, a_countBefore, a_ways, a_minesIn⟩ := u
  obtain ⟨f_totaly, f_edgeCounty, f_coveredCounty, f_knowny, f_sureMinesy, f_sureFreey, a_cluesy, a_aroundy, a_edgey, a_foundy, a_foundWithy⟩ := v
  have I' := I
  obtain ⟨hC, hX, hA, hA', rfl, hT, hXC, hYC⟩ := I
  unfold wpX_clue
  rcases mx_ixv v1 with hb | ⟨j, hj, rfl⟩
  · refine mx_nocell hb (br_t rfl ?_)
    unfold wpY_clue
    exact my_nocell hb (br_t rfl ⟨rfl, I'⟩)
  · have vj := vp_in_nI hj (N := 20) (by omega)
    have cj : (nI j).toNatClampNeg = j := nI_clamp (by omega)
    refine mx_cell hj (br_f mx_10 ⟨vj, ?_⟩)
    rw [cj]
    unfold wpY_clue
    refine my_cell hj (br_f mx_10 ⟨vj, ?_⟩)
    rw [cj]
    cases hs : bt f_shown j
    · exact br_f (mr_nge hC hj hs) ⟨((hX j hj).2 hs).symm, I'⟩
    · exact br_t (mr_ge hC hj hs) ⟨vj, ((hX j hj).1 hs).symm, I'⟩
theorem i_vc_groups {k : Nat} {u : SX} {v : SY} (I : i_Rel k u v) (hk : k + 3 ≤ 1536) : wpX_groups (fun r => wpY_groups (fun r' => r' = r ∧ i_Rel (k + 3) u v) v) u := by
  obtain ⟨f_shown, f_total, f_knownMined, f_knownFree, f_lastKind, f_listed, f_count, f_numbers, f_countedCell, f_countedMines, f_counted, a_around, a_clueOf, a_kindOf, a_cluesOf, a_sizes, a_clueList, a_missing, a_room, a_links, a_laterRoom, a_linkEnd, a_taken, a_most, a_countBefore, a_ways, a_minesIn⟩ := u
  obtain ⟨f_totaly, f_edgeCounty, f_coveredCounty, f_knowny, f_sureMinesy, f_sureFreey, a_cluesy, a_aroundy, a_edgey, a_foundy, a_foundWithy⟩ := v
  have I' := I
  obtain ⟨hC, hX, hA, hA', rfl, hT, hXC, hYC⟩ := I
  exact mv_gX hA (mv_gY hC hA' ⟨rfl, I'⟩)
theorem i_vc_groupOf {k : Nat} {u : SX} {v : SY} (I : i_Rel k u v) (hk : k + 3 ≤ 1536) (v1 : Int32) : wpX_groupOf (fun r => wpY_groupOf (fun r' => r' = r ∧ i_Rel (k + 3) u v) v v1) u v1 := by
  obtain ⟨f_shown, f_total, f_knownMined, f_knownFree, f_lastKind, f_listed, f_count, f_numbers, f_countedCell, f_countedMines, f_counted, a_around, a_clueOf, a_kindOf, a_cluesOf, a_sizes, a_clueList, a_missing, a_room, a_links, a_laterRoom, a_linkEnd, a_taken, a_most, a_countBefore, a_ways, a_minesIn⟩ := u
  obtain ⟨f_totaly, f_edgeCounty, f_coveredCounty, f_knowny, f_sureMinesy, f_sureFreey, a_cluesy, a_aroundy, a_edgey, a_foundy, a_foundWithy⟩ := v
  have I' := I
  obtain ⟨hC, hX, hA, hA', rfl, hT, hXC, hYC⟩ := I
  unfold wpX_groupOf
  rcases mx_ixv v1 with hb | ⟨j, hj, rfl⟩
  · refine mx_nocell hb (br_t rfl ?_)
    unfold wpY_groupOf
    exact my_nocell hb (br_t rfl ⟨rfl, I'⟩)
  · have hg : me_lo (mv_grp f_shown j) := mr_itl (my_bitlo hj) 20
    refine mx_cell hj (br_f mx_10 (mx_edge hA hj (fun he => br_f mx_10 (mv_gw hA hj (mx_size hg ?_))) (fun he => br_t rfl ?_)))
    · unfold wpY_groupOf
      refine my_cell hj (br_f mx_10 (mv_gs hC hA' hj (fun _ => my_bits hg ⟨rfl, I'⟩) (fun y => ?_)))
      rw [he] at y; cases y
    · unfold wpY_groupOf
      refine my_cell hj (br_f mx_10 (mv_gs hC hA' hj (fun y => ?_) (fun _ => my_bits mr_0l ⟨?_, I'⟩)))
      · rw [he] at y; cases y
      · rw [my_c0]; rfl
