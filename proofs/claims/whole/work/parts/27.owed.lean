/-! the counting calls and the rules -/
theorem i_vc_layouts {k : Nat} {u : SX} {v : SY} (I : i_Rel k u v) (hk : k + 3 ≤ 1536) : wpX_layouts (fun r u' => wpY_layouts (fun r' v' => r' = r ∧ i_Rel (k + 3) u' v') v) u := by
  obtain ⟨f_shown, f_total, f_knownMined, f_knownFree, f_lastKind, f_listed, f_count, f_numbers, f_countedCell, f_countedMines, f_counted, a_around, a_clueOf, a_kindOf, a_cluesOf, a_sizes, a_clueList, a_missing, a_room, a_links, a_laterRoom, a_linkEnd, a_taken, a_most, a_countBefore, a_ways, a_minesIn⟩ := u
  obtain ⟨f_totaly, f_edgeCounty, f_coveredCounty, f_knowny, f_sureMinesy, f_sureFreey, a_cluesy, a_aroundy, a_edgey, a_foundy, a_foundWithy⟩ := v
  obtain ⟨hC, hX, hA, hA', rfl, hT, hXC, hYC⟩ := I
  unfold wpX_layouts
  refine mw_count hC hX hA hXC (Or.inl rfl) hT ?_
  intro a1 a2 a3 a4 a5 a6 a7 a8 a9 b1 b2 b3 b4 b5 b6 b7 b8 b9 c1 c2 c3 hc hx
  unfold wpY_layouts
  refine my_count hC hA' hT hYC (fun ec cc kn ae fd fw hkn hY => ?_)
  exact ⟨((mv_un hx).1).symm, hC, hX, hA, hA', rfl, hT, hc, Or.inr hY⟩
theorem i_vc_mined {k : Nat} {u : SX} {v : SY} (I : i_Rel k u v) (hk : k + 3 ≤ 1536) (v1 : Int32) : wpX_mined (fun r u' => wpY_mined (fun r' v' => r' = r ∧ i_Rel (k + 3) u' v') v v1) u v1 := by
  obtain ⟨f_shown, f_total, f_knownMined, f_knownFree, f_lastKind, f_listed, f_count, f_numbers, f_countedCell, f_countedMines, f_counted, a_around, a_clueOf, a_kindOf, a_cluesOf, a_sizes, a_clueList, a_missing, a_room, a_links, a_laterRoom, a_linkEnd, a_taken, a_most, a_countBefore, a_ways, a_minesIn⟩ := u
  obtain ⟨f_totaly, f_edgeCounty, f_coveredCounty, f_knowny, f_sureMinesy, f_sureFreey, a_cluesy, a_aroundy, a_edgey, a_foundy, a_foundWithy⟩ := v
  have I' := I
  obtain ⟨hC, hX, hA, hA', rfl, hT, hXC, hYC⟩ := I
  unfold wpX_mined
  rcases mx_ixv v1 with hb | ⟨j, hj, rfl⟩
  · refine mx_nocell hb (br_t rfl ?_)
    unfold wpY_mined
    exact my_nocell hb (br_t rfl ⟨rfl, I'⟩)
  · refine mx_cell hj (br_f mx_10 (mx_has (by omega) (fun hs => br_f mx_10 ?_) (fun hs => br_t rfl ?_)))
    · unfold wpY_mined
      refine my_cell hj (br_f mx_10 (my_mined hC hA' hT hYC hj (fun ec cc kn ae fd fw hkn hY => ?_)))
      rw [hs, if_pos rfl]
      exact ⟨rfl, hC, hX, hA, hA', rfl, hT, hXC, Or.inr hY⟩
    · refine mw_count hC hX hA hXC (Or.inl rfl) hT ?_
      intro a1 a2 a3 a4 a5 a6 a7 a8 a9 b1 b2 b3 b4 b5 b6 b7 b8 b9 c1 c2 c3 hc hx
      refine mv_mined hx hj hs ?_
      unfold wpY_mined
      refine my_cell hj (br_f mx_10 (my_mined hC hA' hT hYC hj (fun ec cc kn ae fd fw hkn hY => ?_)))
      rw [hs, if_neg (by simp)]
      exact ⟨rfl, hC, hX, hA, hA', rfl, hT, hc, Or.inr hY⟩
theorem i_vc_free {k : Nat} {u : SX} {v : SY} (I : i_Rel k u v) (hk : k + 3 ≤ 1536) : wpX_free (fun r u' => wpY_free (fun r' v' => r' = r ∧ i_Rel (k + 3) u' v') v) u := by
  obtain ⟨f_shown, f_total, f_knownMined, f_knownFree, f_lastKind, f_listed, f_count, f_numbers, f_countedCell, f_countedMines, f_counted, a_around, a_clueOf, a_kindOf, a_cluesOf, a_sizes, a_clueList, a_missing, a_room, a_links, a_laterRoom, a_linkEnd, a_taken, a_most, a_countBefore, a_ways, a_minesIn⟩ := u
  obtain ⟨f_totaly, f_edgeCounty, f_coveredCounty, f_knowny, f_sureMinesy, f_sureFreey, a_cluesy, a_aroundy, a_edgey, a_foundy, a_foundWithy⟩ := v
  obtain ⟨hC, hX, hA, hA', rfl, hT, hXC, hYC⟩ := I
  have hCb := me_Cb f_shown (mu_k a_cluesy) f_total.toInt
  unfold wpX_free
  refine mw_count hC hX hA hXC (Or.inl rfl) hT ?_
  intro a1 a2 a3 a4 a5 a6 a7 a8 a9 b1 b2 b3 b4 b5 b6 b7 b8 b9 c1 c2 c3 hc hx
  refine mv_cells hx (w := 0) (by omega) (fun h0 => ?_) (fun hn => ?_)
  · unfold wpY_free
    refine my_count hC hA' hT hYC (fun ec cc kn ae fd fw hkn hY => ?_)
    exact br_t (by rw [h0]; rfl) ⟨rfl, hC, hX, hA, hA', rfl, hT, hc, Or.inr hY⟩
  · unfold wpY_free
    refine my_count hC hA' hT hYC (fun ec cc kn ae fd fw hkn hY => br_f (nI_ne0 (by omega) (by omega)) ?_)
    exact my_cells hC hA' hT (Or.inr hY) (w := 0) (by omega) (fun ec' cc' kn' ae' fd' fw' hY' => ⟨rfl, hC, hX, hA, hA', rfl, hT, hc, hY'⟩)
theorem i_vc_sure {k : Nat} {u : SX} {v : SY} (I : i_Rel k u v) (hk : k + 3 ≤ 1536) : wpX_sure (fun r u' => wpY_sure (fun r' v' => r' = r ∧ i_Rel (k + 3) u' v') v) u := by
  obtain ⟨f_shown, f_total, f_knownMined, f_knownFree, f_lastKind, f_listed, f_count, f_numbers, f_countedCell, f_countedMines, f_counted, a_around, a_clueOf, a_kindOf, a_cluesOf, a_sizes, a_clueList, a_missing, a_room, a_links, a_laterRoom, a_linkEnd, a_taken, a_most, a_countBefore, a_ways, a_minesIn⟩ := u
  obtain ⟨f_totaly, f_edgeCounty, f_coveredCounty, f_knowny, f_sureMinesy, f_sureFreey, a_cluesy, a_aroundy, a_edgey, a_foundy, a_foundWithy⟩ := v
  obtain ⟨hC, hX, hA, hA', rfl, hT, hXC, hYC⟩ := I
  have hCb := me_Cb f_shown (mu_k a_cluesy) f_total.toInt
  unfold wpX_sure
  refine mw_count hC hX hA hXC (Or.inl rfl) hT ?_
  intro a1 a2 a3 a4 a5 a6 a7 a8 a9 b1 b2 b3 b4 b5 b6 b7 b8 b9 c1 c2 c3 hc hx
  have ect := (mv_un hx).1
  subst ect
  refine mv_cells hx (w := me_Cnt f_shown (mu_k a_cluesy) f_total.toInt) hCb (fun h0 => ?_) (fun hn => ?_)
  · unfold wpY_sure
    refine my_count hC hA' hT hYC (fun ec cc kn ae fd fw hkn hY => ?_)
    exact br_t (by rw [h0]; rfl) ⟨rfl, hC, hX, hA, hA', rfl, hT, hc, Or.inr hY⟩
  · unfold wpY_sure
    refine my_count hC hA' hT hYC (fun ec cc kn ae fd fw hkn hY => br_f (nI_ne0 (by omega) (by omega)) ?_)
    exact my_cells hC hA' hT (Or.inr hY) (w := me_Cnt f_shown (mu_k a_cluesy) f_total.toInt) hCb (fun ec' cc' kn' ae' fd' fw' hY' => ⟨rfl, hC, hX, hA, hA', rfl, hT, hc, hY'⟩)
theorem i_vc_best {k : Nat} {u : SX} {v : SY} (I : i_Rel k u v) (hk : k + 3 ≤ 1536) : wpX_best (fun r u' => wpY_best (fun r' v' => r' = r ∧ i_Rel (k + 3) u' v') v) u := by
  obtain ⟨f_shown, f_total, f_knownMined, f_knownFree, f_lastKind, f_listed, f_count, f_numbers, f_countedCell, f_countedMines, f_counted, a_around, a_clueOf, a_kindOf, a_cluesOf, a_sizes, a_clueList, a_missing, a_room, a_links, a_laterRoom, a_linkEnd, a_taken, a_most, a_countBefore, a_ways, a_minesIn⟩ := u
  obtain ⟨f_totaly, f_edgeCounty, f_coveredCounty, f_knowny, f_sureMinesy, f_sureFreey, a_cluesy, a_aroundy, a_edgey, a_foundy, a_foundWithy⟩ := v
  obtain ⟨hC, hX, hA, hA', rfl, hT, hXC, hYC⟩ := I
  have hCb := me_Cb f_shown (mu_k a_cluesy) f_total.toInt
  unfold wpX_best
  refine mw_count hC hX hA hXC (Or.inl rfl) hT ?_
  intro a1 a2 a3 a4 a5 a6 a7 a8 a9 b1 b2 b3 b4 b5 b6 b7 b8 b9 c1 c2 c3 hc hx
  have ect := (mv_un hx).1
  refine br_c (fun z => ?_) (fun z => nm_e (mv_best hx ?_))
  · unfold wpY_best
    refine my_count hC hA' hT hYC (fun ec cc kn ae fd fw hkn hY => ?_)
    rw [← ect]
    exact br_t z ⟨rfl, hC, hX, hA, hA', rfl, hT, hc, Or.inr hY⟩
  · unfold wpY_best
    refine my_count hC hA' hT hYC (fun ec cc kn ae fd fw hkn hY => br_f (by rw [← ect]; exact z) ?_)
    exact my_bestl hC hA' hT (Or.inr hY) (fun ec' cc' kn' ae' fd' fw' hY' => ⟨rfl, hC, hX, hA, hA', rfl, hT, hc, hY'⟩)
theorem i_vc_clues {k : Nat} {u : SX} {v : SY} (I : i_Rel k u v) (hk : k + 3 ≤ 1536) (v1 : Int32) : wpX_clues (fun r u' => wpY_clues (fun r' v' => r' = r ∧ i_Rel (k + 3) u' v') v v1) u v1 := by
  obtain ⟨f_shown, f_total, f_knownMined, f_knownFree, f_lastKind, f_listed, f_count, f_numbers, f_countedCell, f_countedMines, f_counted, a_around, a_clueOf, a_kindOf, a_cluesOf, a_sizes, a_clueList, a_missing, a_room, a_links, a_laterRoom, a_linkEnd, a_taken, a_most, a_countBefore, a_ways, a_minesIn⟩ := u
  obtain ⟨f_totaly, f_edgeCounty, f_coveredCounty, f_knowny, f_sureMinesy, f_sureFreey, a_cluesy, a_aroundy, a_edgey, a_foundy, a_foundWithy⟩ := v
  have I' := I
  obtain ⟨hC, hX, hA, hA', rfl, hT, hXC, hYC⟩ := I
  unfold wpX_clues
  rcases mx_ixv v1 with hb | ⟨j, hj, rfl⟩
  · refine mx_nocell hb (br_t rfl ?_)
    unfold wpY_clues
    exact my_nocell hb (br_t rfl ⟨rfl, I'⟩)
  · have vj := vp_in_nI hj (N := 20) (by omega)
    have cj : (nI j).toNatClampNeg = j := nI_clamp (by omega)
    refine mx_cell hj (br_f mx_10 (mx_has (by omega) (fun hs => br_f mx_10 ?_) (fun hs => br_t rfl ?_)))
    · unfold wpY_clues
      refine my_cell hj (br_f mx_10 ⟨vj, ?_⟩)
      rw [cj]
      exact br_f (mr_nlt hC hj hs) ⟨rfl, I'⟩
    · refine mw_count hC hX hA hXC (Or.inr ⟨j, hj, hs, rfl⟩) hT ?_
      intro a1 a2 a3 a4 a5 a6 a7 a8 a9 b1 b2 b3 b4 b5 b6 b7 b8 b9 c1 c2 c3 hc hx
      have enb := mv_wt hj hx
      unfold wpY_clues
      refine my_cell hj (br_f mx_10 ⟨vj, ?_⟩)
      rw [cj]
      exact br_t (mr_lt hC hj hs) (my_clues hC hA' hT hj hs (fun ec cc ae fd fw => ⟨enb.symm, hC, hX, hA, hA', rfl, hT, hc, Or.inl rfl⟩))
theorem i_vc_withMines {k : Nat} {u : SX} {v : SY} (I : i_Rel k u v) (hk : k + 3 ≤ 1536) (v1 : Int32) : wpX_withMines (fun r u' => wpY_withMines (fun r' v' => r' = r ∧ i_Rel (k + 3) u' v') v v1) u v1 := by
  obtain ⟨f_shown, f_total, f_knownMined, f_knownFree, f_lastKind, f_listed, f_count, f_numbers, f_countedCell, f_countedMines, f_counted, a_around, a_clueOf, a_kindOf, a_cluesOf, a_sizes, a_clueList, a_missing, a_room, a_links, a_laterRoom, a_linkEnd, a_taken, a_most, a_countBefore, a_ways, a_minesIn⟩ := u
  obtain ⟨f_totaly, f_edgeCounty, f_coveredCounty, f_knowny, f_sureMinesy, f_sureFreey, a_cluesy, a_aroundy, a_edgey, a_foundy, a_foundWithy⟩ := v
  obtain ⟨hC, hX, hA, hA', rfl, hT, hXC, hYC⟩ := I
  by_cases h0 : v1 < 0
  · refine br_t h0 ?_
    unfold wpY_withMines
    exact my_findAll hC hA' hYC (fun ec cc kn ae fd fw hkn hY => br_t h0 ⟨rfl, hC, hX, hA, hA', rfl, hT, hXC, Or.inr hY⟩)
  · refine br_f h0 ?_
    by_cases h20 : 20 < v1
    · refine br_t h20 ?_
      unfold wpY_withMines
      exact my_findAll hC hA' hYC (fun ec cc kn ae fd fw hkn hY => br_f h0 (br_t h20 ⟨rfl, hC, hX, hA, hA', rfl, hT, hXC, Or.inr hY⟩))
    · refine br_f h20 ?_
      obtain ⟨n, hn, rfl⟩ := nI_of2 (M := 20) (n := 20) (by decide) h0 (Int32.not_lt.mp h20)
      have go : ∀ (hYgo : ∀ ec cc kn ae fd fw, mr_Y f_shown a_cluesy ec cc fd fw → ∀ (P : Int32 → SY → Prop), (∃ q, wY_withMines_35 P (nI n) f_total ec cc kn f_sureMinesy f_sureFreey a_cluesy a_aroundy ae fd fw q 0 0) → ((f_total < 0 → (∃ n35 : Nat, wY_withMines_35 P (nI n) f_total ec cc kn f_sureMinesy f_sureFreey a_cluesy a_aroundy ae fd fw n35 0 0)) ∧ (¬ f_total < 0 → (((nI n = f_total → (∃ n35 : Nat, wY_withMines_35 P (nI n) f_total ec cc kn f_sureMinesy f_sureFreey a_cluesy a_aroundy ae fd fw n35 0 0)) ∧ (¬ nI n = f_total → (P 0 (f_total, ec, cc, kn, f_sureMinesy, f_sureFreey, a_cluesy, a_aroundy, ae, fd, fw)))))))),
          wX_withMines_28 (fun r u' => wpY_withMines (fun r' v' => r' = r ∧ i_Rel (k + 3) u' v') (f_total, f_edgeCounty, f_coveredCounty, f_knowny, f_sureMinesy, f_sureFreey, a_cluesy, a_aroundy, a_edgey, a_foundy, a_foundWithy) (nI n)) (nI n) f_shown f_total f_knownMined f_knownFree f_lastKind f_listed f_count f_numbers f_countedCell f_countedMines f_counted a_around a_clueOf a_kindOf a_cluesOf a_sizes a_clueList a_missing a_room a_links a_laterRoom a_linkEnd a_taken a_most a_countBefore a_ways a_minesIn := by
        intro hYgo
        unfold wX_withMines_28
        refine mw_count hC hX hA hXC (Or.inl rfl) (mr_Tn hn) ?_
        intro a1 a2 a3 a4 a5 a6 a7 a8 a9 b1 b2 b3 b4 b5 b6 b7 b8 b9 c1 c2 c3 hc hx
        have ect := (mv_un hx).1
        rw [nI_toInt (by omega)] at ect
        unfold wpY_withMines
        refine my_findAll hC hA' hYC (fun ec cc kn ae fd fw hkn hY => br_f h0 (br_f h20 (hYgo ec cc kn ae fd fw hY _ ?_)))
        exact my_with hC hA' hT (Or.inr hY) hn hY ⟨ect.symm, hC, hX, hA, hA', rfl, hT, hc, Or.inr hY⟩
      have hT' := hT
      rcases hT with e | ⟨t, ht, e⟩
      · refine br_t e (go (fun ec cc kn ae fd fw hY P hq => br_t ?_ hq))
        rw [e]; decide
      · have hne : ¬ f_total = -1 := by
          rw [e]
          intro y
          have : (nI t).toInt = (-1 : Int32).toInt := by rw [← y]
          rw [nI_toInt (by omega), mw_m1] at this
          omega
        have hnn : ¬ f_total < 0 := by rw [e]; exact nI_pos (by omega)
        refine br_f hne (br_c (fun z => go (fun ec cc kn ae fd fw hY P hq => br_f hnn (br_t z.symm hq))) (fun z => ?_))
        unfold wpY_withMines
        exact my_findAll hC hA' hYC (fun ec cc kn ae fd fw hkn hY => br_f h0 (br_f h20 (br_f hnn (br_f (fun y => z y.symm) ⟨rfl, hC, hX, hA, hA', rfl, hT', hXC, Or.inr hY⟩))))
theorem mj_ans {S : Int32} {ac : Nat → Int32} {p : Bool} {M F M' F' : Int32} (l1 : me_lo M) (l2 : me_lo F) (l3 : me_lo M') (l4 : me_lo F') (h : ml_S mu_N (mu_v S) (mu_k ac) p true (bt M) (bt F)) (h' : ml_S mu_N (mu_v S) (mu_k ac) p true (bt M') (bt F')) : M = M' ∧ F = F' := by
  have := (ml_uniq h h').2 rfl
  exact ⟨me_ext l1 l3 (fun j hj => (this j hj).1), me_ext l2 l4 (fun j hj => (this j hj).2)⟩
theorem i_vc_simple {k : Nat} {u : SX} {v : SY} (I : i_Rel k u v) (hk : k + 3 ≤ 1536) : wpX_simple (fun r u' => wpY_simple (fun r' v' => r' = r ∧ i_Rel (k + 3) u' v') v) u := by
  obtain ⟨f_shown, f_total, f_knownMined, f_knownFree, f_lastKind, f_listed, f_count, f_numbers, f_countedCell, f_countedMines, f_counted, a_around, a_clueOf, a_kindOf, a_cluesOf, a_sizes, a_clueList, a_missing, a_room, a_links, a_laterRoom, a_linkEnd, a_taken, a_most, a_countBefore, a_ways, a_minesIn⟩ := u
  obtain ⟨f_totaly, f_edgeCounty, f_coveredCounty, f_knowny, f_sureMinesy, f_sureFreey, a_cluesy, a_aroundy, a_edgey, a_foundy, a_foundWithy⟩ := v
  obtain ⟨hC, hX, hA, hA', rfl, hT, hXC, hYC⟩ := I
  unfold wpX_simple
  refine mx_rules hC hX hA false (Or.inr ⟨rfl, rfl⟩) (fun M F hS => br_t rfl ?_) (fun M F l1 l2 hS => br_f mx_10 (mx_size (mr_orl l1 l2) ?_))
  · unfold wpY_simple
    refine my_decide hC hA' (p := false) (Or.inr ⟨rfl, rfl⟩) (fun M' F' hS' => ⟨rfl, hC, hX, hA, hA', rfl, hT, hXC, hYC⟩) (fun M' F' l3 l4 hS' => ?_)
    have := (ml_uniq hS hS').1
    cases this
  · unfold wpY_simple
    refine my_decide hC hA' (p := false) (Or.inr ⟨rfl, rfl⟩) (fun M' F' hS' => ?_) (fun M' F' l3 l4 hS' => ?_)
    · have := (ml_uniq hS hS').1
      cases this
    · obtain ⟨e1, e2⟩ := mj_ans l1 l2 l3 l4 hS hS'
      subst e1 e2
      exact ⟨rfl, hC, hX, hA, hA', rfl, hT, hXC, hYC⟩
theorem i_vc_paired {k : Nat} {u : SX} {v : SY} (I : i_Rel k u v) (hk : k + 3 ≤ 1536) : wpX_paired (fun r u' => wpY_paired (fun r' v' => r' = r ∧ i_Rel (k + 3) u' v') v) u := by
  obtain ⟨f_shown, f_total, f_knownMined, f_knownFree, f_lastKind, f_listed, f_count, f_numbers, f_countedCell, f_countedMines, f_counted, a_around, a_clueOf, a_kindOf, a_cluesOf, a_sizes, a_clueList, a_missing, a_room, a_links, a_laterRoom, a_linkEnd, a_taken, a_most, a_countBefore, a_ways, a_minesIn⟩ := u
  obtain ⟨f_totaly, f_edgeCounty, f_coveredCounty, f_knowny, f_sureMinesy, f_sureFreey, a_cluesy, a_aroundy, a_edgey, a_foundy, a_foundWithy⟩ := v
  obtain ⟨hC, hX, hA, hA', rfl, hT, hXC, hYC⟩ := I
  unfold wpX_paired
  refine mx_rules hC hX hA true (Or.inl ⟨rfl, rfl⟩) (fun M F hS => br_t rfl ?_) (fun M F l1 l2 hS => br_f mx_10 (mx_size (mr_orl l1 l2) ?_))
  · unfold wpY_paired
    refine my_decide hC hA' (p := true) (Or.inl ⟨rfl, rfl⟩) (fun M' F' hS' => ⟨rfl, hC, hX, hA, hA', rfl, hT, hXC, hYC⟩) (fun M' F' l3 l4 hS' => ?_)
    have := (ml_uniq hS hS').1
    cases this
  · unfold wpY_paired
    refine my_decide hC hA' (p := true) (Or.inl ⟨rfl, rfl⟩) (fun M' F' hS' => ?_) (fun M' F' l3 l4 hS' => ?_)
    · have := (ml_uniq hS hS').1
      cases this
    · obtain ⟨e1, e2⟩ := mj_ans l1 l2 l3 l4 hS hS'
      subst e1 e2
      exact ⟨rfl, hC, hX, hA, hA', rfl, hT, hXC, hYC⟩
theorem i_vc_decided {k : Nat} {u : SX} {v : SY} (I : i_Rel k u v) (hk : k + 3 ≤ 1536) (v1 : Int32) : wpX_decided (fun r u' => wpY_decided (fun r' v' => r' = r ∧ i_Rel (k + 3) u' v') v v1) u v1 := by
  obtain ⟨f_shown, f_total, f_knownMined, f_knownFree, f_lastKind, f_listed, f_count, f_numbers, f_countedCell, f_countedMines, f_counted, a_around, a_clueOf, a_kindOf, a_cluesOf, a_sizes, a_clueList, a_missing, a_room, a_links, a_laterRoom, a_linkEnd, a_taken, a_most, a_countBefore, a_ways, a_minesIn⟩ := u
  obtain ⟨f_totaly, f_edgeCounty, f_coveredCounty, f_knowny, f_sureMinesy, f_sureFreey, a_cluesy, a_aroundy, a_edgey, a_foundy, a_foundWithy⟩ := v
  have I' := I
  obtain ⟨hC, hX, hA, hA', rfl, hT, hXC, hYC⟩ := I
  unfold wpX_decided
  rcases mx_ixv v1 with hb | ⟨j, hj, rfl⟩
  · refine mx_nocell hb (br_t rfl ?_)
    unfold wpY_decided
    exact my_nocell hb (br_t rfl ⟨rfl, I'⟩)
  · refine mx_cell hj (br_f mx_10 (mx_rules hC hX hA true (Or.inl ⟨rfl, rfl⟩) (fun M F hS => br_t rfl ?_) (fun M F l1 l2 hS => br_f mx_10 ?_)))
    · unfold wpY_decided
      refine my_cell hj (br_f mx_10 (my_decide hC hA' (p := true) (Or.inl ⟨rfl, rfl⟩) (fun M' F' hS' => br_t rfl ⟨rfl, hC, hX, hA, hA', rfl, hT, hXC, hYC⟩) (fun M' F' l3 l4 hS' => ?_)))
      have := (ml_uniq hS hS').1
      cases this
    · have yes : ∀ (x : Int32), (bt M j = true → x = 1) → (bt M j = false → bt F j = true → x = 0) → (bt M j = false → bt F j = false → x = -2) → wpY_decided (fun r' v' => r' = x ∧ i_Rel (k + 3) (f_shown, f_total, M, F, f_lastKind, f_listed, f_count, f_numbers, f_countedCell, f_countedMines, f_counted, a_around, a_clueOf, a_kindOf, a_cluesOf, a_sizes, a_clueList, a_missing, a_room, a_links, a_laterRoom, a_linkEnd, a_taken, a_most, a_countBefore, a_ways, a_minesIn) v') (f_total, f_edgeCounty, f_coveredCounty, f_knowny, f_sureMinesy, f_sureFreey, a_cluesy, a_aroundy, a_edgey, a_foundy, a_foundWithy) (nI j) := by
        intro x x1 x2 x3
        unfold wpY_decided
        refine my_cell hj (br_f mx_10 (my_decide hC hA' (p := true) (Or.inl ⟨rfl, rfl⟩) (fun M' F' hS' => ?_) (fun M' F' l3 l4 hS' => ?_)))
        · have := (ml_uniq hS hS').1
          cases this
        · obtain ⟨e1, e2⟩ := mj_ans l1 l2 l3 l4 hS hS'
          subst e1 e2
          have c20 := mu_c20 (M ||| F)
          have hne : ¬ nI (me_c (M ||| F)) = -3 := by
            intro y
            have : (nI (me_c (M ||| F))).toInt = (-3 : Int32).toInt := by rw [← y]
            rw [nI_toInt (by omega)] at this
            have h3 : (-3 : Int32).toInt = -3 := by decide
            omega
          refine br_f hne ?_
          cases hm : bt M j
          · refine br_f (mx_t1' (by omega) hm) ?_
            cases hf : bt F j
            · exact br_f (mx_t1' (by omega) hf) ⟨(x3 hm hf).symm, hC, hX, hA, hA', rfl, hT, hXC, hYC⟩
            · exact br_t (mx_t1 (by omega) hf) ⟨(x2 hm hf).symm, hC, hX, hA, hA', rfl, hT, hXC, hYC⟩
          · exact br_t (mx_t1 (by omega) hm) ⟨(x1 hm).symm, hC, hX, hA, hA', rfl, hT, hXC, hYC⟩
      refine mx_has (by omega) (fun hm => br_f mx_10 ?_) (fun hm => br_t rfl (mx_has (by omega) (fun hf => br_f mx_10 ?_) (fun hf => br_t rfl ?_)))
      · exact yes 1 (fun _ => rfl) (fun q => by rw [hm] at q; cases q) (fun q => by rw [hm] at q; cases q)
      · exact yes 0 (fun q => by rw [hm] at q; cases q) (fun _ _ => rfl) (fun _ q => by rw [hf] at q; cases q)
      · exact yes (-2) (fun q => by rw [hm] at q; cases q) (fun _ q => by rw [hf] at q; cases q) (fun _ _ => rfl)
