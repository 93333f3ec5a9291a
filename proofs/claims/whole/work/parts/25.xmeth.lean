/-! the component's questions -/
theorem mv_un {S : Int32} {ac : Nat → Int32} {mines ct nb : Int32} {ko sz mi : Nat → Int32} (h : mr_XC S ac (-1) mines ct nb ko sz mi) : ct = nI (me_Cnt S (mu_k ac) mines.toInt) ∧ ∀ c, c < 20 → bt S c = false → ∃ k s, k < 21 ∧ s + 1 ≤ 20 ∧ ko c = nI k ∧ sz k = nI (s + 1) ∧ mi k = nI ((s + 1) * me_Min S (mu_k ac) mines.toInt c) := by
  rcases h.2 with ⟨_, a, b⟩ | ⟨w, hw, _, e, _⟩
  · exact ⟨a, b⟩
  · exact absurd e.symm (mw_ne hw)
theorem mv_wt {S : Int32} {ac : Nat → Int32} {mines ct nb : Int32} {ko sz mi : Nat → Int32} {w : Nat} (hw : w < 20) (h : mr_XC S ac (nI w) mines ct nb ko sz mi) : nb = mr_mask (mr_nb S ac w mines.toInt) 9 := by
  rcases h.2 with ⟨e, _, _⟩ | ⟨w', hw', _, e, h'⟩
  · exact absurd e (mw_ne hw)
  · have := (nI_eq (by omega) (by omega)).mp e
    subst this
    exact h'
theorem mv_le (S : Int32) (kl : Nat → Int) (T : Int) {c : Nat} (hc : c < 20) (hs : bt S c = false) : me_Min S kl T c ≤ me_Cnt S kl T := by
  have key : ∀ (L : (Nat → Int) → Nat) (l l' : List Int32) (m : Int32) (w : Nat → Int), List.Perm l (m :: l') → mg_G L l' (mg_sub w m) ≤ mg_G L l w := by
    intro L l l' m w hp
    rw [mg_perm hp, mg_G]
    omega
  rw [me_Min, me_Cnt]
  by_cases he : me_ed S c = true
  · have hmem := me_E_mem.mpr ⟨hc, he⟩
    rw [if_pos he]
    split
    · exact Nat.mul_le_mul_left _ (key _ _ _ _ _ (mc_erase (me_mk S) hmem))
    · exact key _ _ _ _ _ (((mc_erase (me_mk S) hmem).append_left _).trans List.perm_middle)
  · rw [if_neg he]
    have hR := mr_Rp hc hs (by simpa using he)
    obtain ⟨s, hsR⟩ : ∃ s, me_R S = s + 1 := ⟨me_R S - 1, by omega⟩
    rw [hsR, Nat.add_sub_cancel]
    split
    · exact Nat.mul_le_mul_right _ (Nat.pow_le_pow_right (by omega) (by omega))
    · have e : mg_sub (me_w S kl T) me_b = me_w S kl (T - 1) := by
        funext j
        simp only [mg_sub, me_w, me_bb]
        by_cases z : j = 20 <;> simp [z]
      rw [← e, List.replicate_succ, List.cons_append]
      exact key _ _ _ _ _ (List.Perm.refl _)
section
variable {f_shown f_total f_knownMined f_knownFree f_lastKind f_listed f_count f_numbers f_countedCell f_countedMines f_counted : Int32} {a_around a_clueOf a_kindOf a_cluesOf a_sizes a_clueList a_missing a_room a_links a_laterRoom a_linkEnd a_taken a_most a_countBefore a_ways a_minesIn : Nat → Int32}
variable {ac : Nat → Int32}
theorem mv_mined {mines : Int32} (hx : mr_XC f_shown ac (-1) mines f_count f_numbers a_kindOf a_sizes a_minesIn) {c : Nat} (hc : c < 20) (hs : bt f_shown c = false) {post : Int32 → Prop} (h : post (nI (me_Min f_shown (mu_k ac) mines.toInt c))) : wpX_minedLayouts post (f_shown, f_total, f_knownMined, f_knownFree, f_lastKind, f_listed, f_count, f_numbers, f_countedCell, f_countedMines, f_counted, a_around, a_clueOf, a_kindOf, a_cluesOf, a_sizes, a_clueList, a_missing, a_room, a_links, a_laterRoom, a_linkEnd, a_taken, a_most, a_countBefore, a_ways, a_minesIn) (nI c) := by
  obtain ⟨k, s, hk, hs20, e1, e2, e3⟩ := (mv_un hx).2 c hc hs
  have hb := me_Mb f_shown (mu_k ac) mines.toInt c hc
  have ck : (nI k).toNatClampNeg = k := nI_clamp (by omega)
  have vk : vp_in (nI k) 21 := vp_in_nI hk (by omega)
  have hne : ¬ nI (s + 1) = 0 := nI_ne0 (by omega) (by omega)
  have hb2 : (s + 1) * me_Min f_shown (mu_k ac) mines.toInt c ≤ 20 * 2 ^ 20 := Nat.mul_le_mul hs20 hb
  refine ⟨vp_in_nI hc (by omega), nm_r (e' := nI k) (by rw [nI_clamp (by omega)]; exact e1) ⟨vk, nm_r (e' := nI (s + 1)) (by rw [ck]; exact e2) (br_f hne ⟨vk, hne, ?_⟩)⟩⟩
  rw [ck, e3, pk_div (by omega) (by omega) (by omega), Nat.mul_div_cancel_left _ (by omega)]
  exact h
theorem mv_cells {mines : Int32} (hx : mr_XC f_shown ac (-1) mines f_count f_numbers a_kindOf a_sizes a_minesIn) {w : Nat} (hw : w ≤ 2 ^ 20) {post : Int32 → Prop} (h0 : me_Cnt f_shown (mu_k ac) mines.toInt = 0 → post 0)
    (h : me_Cnt f_shown (mu_k ac) mines.toInt ≠ 0 → post (mr_mask (fun c => !bt f_shown c && decide (me_Min f_shown (mu_k ac) mines.toInt c = w)) 20)) : wpX_cellsMinedIn post (f_shown, f_total, f_knownMined, f_knownFree, f_lastKind, f_listed, f_count, f_numbers, f_countedCell, f_countedMines, f_counted, a_around, a_clueOf, a_kindOf, a_cluesOf, a_sizes, a_clueList, a_missing, a_room, a_links, a_laterRoom, a_linkEnd, a_taken, a_most, a_countBefore, a_ways, a_minesIn) (nI w) := by
  have hct := (mv_un hx).1
  have hCb := me_Cb f_shown (mu_k ac) mines.toInt
  by_cases y : f_count = 0
  · refine br_t y (h0 ?_)
    rw [hct, ← nI_0] at y
    exact (nI_eq (by omega) (by omega)).mp y
  · have hne : me_Cnt f_shown (mu_k ac) mines.toInt ≠ 0 := fun q => y (by rw [hct, q]; rfl)
    refine br_f y ?_
    refine loop_0 (σ := Int32) (fun n i x => wX_cellsMinedIn_13 post (nI w) f_shown f_total f_knownMined f_knownFree f_lastKind f_listed f_count f_numbers f_countedCell f_countedMines f_counted a_around a_clueOf a_kindOf a_cluesOf a_sizes a_clueList a_missing a_room a_links a_laterRoom a_linkEnd a_taken a_most a_countBefore a_ways a_minesIn n x (nI i)) (fun i x => x = mr_mask (fun c => !bt f_shown c && decide (me_Min f_shown (mu_k ac) mines.toInt c = w)) i) 20 0 rfl (fun n x hx' => ?_) (fun n i x hi hx' hk => ?_)
    · subst hx'
      exact br_t (nI_le (a := 20) (by omega) (by omega)) (h hne)
    · subst hx'
      refine br_f (mx_20 hi) (mx_has (by omega) (fun hb => br_f mx_10 (nm_r (nI_1 i) (hk _ ?_))) (fun hb => br_t rfl (mv_mined hx hi hb ?_)))
      · rw [mr_mask, if_neg (by simp [hb])]
      · have hMb := me_Mb f_shown (mu_k ac) mines.toInt i hi
        refine pk_eq (me_Min f_shown (mu_k ac) mines.toInt i) w (fun z => nm_e (nm_r (nI_1 i) (hk _ ?_))) (fun z => nm_r (nI_1 i) (hk _ ?_)) rfl rfl (by omega) (by omega)
        · rw [mr_mask, if_pos (by simp [hb, z])]; rfl
        · rw [mr_mask, if_neg (by simp [hb, z])]
theorem mv_best {mines : Int32} (hx : mr_XC f_shown ac (-1) mines f_count f_numbers a_kindOf a_sizes a_minesIn) {post : Int32 → SX → Prop} (h : post (mr_bv (mr_bs f_shown (me_Min f_shown (mu_k ac) mines.toInt) 20)) (f_shown, f_total, f_knownMined, f_knownFree, f_lastKind, f_listed, f_count, f_numbers, f_countedCell, f_countedMines, f_counted, a_around, a_clueOf, a_kindOf, a_cluesOf, a_sizes, a_clueList, a_missing, a_room, a_links, a_laterRoom, a_linkEnd, a_taken, a_most, a_countBefore, a_ways, a_minesIn)) : ∃ n, wX_best_31 post f_shown f_total f_knownMined f_knownFree f_lastKind f_listed f_count f_numbers f_countedCell f_countedMines f_counted a_around a_clueOf a_kindOf a_cluesOf a_sizes a_clueList a_missing a_room a_links a_laterRoom a_linkEnd a_taken a_most a_countBefore a_ways a_minesIn n (-2) (f_count + 1) 0 := by
  have hct := (mv_un hx).1
  have hCb := me_Cb f_shown (mu_k ac) mines.toInt
  refine loop_0 (σ := Int32 × Int32) (fun n i s => wX_best_31 post f_shown f_total f_knownMined f_knownFree f_lastKind f_listed f_count f_numbers f_countedCell f_countedMines f_counted a_around a_clueOf a_kindOf a_cluesOf a_sizes a_clueList a_missing a_room a_links a_laterRoom a_linkEnd a_taken a_most a_countBefore a_ways a_minesIn n s.1 s.2 (nI i)) (fun i s => s.1 = mr_bv (mr_bs f_shown (me_Min f_shown (mu_k ac) mines.toInt) i) ∧ (mr_bs f_shown (me_Min f_shown (mu_k ac) mines.toInt) i = none → s.2 = nI (me_Cnt f_shown (mu_k ac) mines.toInt + 1)) ∧ (∀ b, mr_bs f_shown (me_Min f_shown (mu_k ac) mines.toInt) i = some b → s.2 = nI (me_Min f_shown (mu_k ac) mines.toInt b))) 20 (-2, f_count + 1)
    ⟨rfl, fun _ => by rw [hct, nI_1], fun b hb => (by cases hb)⟩ (fun n s hs => ?_) (fun n i s hi hs hk => ?_)
  · rw [← hs.1] at h
    exact br_t (nI_le (a := 20) (by omega) (by omega)) h
  · obtain ⟨x1, x2⟩ := s
    obtain ⟨q1, q2, q3⟩ := hs
    dsimp only at q1 q2 q3
    refine br_f (mx_20 hi) (mx_has (by omega) (fun hb => br_f mx_10 (nm_r (nI_1 i) (hk (x1, x2) ?_))) (fun hb => br_t rfl (mv_mined hx hi hb ?_)))
    · have e : mr_bs f_shown (me_Min f_shown (mu_k ac) mines.toInt) (i + 1) = mr_bs f_shown (me_Min f_shown (mu_k ac) mines.toInt) i := by rw [mr_bs, hb, if_pos rfl]
      dsimp only
      rw [e]
      exact ⟨q1, q2, q3⟩
    · have hMb := me_Mb f_shown (mu_k ac) mines.toInt i hi
      have hle := mv_le f_shown (mu_k ac) mines.toInt hi hb
      cases hbs : mr_bs f_shown (me_Min f_shown (mu_k ac) mines.toInt) i with
      | none =>
        have e : mr_bs f_shown (me_Min f_shown (mu_k ac) mines.toInt) (i + 1) = some i := by rw [mr_bs, hb, if_neg (by simp), hbs]
        rw [q2 hbs]
        refine pk_le (me_Cnt f_shown (mu_k ac) mines.toInt + 1) (me_Min f_shown (mu_k ac) mines.toInt i) (fun z => by omega) (fun z => nm_r (nI_1 i) (hk (nI i, nI (me_Min f_shown (mu_k ac) mines.toInt i)) ⟨?_, fun y => ?_, fun b' hb' => ?_⟩)) rfl rfl (by omega) (by omega)
        · rw [e]; rfl
        · rw [e] at y; cases y
        · rw [e] at hb'; cases hb'; rfl
      | some b =>
        have hbl := mr_bsl _ _ _ _ hbs
        have hbb := me_Mb f_shown (mu_k ac) mines.toInt b (by omega)
        rw [q3 b hbs]
        refine pk_le (me_Min f_shown (mu_k ac) mines.toInt b) (me_Min f_shown (mu_k ac) mines.toInt i) (fun z => nm_r (nI_1 i) (hk (x1, nI (me_Min f_shown (mu_k ac) mines.toInt b)) ⟨?_, fun y => ?_, fun b' hb' => ?_⟩)) (fun z => nm_r (nI_1 i) (hk (nI i, nI (me_Min f_shown (mu_k ac) mines.toInt i)) ⟨?_, fun y => ?_, fun b' hb' => ?_⟩)) rfl rfl (by omega) (by omega)
        · have e : mr_bs f_shown (me_Min f_shown (mu_k ac) mines.toInt) (i + 1) = some b := by rw [mr_bs, hb, if_neg (by simp), hbs]; exact if_neg (by omega)
          rw [e]; rw [hbs] at q1; exact q1
        · have e : mr_bs f_shown (me_Min f_shown (mu_k ac) mines.toInt) (i + 1) = some b := by rw [mr_bs, hb, if_neg (by simp), hbs]; exact if_neg (by omega)
          rw [e] at y; cases y
        · have e : mr_bs f_shown (me_Min f_shown (mu_k ac) mines.toInt) (i + 1) = some b := by rw [mr_bs, hb, if_neg (by simp), hbs]; exact if_neg (by omega)
          rw [e] at hb'; cases hb'; rfl
        · have e : mr_bs f_shown (me_Min f_shown (mu_k ac) mines.toInt) (i + 1) = some i := by rw [mr_bs, hb, if_neg (by simp), hbs]; exact if_pos (by omega)
          rw [e]; rfl
        · have e : mr_bs f_shown (me_Min f_shown (mu_k ac) mines.toInt) (i + 1) = some i := by rw [mr_bs, hb, if_neg (by simp), hbs]; exact if_pos (by omega)
          rw [e] at y; cases y
        · have e : mr_bs f_shown (me_Min f_shown (mu_k ac) mines.toInt) (i + 1) = some i := by rw [mr_bs, hb, if_neg (by simp), hbs]; exact if_pos (by omega)
          rw [e] at hb'; cases hb'; rfl
end
/-! groups -/
def mv_grp (S : Int32) (c : Nat) : Int32 := mr_it S 20 (my_bit c)
theorem mv_st {S x : Int32} {N : Nat} (h : mr_it S (N + 1) x = mr_it S N x) : ∀ d, mr_it S (N + d) x = mr_it S N x
  | 0 => rfl
  | d + 1 => by
    have := mv_st h d
    rw [← Nat.add_assoc, mr_it, this]
    exact h
theorem mv_b1 {c : Nat} (hc : c < 20) : 1 ≤ me_c (my_bit c) := by
  have : me_c (0 ||| my_bit c) = me_c 0 + 1 := my_cadd hc (b_0 c)
  rw [my_c0, Int32.zero_or] at this
  omega
theorem mv_bne {c : Nat} (hc : c < 20) : my_bit c ≠ 0 := by
  intro z
  have := mv_b1 hc
  rw [z, my_c0] at this
  omega
theorem mv_lne {x : Int32} (hx : me_lo x) : (-1 : Int32) ≠ x := by
  intro z
  have h1 := b_m1 20 (by omega)
  rw [z, hx 20 (by omega)] at h1
  cases h1
theorem mv_ps0 (S : Int32) : ∀ n, mr_ps S n 0 = 0
  | 0 => rfl
  | n + 1 => by rw [mr_ps, mv_ps0 S n, mr_p1, if_neg (fun z => z.2 Int32.and_zero)]
section
variable {f_shown f_total f_knownMined f_knownFree f_lastKind f_listed f_count f_numbers f_countedCell f_countedMines f_counted : Int32} {a_around a_clueOf a_kindOf a_cluesOf a_sizes a_clueList a_missing a_room a_links a_laterRoom a_linkEnd a_taken a_most a_countBefore a_ways a_minesIn : Nat → Int32}
theorem mv_gw (hA : mr_A a_around) {c : Nat} (hc : c < 20) {post : Int32 → Prop} (h : post (mv_grp f_shown c)) : wpX_groupWith post (f_shown, f_total, f_knownMined, f_knownFree, f_lastKind, f_listed, f_count, f_numbers, f_countedCell, f_countedMines, f_counted, a_around, a_clueOf, a_kindOf, a_cluesOf, a_sizes, a_clueList, a_missing, a_room, a_links, a_laterRoom, a_linkEnd, a_taken, a_most, a_countBefore, a_ways, a_minesIn) (nI c) := by
  obtain ⟨N, hN, h1, h2⟩ := mr_stop f_shown (my_bitlo hc) (mv_b1 hc)
  have e : mv_grp f_shown c = mr_it f_shown N (my_bit c) := by
    have := mv_st h1 (20 - N)
    rw [show N + (20 - N) = 20 by omega] at this
    exact this
  rw [e] at h
  refine nm_r (e' := my_bit c) rfl ⟨N + 2, ?_⟩
  exact mx_iter hA hN h1 h2 h N 0 0 (by omega) (mv_bne hc)
end
section
variable {f_total f_edgeCount f_coveredCount f_known f_sureMines f_sureFree : Int32} {a_clues a_around a_edge a_found a_foundWith : Nat → Int32}
variable {S : Int32}
theorem mv_gs (hC : mr_C S a_clues) (hA : mr_A a_around) {c : Nat} (hc : c < 20) {post : Int32 → Prop} (h1 : me_ed S c = true → post (mv_grp S c)) (h0 : me_ed S c = false → post 0) : wpY_groupSet post (f_total, f_edgeCount, f_coveredCount, f_known, f_sureMines, f_sureFree, a_clues, a_around, a_edge, a_found, a_foundWith) (nI c) := by
  unfold wpY_groupSet
  refine my_cov hC (my_edge hC hA hc (fun he => br_f mx_10 ?_) (fun he => br_t rfl ?_))
  · obtain ⟨N, hN, g1, g2⟩ := mr_stop S (my_bitlo hc) (mv_b1 hc)
    have e : mv_grp S c = mr_it S N (my_bit c) := by
      have := mv_st g1 (20 - N)
      rw [show N + (20 - N) = 20 by omega] at this
      exact this
    have h := h1 he
    rw [e] at h
    refine nm_r (e' := my_bit c) rfl ⟨N + 2, ?_⟩
    exact my_iter hC hA g1 g2 h N 0 (-1) (by omega) (mv_lne (my_bitlo hc))
  · have e : mr_it S (0 + 1) 0 = mr_it S 0 0 := mv_ps0 S 20
    exact ⟨0 + 2, my_iter hC hA (x := 0) (N := 0) e (fun p hp => by omega) (h0 he) 0 0 (-1) rfl (mv_lne mr_0l)⟩
end
/-- the number of groups, and their cells -/
def mv_gc (S : Int32) : Nat → Nat × Int32
  | 0 => (0, 0)
  | n + 1 => if me_ed S n = true ∧ bt (mv_gc S n).2 n = false then ((mv_gc S n).1 + 1, (mv_gc S n).2 ||| mv_grp S n) else mv_gc S n
section
variable {f_shown f_total f_knownMined f_knownFree f_lastKind f_listed f_count f_numbers f_countedCell f_countedMines f_counted : Int32} {a_around a_clueOf a_kindOf a_cluesOf a_sizes a_clueList a_missing a_room a_links a_laterRoom a_linkEnd a_taken a_most a_countBefore a_ways a_minesIn : Nat → Int32}
theorem mv_gX (hA : mr_A a_around) {post : Int32 → Prop} (h : post (nI (mv_gc f_shown 20).1)) : wpX_groups post (f_shown, f_total, f_knownMined, f_knownFree, f_lastKind, f_listed, f_count, f_numbers, f_countedCell, f_countedMines, f_counted, a_around, a_clueOf, a_kindOf, a_cluesOf, a_sizes, a_clueList, a_missing, a_room, a_links, a_laterRoom, a_linkEnd, a_taken, a_most, a_countBefore, a_ways, a_minesIn) := by
  refine loop_0 (σ := Int32 × Int32) (fun n i s => wX_groups_6 post f_shown f_total f_knownMined f_knownFree f_lastKind f_listed f_count f_numbers f_countedCell f_countedMines f_counted a_around a_clueOf a_kindOf a_cluesOf a_sizes a_clueList a_missing a_room a_links a_laterRoom a_linkEnd a_taken a_most a_countBefore a_ways a_minesIn n s.1 s.2 (nI i)) (fun i s => s.1 = nI (mv_gc f_shown i).1 ∧ s.2 = (mv_gc f_shown i).2) 20 (0, 0) ⟨rfl, rfl⟩ (fun n s hs => ?_) (fun n i s hi hs hk => ?_)
  · rw [← hs.1] at h
    exact br_t (nI_le (a := 20) (by omega) (by omega)) h
  · obtain ⟨x1, x2⟩ := s
    obtain ⟨q1, q2⟩ := hs
    dsimp only at q1 q2
    subst q1 q2
    have no : ¬ (me_ed f_shown i = true ∧ bt (mv_gc f_shown i).2 i = false) → wX_groups_6 post f_shown f_total f_knownMined f_knownFree f_lastKind f_listed f_count f_numbers f_countedCell f_countedMines f_counted a_around a_clueOf a_kindOf a_cluesOf a_sizes a_clueList a_missing a_room a_links a_laterRoom a_linkEnd a_taken a_most a_countBefore a_ways a_minesIn n (nI (mv_gc f_shown i).1) (mv_gc f_shown i).2 (nI (i + 1)) := by
      intro y
      refine hk (nI (mv_gc f_shown i).1, (mv_gc f_shown i).2) ?_
      rw [mv_gc, if_neg y]
      exact ⟨rfl, rfl⟩
    refine br_f (mx_20 hi) (mx_has (by omega) (fun hb => br_f mx_10 (nm_r (nI_1 i) (no (fun y => ?_)))) (fun hb => br_t rfl (mx_edge hA hi (fun he => br_f mx_10 (mv_gw hA hi (nm_e (nm_r (nI_1 _) (nm_r (nI_1 i) (hk (nI ((mv_gc f_shown i).1 + 1), (mv_gc f_shown i).2 ||| mv_grp f_shown i) ?_)))))) (fun he => br_t rfl (nm_r (nI_1 i) (no (fun y => ?_)))))))
    · rw [hb] at y; cases y.2
    · rw [mv_gc, if_pos ⟨he, hb⟩]
      exact ⟨rfl, rfl⟩
    · rw [he] at y; cases y.1
end
section
variable {f_total f_edgeCount f_coveredCount f_known f_sureMines f_sureFree : Int32} {a_clues a_around a_edge a_found a_foundWith : Nat → Int32}
variable {S : Int32}
theorem mv_gY (hC : mr_C S a_clues) (hA : mr_A a_around) {post : Int32 → Prop} (h : post (nI (mv_gc S 20).1)) : wpY_groups post (f_total, f_edgeCount, f_coveredCount, f_known, f_sureMines, f_sureFree, a_clues, a_around, a_edge, a_found, a_foundWith) := by
  refine loop_0 (σ := Int32 × Int32) (fun n i s => wY_groups_6 post f_total f_edgeCount f_coveredCount f_known f_sureMines f_sureFree a_clues a_around a_edge a_found a_foundWith n s.1 s.2 (nI i)) (fun i s => s.1 = nI (mv_gc S i).1 ∧ s.2 = (mv_gc S i).2) 20 (0, 0) ⟨rfl, rfl⟩ (fun n s hs => ?_) (fun n i s hi hs hk => ?_)
  · rw [← hs.1] at h
    exact br_t (nI_le (a := 20) (by omega) (by omega)) h
  · obtain ⟨x1, x2⟩ := s
    obtain ⟨q1, q2⟩ := hs
    dsimp only at q1 q2
    subst q1 q2
    have no : ¬ (me_ed S i = true ∧ bt (mv_gc S i).2 i = false) → wY_groups_6 post f_total f_edgeCount f_coveredCount f_known f_sureMines f_sureFree a_clues a_around a_edge a_found a_foundWith n (nI (mv_gc S i).1) (mv_gc S i).2 (nI (i + 1)) := by
      intro y
      refine hk (nI (mv_gc S i).1, (mv_gc S i).2) ?_
      rw [mv_gc, if_neg y]
      exact ⟨rfl, rfl⟩
    refine br_f (mx_20 hi) (my_edge hC hA hi (fun he => br_f mx_10 ?_) (fun he => br_t rfl (nm_r (nI_1 i) (no (fun y => ?_)))))
    · cases hb : bt (mv_gc S i).2 i
      · refine br_t (mx_t0 (by omega) hb) (nm_r (nI_1 _) (mv_gs hC hA hi (fun _ => nm_e (nm_r (nI_1 i) (hk (nI ((mv_gc S i).1 + 1), (mv_gc S i).2 ||| mv_grp S i) ?_))) (fun y => ?_)))
        · rw [mv_gc, if_pos ⟨he, hb⟩]
          exact ⟨rfl, rfl⟩
        · rw [he] at y; cases y
      · refine br_f (mx_t0' (by omega) hb) (nm_r (nI_1 i) (no (fun y => ?_)))
        rw [hb] at y; cases y.2
    · rw [he] at y; cases y.1
end
