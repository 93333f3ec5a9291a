/-! both constructors -/
theorem mi_nb : ∀ c, c < 20 → (((((((1 : Int32) <<< (nI c &&& 31)) ||| ((((1 : Int32) <<< (nI c &&& 31)) &&& (-541201)) <<< ((1 : Int32) &&& 31))) ||| ((((1 : Int32) <<< (nI c &&& 31)) &&& (-33826)) >>> ((1 : Int32) &&& 31))) ||| (((((1 : Int32) <<< (nI c &&& 31)) ||| ((((1 : Int32) <<< (nI c &&& 31)) &&& (-541201)) <<< ((1 : Int32) &&& 31))) ||| ((((1 : Int32) <<< (nI c &&& 31)) &&& (-33826)) >>> ((1 : Int32) &&& 31))) <<< ((5 : Int32) &&& 31))) ||| (((((1 : Int32) <<< (nI c &&& 31)) ||| ((((1 : Int32) <<< (nI c &&& 31)) &&& (-541201)) <<< ((1 : Int32) &&& 31))) ||| ((((1 : Int32) <<< (nI c &&& 31)) &&& (-33826)) >>> ((1 : Int32) &&& 31))) >>> ((5 : Int32) &&& 31))) &&& 1048575) &&& (((1 : Int32) <<< (nI c &&& 31)) ^^^ (-1)) = me_t c := by decide +kernel
theorem mi_X {post : SX → Prop} (h : ∀ (f_shown f_total f_knownMined f_knownFree f_lastKind f_listed f_count f_numbers f_countedCell f_countedMines f_counted : Int32) (a_around a_clueOf a_kindOf a_cluesOf a_sizes a_clueList a_missing a_room a_links a_laterRoom a_linkEnd a_taken a_most a_countBefore a_ways a_minesIn : Nat → Int32), mr_A a_around → (∀ j, j < 20 → a_clueOf j = -2) → f_shown = 0 → f_total = -1 → f_counted = 0 → post (f_shown, f_total, f_knownMined, f_knownFree, f_lastKind, f_listed, f_count, f_numbers, f_countedCell, f_countedMines, f_counted, a_around, a_clueOf, a_kindOf, a_cluesOf, a_sizes, a_clueList, a_missing, a_room, a_links, a_laterRoom, a_linkEnd, a_taken, a_most, a_countBefore, a_ways, a_minesIn)) : wpX_init post := by
  refine loop_0 (σ := (Nat → Int32) × (Nat → Int32)) (fun n i s => wX_init_136 post 0 0 0 0 0 0 0 0 0 0 0 n (nI i) s.1 s.2 (fun _ => 0) (fun _ => 0) (fun _ => 0) (fun _ => 0) (fun _ => 0) (fun _ => 0) (fun _ => 0) (fun _ => 0) (fun _ => 0) (fun _ => 0) (fun _ => 0) (fun _ => 0) (fun _ => 0) (fun _ => 0))
    (fun i s => (∀ j, j < i → s.1 j = me_t j) ∧ (∀ j, j < i → s.2 j = -2)) 20 ((fun _ => 0), (fun _ => 0)) ⟨fun j hj => by omega, fun j hj => by omega⟩ (fun n s hs => ?_) (fun n i s hi hs hk => ?_)
  · exact br_t (nI_le (a := 20) (by omega) (by omega)) (h _ _ _ _ _ _ _ _ _ _ _ _ _ _ _ _ _ _ _ _ _ _ _ _ _ _ _ hs.1 hs.2 rfl rfl rfl)
  · obtain ⟨a, b⟩ := s
    obtain ⟨q1, q2⟩ := hs
    dsimp only at q1 q2
    refine br_f (mx_20 hi) ?_
    refine nm_e (nm_e ?_)
    rw [mi_nb i hi]
    refine ⟨vp_in_nI hi (by omega), nm_r (e' := upd a i (me_t i)) (by rw [nI_clamp (by omega)]) ⟨vp_in_nI hi (by omega), nm_r (e' := upd b i (-2)) (by rw [nI_clamp (by omega)]) (nm_r (nI_1 i) (hk (upd a i (me_t i), upd b i (-2)) ⟨fun j hj => ?_, fun j hj => ?_⟩))⟩⟩
    · dsimp only
      by_cases y : j = i
      · subst y; exact pk_us
      · rw [pk_un y]; exact q1 j (by omega)
    · dsimp only
      by_cases y : j = i
      · subst y; exact pk_us
      · rw [pk_un y]; exact q2 j (by omega)
/-- the reference's row c up to column d -/
def mi_p (c d : Nat) : Int32 := nI (me_tab.getD c 0 % 2 ^ d)
theorem mi_p20 : ∀ c, c < 20 → mi_p c 20 = me_t c := by decide +kernel
theorem mi_p1 : ∀ c, c < 20 → ∀ d, d < 20 → me_nr c d = true → mi_p c (d + 1) = mi_p c d ||| ((1 : Int32) <<< (nI d &&& 31)) := by decide +kernel
theorem mi_p0 : ∀ c, c < 20 → ∀ d, d < 20 → me_nr c d = false → mi_p c (d + 1) = mi_p c d := by decide +kernel
theorem mi_q1 : ∀ c, c < 20 → ∀ d, d < 20 → (1 < (nI c / 5 - nI d / 5) * (nI c / 5 - nI d / 5) ↔ ¬ (c / 5 ≤ d / 5 + 1 ∧ d / 5 ≤ c / 5 + 1)) := by decide +kernel
theorem mi_q2 : ∀ c, c < 20 → ∀ d, d < 20 → (1 < ((nI c - nI c / 5 * 5) - (nI d - nI d / 5 * 5)) * ((nI c - nI c / 5 * 5) - (nI d - nI d / 5 * 5)) ↔ ¬ (c % 5 ≤ d % 5 + 1 ∧ d % 5 ≤ c % 5 + 1)) := by decide +kernel
theorem mi_Y1 {post : SY → Prop} {J : Int32 → (Nat → Int32) → (Nat → Int32) → (Nat → Int32) → (Nat → Int32) → (Nat → Int32) → Prop} {c : Nat} (hc : c < 20) (f_total f_edgeCount f_coveredCount f_known f_sureMines f_sureFree : Int32) (a_clues a_around a_edge a_found a_foundWith : Nat → Int32) (h0 : a_around c = 0)
    (h : ∀ ar : Nat → Int32, ar c = me_t c → (∀ j, j ≠ c → ar j = a_around j) → J (nI (c + 1)) a_clues ar a_edge a_found a_foundWith) : ∃ n, wY_init_67 post J (nI c) f_total f_edgeCount f_coveredCount f_known f_sureMines f_sureFree n 0 a_clues a_around a_edge a_found a_foundWith := by
  have vc := vp_in_nI hc (N := 20) (by omega)
  refine loop_0 (σ := Nat → Int32) (fun n i ar => wY_init_67 post J (nI c) f_total f_edgeCount f_coveredCount f_known f_sureMines f_sureFree n (nI i) a_clues ar a_edge a_found a_foundWith) (fun i ar => ar c = mi_p c i ∧ (∀ j, j ≠ c → ar j = a_around j)) 20 a_around ⟨by rw [h0]; exact (by decide +kernel : ∀ c, c < 20 → (0 : Int32) = mi_p c 0) c hc, fun _ _ => rfl⟩ (fun n ar hs => ?_) (fun n i ar hi hs hk => ?_)
  · exact br_t (nI_le (a := 20) (by omega) (by omega)) (nm_r (nI_1 c) (h ar (by rw [hs.1]; exact mi_p20 c hc) hs.2))
  · have no : me_nr c i = false → wY_init_116 post J (wY_init_67 post J (nI c) f_total f_edgeCount f_coveredCount f_known f_sureMines f_sureFree n) (nI c) (nI i) 0 f_total f_edgeCount f_coveredCount f_known f_sureMines f_sureFree a_clues ar a_edge a_found a_foundWith := by
      intro hn
      refine br_t rfl ⟨vc, vc, nm_r (e' := upd ar c (ar c)) (by rw [nI_clamp (by omega)]) (nm_r (nI_1 i) (hk (upd ar c (ar c)) ⟨?_, fun j hj => ?_⟩))⟩
      · rw [pk_us, hs.1, mi_p0 c hc i hi hn]
      · rw [pk_un hj]; exact hs.2 j hj
    have yes : me_nr c i = true → wY_init_116 post J (wY_init_67 post J (nI c) f_total f_edgeCount f_coveredCount f_known f_sureMines f_sureFree n) (nI c) (nI i) 1 f_total f_edgeCount f_coveredCount f_known f_sureMines f_sureFree a_clues ar a_edge a_found a_foundWith := by
      intro hn
      refine br_f mx_10 ⟨vc, vc, nm_r (e' := upd ar c (ar c ||| ((1 : Int32) <<< (nI i &&& 31)))) (by rw [nI_clamp (by omega)]) (nm_r (nI_1 i) (hk (upd ar c (ar c ||| ((1 : Int32) <<< (nI i &&& 31)))) ⟨?_, fun j hj => ?_⟩))⟩
      · rw [pk_us, hs.1, mi_p1 c hc i hi hn]
      · rw [pk_un hj]; exact hs.2 j hj
    refine br_f (mx_20 hi) ⟨by decide, by decide, nm_e ⟨by decide, by decide, nm_e ?_⟩⟩
    by_cases e1 : c = i
    · exact br_t (by rw [e1]) (no (by simp [me_nr, e1]))
    · refine br_f (fun y => e1 ((nI_eq (by omega) (by omega)).mp y)) ?_
      by_cases e2 : c / 5 ≤ i / 5 + 1 ∧ i / 5 ≤ c / 5 + 1
      · refine br_f (fun y => (mi_q1 c hc i hi).mp y e2) ?_
        by_cases e3 : c % 5 ≤ i % 5 + 1 ∧ i % 5 ≤ c % 5 + 1
        · exact br_f (fun y => (mi_q2 c hc i hi).mp y e3) (yes (decide_eq_true ⟨e1, e2.1, e2.2, e3.1, e3.2⟩))
        · exact br_t ((mi_q2 c hc i hi).mpr e3) (no (decide_eq_false (fun y => e3 ⟨y.2.2.2.1, y.2.2.2.2⟩)))
      · exact br_t ((mi_q1 c hc i hi).mpr e2) (no (decide_eq_false (fun y => e2 ⟨y.2.1, y.2.2.1⟩)))
theorem mi_Y {post : SY → Prop} (h : ∀ (f_total f_edgeCount f_coveredCount f_known f_sureMines f_sureFree : Int32) (a_clues a_around a_edge a_found a_foundWith : Nat → Int32), mr_A a_around → (∀ j, j < 20 → a_clues j = -1) → f_total = -1 → f_known = 0 → post (f_total, f_edgeCount, f_coveredCount, f_known, f_sureMines, f_sureFree, a_clues, a_around, a_edge, a_found, a_foundWith)) : wpY_init post := by
  refine loop_0 (σ := (Nat → Int32) × (Nat → Int32)) (fun n i s => wY_init_52 post (-1) 0 0 0 0 0 n (nI i) s.1 s.2 (fun _ => 0) (fun _ => 0) (fun _ => 0))
    (fun i s => (∀ j, j < i → s.1 j = -1) ∧ (∀ j, j < i → s.2 j = me_t j) ∧ (∀ j, i ≤ j → s.2 j = 0)) 20 ((fun _ => 0), (fun _ => 0)) ⟨fun j hj => by omega, fun j hj => by omega, fun _ _ => rfl⟩ (fun n s hs => ?_) (fun n i s hi hs hk => ?_)
  · exact br_t (nI_le (a := 20) (by omega) (by omega)) (h _ _ _ _ _ _ _ _ _ _ _ hs.2.1 hs.1 rfl rfl)
  · obtain ⟨a, b⟩ := s
    obtain ⟨q1, q2, q3⟩ := hs
    dsimp only at q1 q2 q3
    refine br_f (mx_20 hi) ⟨vp_in_nI hi (by omega), nm_r (e' := upd a i (-1)) (by rw [nI_clamp (by omega)]) (mi_Y1 hi _ _ _ _ _ _ _ _ _ _ _ (q3 i (Nat.le_refl i)) (fun ar g1 g2 => hk (upd a i (-1), ar) ⟨fun j hj => ?_, fun j hj => ?_, fun j hj => ?_⟩))⟩
    · dsimp only
      by_cases y : j = i
      · subst y; exact pk_us
      · rw [pk_un y]; exact q1 j (by omega)
    · by_cases y : j = i
      · subst y; exact g1
      · dsimp only
        rw [g2 j y]; exact q2 j (by omega)
    · dsimp only
      rw [g2 j (by omega)]; exact q3 j (by omega)
