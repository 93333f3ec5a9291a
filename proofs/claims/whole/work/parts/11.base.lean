/-! states: the set of shown cells, the clues -/
def mr_C (S : Int32) (ac : Nat → Int32) : Prop := me_lo S ∧ ∀ j, j < 20 → (bt S j = true → ∃ n, n ≤ 8 ∧ ac j = nI n) ∧ (bt S j = false → ac j = -1)
def mr_X (S : Int32) (ac ax : Nat → Int32) : Prop := ∀ j, j < 20 → (bt S j = true → ax j = ac j) ∧ (bt S j = false → ax j = -2)
def mr_A (a : Nat → Int32) : Prop := ∀ j, j < 20 → a j = me_t j
theorem mr_m1 : ¬ (0 : Int32) ≤ -1 := by decide
theorem mr_m1' : (-1 : Int32) < 0 := by decide
section
variable {S : Int32} {ac : Nat → Int32}
theorem mr_ge (h : mr_C S ac) {j : Nat} (hj : j < 20) (hs : bt S j = true) : 0 ≤ ac j := by
  obtain ⟨n, hn, e⟩ := (h.2 j hj).1 hs
  rw [e]; exact nI_pos' (by omega)
theorem mr_nlt (h : mr_C S ac) {j : Nat} (hj : j < 20) (hs : bt S j = true) : ¬ ac j < 0 := by
  obtain ⟨n, hn, e⟩ := (h.2 j hj).1 hs
  rw [e]; exact nI_pos (by omega)
theorem mr_nge (h : mr_C S ac) {j : Nat} (hj : j < 20) (hs : bt S j = false) : ¬ 0 ≤ ac j := by
  rw [(h.2 j hj).2 hs]; exact mr_m1
theorem mr_lt (h : mr_C S ac) {j : Nat} (hj : j < 20) (hs : bt S j = false) : ac j < 0 := by
  rw [(h.2 j hj).2 hs]; exact mr_m1'
end
def mr_cv (S : Int32) : Int32 := 1048575 &&& (S ^^^ (-1))
theorem mr_ball (i : Nat) : bt 1048575 i = decide (i < 20) := by
  rcases Nat.lt_or_ge i 32 with h | h
  · exact (by decide +kernel : ∀ i, i < 32 → bt 1048575 i = decide (i < 20)) i h
  · rw [b_big h, decide_eq_false (by omega)]
theorem mr_not (x : Int32) {i : Nat} (h : i < 32) : bt (x ^^^ (-1)) i = !bt x i := by rw [b_xor, b_m1 i h]; cases bt x i <;> rfl
theorem mr_cvb (S : Int32) {j : Nat} (hj : j < 32) : bt (mr_cv S) j = (decide (j < 20) && !bt S j) := by rw [mr_cv, b_and, mr_ball, mr_not S hj]
theorem mr_cvl (S : Int32) : me_lo (mr_cv S) := fun j hj => by
  rcases Nat.lt_or_ge j 32 with h | h
  · rw [mr_cvb S h, decide_eq_false (by omega)]; rfl
  · exact b_big h
theorem mr_tl {c : Nat} (hc : c < 20) : me_lo (me_t c) := fun j hj => me_btH hc hj
theorem mr_andl {x : Int32} (h : me_lo x) (y : Int32) : me_lo (x &&& y) := fun j hj => by rw [b_and, h j hj]; rfl
theorem mr_andr {y : Int32} (h : me_lo y) (x : Int32) : me_lo (x &&& y) := fun j hj => by rw [b_and, h j hj, Bool.and_false]
theorem mr_orl {x y : Int32} (h : me_lo x) (h' : me_lo y) : me_lo (x ||| y) := fun j hj => by rw [b_or, h j hj, h' j hj]; rfl
theorem mr_0l : me_lo 0 := fun j _ => b_0 j
theorem mr_e1 (S : Int32) {c : Nat} (hc : c < 20) : me_t c &&& (mr_cv S ^^^ (-1)) = me_t c &&& S := by
  refine me_ext (mr_andl (mr_tl hc) _) (mr_andl (mr_tl hc) _) (fun j hj => ?_)
  rw [b_and, b_and, mr_not _ (by omega), mr_cvb S (by omega), decide_eq_true hj]
  cases bt S j <;> simp
theorem mr_e2 (S : Int32) {c : Nat} (hc : c < 20) : me_t c &&& (S ^^^ (-1)) = me_t c &&& mr_cv S := by
  refine me_ext (mr_andl (mr_tl hc) _) (mr_andl (mr_tl hc) _) (fun j hj => ?_)
  rw [b_and, b_and, mr_not _ (by omega), mr_cvb S (by omega), decide_eq_true hj]
  simp
section
variable {f_total f_edgeCount f_coveredCount f_known f_sureMines f_sureFree : Int32} {a_clues a_around a_edge a_found a_foundWith : Nat → Int32}
variable {S : Int32}
theorem my_cov (hC : mr_C S a_clues) {post : Int32 → Prop} (h : post (mr_cv S)) : wpY_covered post (f_total, f_edgeCount, f_coveredCount, f_known, f_sureMines, f_sureFree, a_clues, a_around, a_edge, a_found, a_foundWith) := by
  refine loop_0 (σ := Int32) (fun n i x => wY_covered_4 post f_total f_edgeCount f_coveredCount f_known f_sureMines f_sureFree a_clues a_around a_edge a_found a_foundWith n x (nI i)) (fun i x => ∀ j, j < 32 → bt x j = (decide (j < i) && !bt S j)) 20 0 (fun j _ => by rw [b_0, decide_eq_false (by omega)]; rfl) (fun n x hx => ?_) (fun n i x hi hx hk => ?_)
  · have e : x = mr_cv S := b_ext (fun j hj => by rw [hx j hj, mr_cvb S hj])
    rw [← e] at h
    exact br_t (nI_le (a := 20) (by omega) (by omega)) h
  · refine br_f (mx_20 hi) ⟨vp_in_nI hi (by omega), ?_⟩
    rw [nI_clamp (by omega)]
    cases hs : bt S i
    · refine br_f (mr_nge hC hi hs) (nm_e (nm_r (nI_1 i) (hk _ (fun j hj => ?_))))
      show bt (x ||| my_bit i) j = _
      rw [b_or, hx j hj, my_bitb (by omega)]
      by_cases z : j = i
      · subst z; simp [hs]
      · have : decide (j < i + 1) = decide (j < i) := decide_eq_decide.mpr ⟨fun h => by omega, fun h => by omega⟩
        rw [this, decide_eq_false z, Bool.or_false]
    · refine br_t (mr_ge hC hi hs) (nm_r (nI_1 i) (hk _ (fun j hj => ?_)))
      rw [hx j hj]
      by_cases z : j = i
      · subst z; simp [hs]
      · have : decide (j < i + 1) = decide (j < i) := decide_eq_decide.mpr ⟨fun h => by omega, fun h => by omega⟩
        rw [this]
theorem my_edge (hC : mr_C S a_clues) (hA : mr_A a_around) {post : Int32 → Prop} {c : Nat} (hc : c < 20) (h1 : me_ed S c = true → post 1) (h0 : me_ed S c = false → post 0) : wpY_isAtEdge post (f_total, f_edgeCount, f_coveredCount, f_known, f_sureMines, f_sureFree, a_clues, a_around, a_edge, a_found, a_foundWith) (nI c) := by
  refine ⟨vp_in_nI hc (by omega), ?_⟩
  rw [nI_clamp (by omega)]
  cases hs : bt S c
  · refine br_f (mr_nge hC hc hs) ⟨vp_in_nI hc (by omega), my_cov hC ?_⟩
    rw [hA c hc, mr_e1 S hc]
    refine br_c (fun z => h0 ?_) (fun z => h1 ?_)
    · simp [me_ed, z]
    · simp [me_ed, z, hs]
  · exact br_t (mr_ge hC hc hs) (h0 (by simp [me_ed, hs]))
end
section
variable {f_shown f_total f_knownMined f_knownFree f_lastKind f_listed f_count f_numbers f_countedCell f_countedMines f_counted : Int32} {a_around a_clueOf a_kindOf a_cluesOf a_sizes a_clueList a_missing a_room a_links a_laterRoom a_linkEnd a_taken a_most a_countBefore a_ways a_minesIn : Nat → Int32}
theorem mx_edge (hA : mr_A a_around) {post : Int32 → Prop} {c : Nat} (hc : c < 20) (h1 : me_ed f_shown c = true → post 1) (h0 : me_ed f_shown c = false → post 0) : wpX_isAtEdge post (f_shown, f_total, f_knownMined, f_knownFree, f_lastKind, f_listed, f_count, f_numbers, f_countedCell, f_countedMines, f_counted, a_around, a_clueOf, a_kindOf, a_cluesOf, a_sizes, a_clueList, a_missing, a_room, a_links, a_laterRoom, a_linkEnd, a_taken, a_most, a_countBefore, a_ways, a_minesIn) (nI c) := by
  unfold wpX_isAtEdge
  refine mx_has (by omega) (fun hs => br_f mx_10 (h0 (by simp [me_ed, hs]))) (fun hs => br_t rfl ⟨vp_in_nI hc (by omega), ?_⟩)
  rw [nI_clamp (by omega), hA c hc]
  refine br_c (fun z => h0 ?_) (fun z => h1 ?_)
  · simp [me_ed, z]
  · simp [me_ed, z, hs]
end
/-! groups -/
def mr_p1 (S : Int32) (s : Nat) (x : Int32) : Int32 := if bt S s = true ∧ ¬ (me_t s &&& x = 0) then x ||| (me_t s &&& mr_cv S) else x
def mr_ps (S : Int32) : Nat → Int32 → Int32
  | 0, x => x
  | n + 1, x => mr_p1 S n (mr_ps S n x)
def mr_it (S : Int32) : Nat → Int32 → Int32
  | 0, x => x
  | n + 1, x => mr_ps S 20 (mr_it S n x)
theorem mr_p1l {S : Int32} {s : Nat} (hs : s < 20) {x : Int32} (hx : me_lo x) : me_lo (mr_p1 S s x) ∧ ∀ j, bt x j = true → bt (mr_p1 S s x) j = true := by
  unfold mr_p1
  split
  · exact ⟨mr_orl hx (mr_andl (mr_tl hs) _), fun j hj => by rw [b_or, hj]; rfl⟩
  · exact ⟨hx, fun j hj => hj⟩
theorem mr_psl {S : Int32} {x : Int32} (hx : me_lo x) : ∀ n, n ≤ 20 → me_lo (mr_ps S n x) ∧ ∀ j, bt x j = true → bt (mr_ps S n x) j = true
  | 0, _ => ⟨hx, fun _ h => h⟩
  | n + 1, hn => by
    obtain ⟨a, b⟩ := mr_psl hx n (by omega)
    obtain ⟨c, d⟩ := mr_p1l (S := S) (s := n) (by omega) a
    exact ⟨c, fun j hj => d j (b j hj)⟩
theorem mr_itl {S : Int32} {x : Int32} (hx : me_lo x) : ∀ n, me_lo (mr_it S n x)
  | 0 => hx
  | n + 1 => (mr_psl (mr_itl hx n) 20 (by omega)).1
theorem mr_grow {S : Int32} {x : Int32} (hx : me_lo x) (h : mr_ps S 20 x ≠ x) : me_c x < me_c (mr_ps S 20 x) := by
  obtain ⟨a, b⟩ := mr_psl (S := S) hx 20 (by omega)
  have hne : ∃ j, j < 20 ∧ bt x j = false ∧ bt (mr_ps S 20 x) j = true := by
    apply Classical.byContradiction
    intro z
    refine h (me_ext a hx (fun j hj => ?_))
    cases h1 : bt x j
    · cases h2 : bt (mr_ps S 20 x) j
      · rfl
      · exact absurd ⟨j, hj, h1, h2⟩ z
    · exact b j h1
  obtain ⟨j, hj, h1, h2⟩ := hne
  exact mb_lt hj h1 h2 (fun i _ => b i)
theorem mr_least (P : Nat → Prop) (h : ∃ k, P k) : ∃ k, P k ∧ ∀ j, j < k → ¬ P j := by
  obtain ⟨k, hk⟩ := h
  induction k using Nat.strongRecOn with
  | _ k ih =>
    by_cases z : ∃ j, j < k ∧ P j
    · obtain ⟨j, hj, hp⟩ := z
      exact ih j hj hp
    · exact ⟨k, hk, fun j hj hp => z ⟨j, hj, hp⟩⟩
theorem mr_stop (S : Int32) {x : Int32} (hx : me_lo x) (h1 : 1 ≤ me_c x) : ∃ N, N ≤ 19 ∧ mr_it S (N + 1) x = mr_it S N x ∧ ∀ p, p < N → mr_it S (p + 1) x ≠ mr_it S p x := by
  have grow : ∀ n, (∀ p, p < n → mr_it S (p + 1) x ≠ mr_it S p x) → n + 1 ≤ me_c (mr_it S n x) := by
    intro n
    induction n with
    | zero => intro _; exact h1
    | succ n ih =>
      intro h
      have a := ih (fun p hp => h p (by omega))
      have b := mr_grow (mr_itl (S := S) hx n) (h n (by omega))
      rw [mr_it]; omega
  have ex : ∃ N, mr_it S (N + 1) x = mr_it S N x := by
    apply Classical.byContradiction
    intro z
    have := grow 20 (fun p _ hp => z ⟨p, hp⟩)
    have := mb_le (bt (mr_it S 20 x)) 20
    simp only [me_c] at *
    omega
  obtain ⟨N, hN, hm⟩ := mr_least _ ex
  refine ⟨N, ?_, hN, hm⟩
  apply Classical.byContradiction
  intro z
  have h20 : 20 ≤ me_c (mr_it S 19 x) := grow 19 (fun p hp => hm p (by omega))
  have full := mb_full (p := bt (mr_it S 19 x)) h20
  have lo := mr_itl (S := S) hx 19
  refine hm 19 (by omega) ?_
  obtain ⟨a, b⟩ := mr_psl (S := S) lo 20 (by omega)
  exact me_ext a lo (fun j hj => by rw [full j hj]; exact b j (full j hj))
section
variable {f_total f_edgeCount f_coveredCount f_known f_sureMines f_sureFree : Int32} {a_clues a_around a_edge a_found a_foundWith : Nat → Int32}
variable {S : Int32}
theorem my_pass (hC : mr_C S a_clues) (hA : mr_A a_around) {post : Int32 → Prop} {J : Int32 → Int32 → Prop} {x b : Int32} (h : J (mr_ps S 20 x) b) : ∃ n, wY_groupSet_36 post J (mr_cv S) b f_total f_edgeCount f_coveredCount f_known f_sureMines f_sureFree a_clues a_around a_edge a_found a_foundWith n x 0 := by
  refine loop_0 (σ := Int32) (fun n i y => wY_groupSet_36 post J (mr_cv S) b f_total f_edgeCount f_coveredCount f_known f_sureMines f_sureFree a_clues a_around a_edge a_found a_foundWith n y (nI i)) (fun i y => y = mr_ps S i x) 20 x rfl (fun n y hy => ?_) (fun n i y hi hy hk => ?_)
  · subst hy
    exact br_t (nI_le (a := 20) (by omega) (by omega)) h
  · subst hy
    have vi := vp_in_nI hi (by omega)
    refine br_f (mx_20 hi) ⟨vi, ?_⟩
    rw [nI_clamp (by omega)]
    cases hs : bt S i
    · refine br_t (mr_lt hC hi hs) (nm_r (nI_1 i) (hk _ ?_))
      rw [mr_ps, mr_p1, if_neg (by simp [hs])]
    · refine br_f (mr_nlt hC hi hs) ⟨vi, ?_⟩
      rw [hA i hi]
      refine br_c (fun z => nm_r (nI_1 i) (hk _ ?_)) (fun z => ⟨vi, nm_e (nm_r (nI_1 i) (hk _ ?_))⟩)
      · rw [mr_ps, mr_p1, if_neg (fun y => y.2 z)]
      · rw [mr_ps, mr_p1, if_pos ⟨hs, z⟩]
theorem my_iter (hC : mr_C S a_clues) (hA : mr_A a_around) {post : Int32 → Prop} {x : Int32} {N : Nat} (hN : mr_it S (N + 1) x = mr_it S N x) (hm : ∀ p, p < N → mr_it S (p + 1) x ≠ mr_it S p x) (h : post (mr_it S N x)) : ∀ (k p : Nat) (b : Int32), p + k = N → b ≠ mr_it S p x → wY_groupSet_24 post (mr_cv S) f_total f_edgeCount f_coveredCount f_known f_sureMines f_sureFree a_clues a_around a_edge a_found a_foundWith (k + 2) (mr_it S p x) b
  | 0, p, b, e, hb => by
    refine br_f hb (my_pass hC hA ?_)
    have : p = N := by omega
    subst this
    show wY_groupSet_24 post (mr_cv S) f_total f_edgeCount f_coveredCount f_known f_sureMines f_sureFree a_clues a_around a_edge a_found a_foundWith 1 (mr_it S (p + 1) x) (mr_it S p x)
    rw [hN]
    exact br_t rfl h
  | k + 1, p, b, e, hb => by
    refine br_f hb (my_pass hC hA ?_)
    exact my_iter hC hA hN hm h k (p + 1) (mr_it S p x) (by omega) (fun z => hm p (by omega) z.symm)
end
section
variable {f_shown f_total f_knownMined f_knownFree f_lastKind f_listed f_count f_numbers f_countedCell f_countedMines f_counted : Int32} {a_around a_clueOf a_kindOf a_cluesOf a_sizes a_clueList a_missing a_room a_links a_laterRoom a_linkEnd a_taken a_most a_countBefore a_ways a_minesIn : Nat → Int32}
theorem mx_pass (hA : mr_A a_around) {post : Int32 → Prop} {J : Int32 → Int32 → Int32 → Prop} {x b : Int32} {p : Nat} (h : J (mr_ps f_shown 20 x) b (nI (p + 1))) : ∃ n, wX_groupWith_26 post J b (nI p) f_shown f_total f_knownMined f_knownFree f_lastKind f_listed f_count f_numbers f_countedCell f_countedMines f_counted a_around a_clueOf a_kindOf a_cluesOf a_sizes a_clueList a_missing a_room a_links a_laterRoom a_linkEnd a_taken a_most a_countBefore a_ways a_minesIn n x 0 := by
  refine loop_0 (σ := Int32) (fun n i y => wX_groupWith_26 post J b (nI p) f_shown f_total f_knownMined f_knownFree f_lastKind f_listed f_count f_numbers f_countedCell f_countedMines f_counted a_around a_clueOf a_kindOf a_cluesOf a_sizes a_clueList a_missing a_room a_links a_laterRoom a_linkEnd a_taken a_most a_countBefore a_ways a_minesIn n y (nI i)) (fun i y => y = mr_ps f_shown i x) 20 x rfl (fun n y hy => ?_) (fun n i y hi hy hk => ?_)
  · subst hy
    exact br_t (nI_le (a := 20) (by omega) (by omega)) (nm_r (nI_1 p) h)
  · subst hy
    have vi := vp_in_nI hi (by omega)
    refine br_f (mx_20 hi) (mx_has (by omega) (fun hs => br_f mx_10 ⟨vi, ?_⟩) (fun hs => br_t rfl (nm_r (nI_1 i) (hk _ ?_))))
    · rw [nI_clamp (by omega), hA i hi]
      refine br_c (fun z => nm_r (nI_1 i) (hk _ ?_)) (fun z => ⟨vi, nm_r (e' := mr_ps f_shown i x ||| (me_t i &&& mr_cv f_shown)) (by rw [mr_e2 f_shown hi]) (nm_r (nI_1 i) (hk _ ?_))⟩)
      · rw [mr_ps, mr_p1, if_neg (fun y => y.2 z)]
      · rw [mr_ps, mr_p1, if_pos ⟨hs, z⟩]
    · rw [mr_ps, mr_p1, if_neg (by simp [hs])]
theorem mx_iter (hA : mr_A a_around) {post : Int32 → Prop} {x : Int32} {N : Nat} (h19 : N ≤ 19) (hN : mr_it f_shown (N + 1) x = mr_it f_shown N x) (hm : ∀ p, p < N → mr_it f_shown (p + 1) x ≠ mr_it f_shown p x) (h : post (mr_it f_shown N x)) : ∀ (k p : Nat) (b : Int32), p + k = N → mr_it f_shown p x ≠ b → wX_groupWith_9 post f_shown f_total f_knownMined f_knownFree f_lastKind f_listed f_count f_numbers f_countedCell f_countedMines f_counted a_around a_clueOf a_kindOf a_cluesOf a_sizes a_clueList a_missing a_room a_links a_laterRoom a_linkEnd a_taken a_most a_countBefore a_ways a_minesIn (k + 2) (mr_it f_shown p x) b (nI p)
  | 0, p, b, e, hb => by
    refine br_f (mx_20 (by omega)) (br_f hb (mx_pass hA ?_))
    have : p = N := by omega
    subst this
    show wX_groupWith_9 post f_shown f_total f_knownMined f_knownFree f_lastKind f_listed f_count f_numbers f_countedCell f_countedMines f_counted a_around a_clueOf a_kindOf a_cluesOf a_sizes a_clueList a_missing a_room a_links a_laterRoom a_linkEnd a_taken a_most a_countBefore a_ways a_minesIn 1 (mr_it f_shown (p + 1) x) (mr_it f_shown p x) (nI (p + 1))
    rw [hN]
    exact br_c (fun _ => h) (fun _ => br_t rfl h)
  | k + 1, p, b, e, hb => by
    refine br_f (mx_20 (by omega)) (br_f hb (mx_pass hA ?_))
    exact mx_iter hA h19 hN hm h k (p + 1) (mr_it f_shown p x) (by omega) (hm p (by omega))
end
