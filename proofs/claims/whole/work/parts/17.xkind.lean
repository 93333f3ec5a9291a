/-! the component's kinds -/
def mk_m (sn al : Int32) (c : Nat) : Int32 := (me_t c &&& sn) ||| al
theorem mf_zle {z : Nat → Nat} {m : Nat → Int32} {t : Nat} : ∀ {n : Nat}, t < n → z t ≤ (mf_fl z m n).length
  | 0, h => by omega
  | n + 1, h => by
    rw [mf_fl, List.length_append, List.length_replicate]
    rcases Nat.lt_or_ge t n with y | y
    · have := mf_zle (z := z) (m := m) (n := n) y; omega
    · have : t = n := by omega
      subst this; omega
section
variable {f_shown f_total f_knownMined f_knownFree f_lastKind f_listed f_count f_numbers f_countedCell f_countedMines f_counted : Int32} {a_around a_clueOf a_kindOf a_cluesOf a_sizes a_clueList a_missing a_room a_links a_laterRoom a_linkEnd a_taken a_most a_countBefore a_ways a_minesIn : Nat → Int32}
theorem mx_join26 {n : Nat} (hl : f_lastKind = nI n) (hn : n ≤ 19) {z : Nat → Nat} (hz : ∀ t, t < n → a_sizes t = nI (z t) ∧ 0 < z t) {c : Nat} (hc : c < 20) {m : Int32} {t : Nat} (ht : t ≤ n) (hm : t < n → a_cluesOf t = m) {post : SX → Prop}
    (h : ∀ lk ko co sz n' z' t', lk = nI n' → n' ≤ n + 1 → t' < n' → n ≤ n' → ko = upd a_kindOf c (nI t') → co t' = m → (∀ s, s < n → co s = a_cluesOf s) → (∀ s, n ≤ s → s < n' → co s = m) → (∀ s, s < n' → sz s = nI (z' s) ∧ 0 < z' s) → List.Perm (mf_fl z' co n') (m :: mf_fl z a_cluesOf n) → post (f_shown, f_total, f_knownMined, f_knownFree, lk, f_listed, f_count, f_numbers, f_countedCell, f_countedMines, f_counted, a_around, a_clueOf, ko, co, sz, a_clueList, a_missing, a_room, a_links, a_laterRoom, a_linkEnd, a_taken, a_most, a_countBefore, a_ways, a_minesIn)) : wX_join_26 post (nI c) m (nI t) f_shown f_total f_knownMined f_knownFree f_lastKind f_listed f_count f_numbers f_countedCell f_countedMines f_counted a_around a_clueOf a_kindOf a_cluesOf a_sizes a_clueList a_missing a_room a_links a_laterRoom a_linkEnd a_taken a_most a_countBefore a_ways a_minesIn := by
  have vt : vp_in (nI t) 21 := vp_in_nI (by omega) (by omega)
  have ct : (nI t).toNatClampNeg = t := nI_clamp (by omega)
  have cc : (nI c).toNatClampNeg = c := nI_clamp (by omega)
  by_cases e : t = n
  · subst e
    refine br_t hl.symm ⟨vt, nm_r (e' := upd a_cluesOf t m) (by rw [ct]) ⟨vt, nm_r (e' := upd a_sizes t 0) (by rw [ct]) (nm_r (e' := nI (t + 1)) (by rw [hl, nI_1]) ⟨vt, vt, nm_r (e' := upd (upd a_sizes t 0) t 1) ?_ ⟨vp_in_nI hc (by omega), nm_r (e' := upd a_kindOf c (nI t)) (by rw [cc]) ?_⟩⟩)⟩⟩
    · rw [ct, pk_us]; rfl
    · refine h (nI (t + 1)) _ _ _ (t + 1) (fun s => if s = t then 1 else z s) t rfl (by omega) (by omega) (by omega) rfl pk_us (fun s hs => pk_un (by omega)) (fun s h1 h2 => ?_) (fun s hs => ?_) ?_
      · have : s = t := by omega
        subst this; exact pk_us
      · by_cases y : s = t
        · subst y
          rw [pk_us, if_pos rfl]
          exact ⟨rfl, by omega⟩
        · rw [pk_un y, pk_un y, if_neg y]
          exact hz s (by omega)
      · rw [mf_fl, pk_us, if_pos rfl]
        rw [mf_congr (sz := z) (m := a_cluesOf) (n := t) (fun i hi => ⟨if_neg (by omega), pk_un (by omega)⟩)]
        exact List.perm_append_comm
  · have e' : ¬ nI t = f_lastKind := by
      rw [hl]
      intro y
      exact e ((nI_eq (by omega) (by omega)).mp y)
    obtain ⟨z1, z2⟩ := hz t (by omega)
    refine br_f e' ⟨vt, vt, nm_r (e' := upd a_sizes t (nI (z t + 1))) (by rw [ct, z1, nI_1]) ⟨vp_in_nI hc (by omega), nm_r (e' := upd a_kindOf c (nI t)) (by rw [cc]) ?_⟩⟩
    refine h f_lastKind _ a_cluesOf _ n (fun s => if s = t then z t + 1 else z s) t hl (by omega) (by omega) (by omega) rfl (hm (by omega)) (fun s hs => rfl) (fun s h1 h2 => by omega) (fun s hs => ?_) ?_
    · by_cases y : s = t
      · subst y
        rw [pk_us, if_pos rfl]
        exact ⟨rfl, by omega⟩
      · rw [pk_un y, if_neg y]
        exact hz s hs
    · have := mf_inc (sz := z) (sz' := fun s => if s = t then z t + 1 else z s) (m := a_cluesOf) (k := t) (if_pos rfl) (n := n) (by omega) (fun i hi hne => if_neg hne)
      rw [hm (by omega)] at this
      exact this
theorem mx_join {n : Nat} (hl : f_lastKind = nI n) (hn : n ≤ 19) {z : Nat → Nat} (hz : ∀ t, t < n → a_sizes t = nI (z t) ∧ 0 < z t) {c : Nat} (hc : c < 20) {m : Int32} {post : SX → Prop}
    (h : ∀ lk ko co sz n' z' t', lk = nI n' → n' ≤ n + 1 → t' < n' → n ≤ n' → ko = upd a_kindOf c (nI t') → co t' = m → (∀ s, s < n → co s = a_cluesOf s) → (∀ s, n ≤ s → s < n' → co s = m) → (∀ s, s < n' → sz s = nI (z' s) ∧ 0 < z' s) → List.Perm (mf_fl z' co n') (m :: mf_fl z a_cluesOf n) → post (f_shown, f_total, f_knownMined, f_knownFree, lk, f_listed, f_count, f_numbers, f_countedCell, f_countedMines, f_counted, a_around, a_clueOf, ko, co, sz, a_clueList, a_missing, a_room, a_links, a_laterRoom, a_linkEnd, a_taken, a_most, a_countBefore, a_ways, a_minesIn)) : wpX_join post (f_shown, f_total, f_knownMined, f_knownFree, f_lastKind, f_listed, f_count, f_numbers, f_countedCell, f_countedMines, f_counted, a_around, a_clueOf, a_kindOf, a_cluesOf, a_sizes, a_clueList, a_missing, a_room, a_links, a_laterRoom, a_linkEnd, a_taken, a_most, a_countBefore, a_ways, a_minesIn) (nI c) m := by
  refine loop_0 (σ := Unit) (fun k i _ => wX_join_2 post (nI c) m f_shown f_total f_knownMined f_knownFree f_lastKind f_listed f_count f_numbers f_countedCell f_countedMines f_counted a_around a_clueOf a_kindOf a_cluesOf a_sizes a_clueList a_missing a_room a_links a_laterRoom a_linkEnd a_taken a_most a_countBefore a_ways a_minesIn k (nI i)) (fun _ _ => True) n () trivial (fun k s _ => ?_) (fun k i s hi _ hk => ?_)
  · refine br_t (by rw [hl]; exact nI_le (Nat.le_refl n) (by omega)) (mx_join26 hl hn hz hc (Nat.le_refl n) (fun y => by omega) h)
  · refine br_f (by rw [hl]; exact nI_ge hi (by omega)) ⟨vp_in_nI (by omega) (by omega), ?_⟩
    rw [nI_clamp (by omega)]
    exact br_c (fun y => mx_join26 hl hn hz hc (by omega) (fun _ => y) h) (fun y => nm_r (nI_1 i) (hk () trivial))
end
/-- the kinds after the cells below i -/
def mk_I (sn al : Int32) (i : Nat) (lk : Int32) (ko co sz : Nat → Int32) : Prop := ∃ (n : Nat) (z : Nat → Nat), lk = nI n ∧ (∀ t, t < n → sz t = nI (z t) ∧ 0 < z t) ∧ (∀ t, t < n → ∃ c, c < 20 ∧ co t = mk_m sn al c) ∧
  List.Perm (mf_fl z co n) (((List.range i).filter (me_ed sn)).map (mk_m sn al)) ∧ (∀ c, c < i → me_ed sn c = true → ∃ t, t < n ∧ ko c = nI t ∧ co t = mk_m sn al c)
theorem mk_In {sn al : Int32} {i : Nat} {co : Nat → Int32} {n : Nat} {z : Nat → Nat} (hz : ∀ t, t < n → 0 < z t) (hp : List.Perm (mf_fl z co n) (((List.range i).filter (me_ed sn)).map (mk_m sn al))) : n ≤ i := by
  have h1 := mf_le (sz := z) (m := co) hz
  have h2 := hp.length_eq
  have h3 := List.length_filter_le (me_ed sn) (List.range i)
  rw [List.length_map] at h2
  rw [List.length_range] at h3
  omega
theorem mk_Is {sn al : Int32} {i : Nat} {lk : Int32} {ko co sz : Nat → Int32} (h : mk_I sn al i lk ko co sz) (he : me_ed sn i = false) : mk_I sn al (i + 1) lk ko co sz := by
  obtain ⟨n, z, h1, h2, h3, h4, h5⟩ := h
  refine ⟨n, z, h1, h2, h3, ?_, fun c hc hec => ?_⟩
  · rw [List.range_succ, List.filter_append]
    simp only [List.filter_cons, he, List.filter_nil]
    simpa using h4
  · rcases Nat.lt_or_ge c i with y | y
    · exact h5 c y hec
    · have : c = i := by omega
      subst this
      rw [he] at hec; cases hec
/-- what the search is given -/
def mk_F (sn al : Int32) (lk : Int32) (ko co sz : Nat → Int32) (n : Nat) (z : Nat → Nat) : Prop := lk = nI n ∧ n ≤ 20 ∧ (∀ t, t < n → sz t = nI (z t) ∧ 0 < z t) ∧ (∀ t, t < n → ∃ c, c < 20 ∧ co t = mk_m sn al c) ∧
  List.Perm (mf_fl z co n) ((me_E sn).map (mk_m sn al)) ∧ (∀ c, c < 20 → me_ed sn c = true → ∃ t, t < n ∧ ko c = nI t ∧ co t = mk_m sn al c) ∧ co n = al ∧ sz n = nI (me_R sn) ∧ (∀ c, c < 20 → me_ot sn c = true → ko c = nI n)
section
variable {f_shown f_total f_knownMined f_knownFree f_lastKind f_listed f_count f_numbers f_countedCell f_countedMines f_counted : Int32} {a_around a_clueOf a_kindOf a_cluesOf a_sizes a_clueList a_missing a_room a_links a_laterRoom a_linkEnd a_taken a_most a_countBefore a_ways a_minesIn : Nat → Int32}
theorem mx_kinds2 {sn al x3 : Int32} (hl3 : me_lo x3) (h3 : ∀ j, j < 20 → bt x3 j = me_ot sn j) (hI : mk_I sn al 20 f_lastKind a_kindOf a_cluesOf a_sizes) {post : SX → Prop}
    (h : ∀ ko co sz n z, mk_F sn al f_lastKind ko co sz n z → post (f_shown, f_total, f_knownMined, f_knownFree, f_lastKind, f_listed, f_count, f_numbers, f_countedCell, f_countedMines, f_counted, a_around, a_clueOf, ko, co, sz, a_clueList, a_missing, a_room, a_links, a_laterRoom, a_linkEnd, a_taken, a_most, a_countBefore, a_ways, a_minesIn)) : ∃ n, wX_findKinds_119 post al x3 f_shown f_total f_knownMined f_knownFree f_lastKind f_listed f_count f_numbers f_countedCell f_countedMines f_counted n 0 a_around a_clueOf a_kindOf a_cluesOf a_sizes a_clueList a_missing a_room a_links a_laterRoom a_linkEnd a_taken a_most a_countBefore a_ways a_minesIn := by
  obtain ⟨n, z, h1, h2, h4, h5, h6⟩ := hI
  have hn : n ≤ 20 := mk_In (fun t ht => (h2 t ht).2) h5
  have vl : vp_in f_lastKind 21 := by rw [h1]; exact vp_in_nI (by omega) (by omega)
  have cl : f_lastKind.toNatClampNeg = n := by rw [h1]; exact nI_clamp (by omega)
  refine loop_0 (σ := Nat → Int32) (fun k i ko => wX_findKinds_119 post al x3 f_shown f_total f_knownMined f_knownFree f_lastKind f_listed f_count f_numbers f_countedCell f_countedMines f_counted k (nI i) a_around a_clueOf ko a_cluesOf a_sizes a_clueList a_missing a_room a_links a_laterRoom a_linkEnd a_taken a_most a_countBefore a_ways a_minesIn) (fun i ko => (∀ c, c < 20 → me_ed sn c = true → ko c = a_kindOf c) ∧ (∀ c, c < i → me_ot sn c = true → ko c = nI n)) 20 a_kindOf ⟨fun _ _ _ => rfl, fun c hc => by omega⟩ (fun k ko hs => ?_) (fun k i ko hi hs hk => ?_)
  · refine br_t (nI_le (a := 20) (by omega) (by omega)) ⟨vl, nm_r (e' := upd a_cluesOf n al) (by rw [cl]) (mx_size hl3 ⟨vl, nm_r (e' := upd a_sizes n (nI (me_c x3))) (by rw [cl]) ?_⟩)⟩
    have ec : me_c x3 = me_R sn := mb_eq h3
    refine h ko _ _ n z ⟨h1, hn, fun t ht => ?_, fun t ht => ?_, ?_, fun c hc he => ?_, pk_us, ?_, fun c hc ho => hs.2 c hc ho⟩
    · rw [pk_un (by omega)]; exact h2 t ht
    · rw [pk_un (by omega)]; exact h4 t ht
    · rw [mf_congr (sz := z) (sz' := z) (m := a_cluesOf) (n := n) (fun i hi => ⟨rfl, pk_un (by omega)⟩)]
      exact h5
    · obtain ⟨t, t1, t2, t3⟩ := h6 c hc he
      refine ⟨t, t1, ?_, ?_⟩
      · rw [hs.1 c hc he]; exact t2
      · rw [pk_un (by omega)]; exact t3
    · rw [pk_us, ec]
  · refine br_f (mx_20 hi) (mx_has (by omega) (fun hb => br_f mx_10 ⟨vp_in_nI hi (by omega), nm_r (e' := upd ko i (nI n)) (by rw [nI_clamp (by omega), h1]) (nm_r (nI_1 i) (hk _ ⟨fun c hc he => ?_, fun c hc ho => ?_⟩))⟩) (fun hb => br_t rfl (nm_r (nI_1 i) (hk ko ⟨hs.1, fun c hc ho => ?_⟩))))
    · have : c ≠ i := by
        intro y
        subst y
        rw [h3 c hi] at hb
        simp only [me_ot, me_ed] at hb he
        simp at hb he
        exact he.2 hb.2
      rw [pk_un this]
      exact hs.1 c hc he
    · by_cases y : c = i
      · subst y; exact pk_us
      · rw [pk_un y]
        exact hs.2 c (by omega) ho
    · rcases Nat.lt_or_ge c i with y | y
      · exact hs.2 c y ho
      · have : c = i := by omega
        subst this
        rw [h3 c hi, ho] at hb; cases hb
theorem mx_kinds1 (hA : mr_A a_around) {sn al : Int32} (hsn : me_lo sn) {post : SX → Prop}
    (h : ∀ lk ko co sz n z, mk_F sn al lk ko co sz n z → post (f_shown, f_total, f_knownMined, f_knownFree, lk, f_listed, f_count, f_numbers, f_countedCell, f_countedMines, f_counted, a_around, a_clueOf, ko, co, sz, a_clueList, a_missing, a_room, a_links, a_laterRoom, a_linkEnd, a_taken, a_most, a_countBefore, a_ways, a_minesIn)) : wX_findKinds_41 post al sn f_shown f_total f_knownMined f_knownFree f_lastKind f_listed f_count f_numbers f_countedCell f_countedMines f_counted a_around a_clueOf a_kindOf a_cluesOf a_sizes a_clueList a_missing a_room a_links a_laterRoom a_linkEnd a_taken a_most a_countBefore a_ways a_minesIn := by
  refine loop_0 (σ := Int32 × Int32 × (Nat → Int32) × (Nat → Int32) × (Nat → Int32)) (fun n i s => wX_findKinds_52 post al sn n s.1 (nI i) f_shown f_total f_knownMined f_knownFree s.2.1 f_listed f_count f_numbers f_countedCell f_countedMines f_counted a_around a_clueOf s.2.2.1 s.2.2.2.1 s.2.2.2.2 a_clueList a_missing a_room a_links a_laterRoom a_linkEnd a_taken a_most a_countBefore a_ways a_minesIn)
    (fun i s => (∀ j, j < 32 → bt s.1 j = (decide (j < i) && decide (me_t j &&& sn = 0))) ∧ mk_I sn al i s.2.1 s.2.2.1 s.2.2.2.1 s.2.2.2.2) 20 (0, 0, a_kindOf, a_cluesOf, a_sizes)
    ⟨fun j _ => by rw [b_0]; simp, 0, fun _ => 0, rfl, fun t ht => by omega, fun t ht => by omega, by simp [mf_fl], fun c hc => by omega⟩ (fun n s hs => ?_) (fun n i s hi hs hk => ?_)
  · obtain ⟨x3, lk, ko, co, sz⟩ := s
    obtain ⟨q1, q2⟩ := hs
    dsimp only at q1 q2
    refine br_t (nI_le (a := 20) (by omega) (by omega)) (nm_e (mx_kinds2 ?_ ?_ q2 (fun ko' co' sz' n' z' hF => h lk ko' co' sz' n' z' hF)))
    · intro j hj
      rw [b_and]
      rcases Nat.lt_or_ge j 32 with y | y
      · rw [q1 j y, decide_eq_false (by omega)]; rfl
      · rw [b_big y]; rfl
    · intro j hj
      rw [b_and, q1 j (by omega), mr_not _ (by omega), decide_eq_true hj, Bool.true_and, me_ot, Bool.and_comm]
  · obtain ⟨x3, lk, ko, co, sz⟩ := s
    obtain ⟨q1, q2⟩ := hs
    dsimp only at q1 q2
    have nx : ∀ x : Int32, (∀ j, j < 32 → bt x j = (bt x3 j || (decide (j = i) && decide (me_t i &&& sn = 0)))) → ∀ j, j < 32 → bt x j = (decide (j < i + 1) && decide (me_t j &&& sn = 0)) := by
      intro x hx j hj
      rw [hx j hj, q1 j hj]
      by_cases y : j = i
      · subst y; simp
      · have : decide (j < i + 1) = decide (j < i) := decide_eq_decide.mpr ⟨fun h => by omega, fun h => by omega⟩
        rw [this, decide_eq_false y]; simp
    refine br_f (mx_20 hi) ⟨vp_in_nI hi (by omega), nm_r (e' := me_t i &&& sn) (by rw [nI_clamp (by omega), hA i hi]) ?_⟩
    by_cases z : me_t i &&& sn = 0
    · have he : me_ed sn i = false := by simp [me_ed, z]
      refine br_t z (nm_e (nm_r (nI_1 i) (hk (x3 ||| my_bit i, lk, ko, co, sz) ⟨nx _ (fun j hj => ?_), mk_Is q2 he⟩)))
      rw [b_or, my_bitb (by omega), z]; simp
    · refine br_f z (mx_has (by omega) (fun hb => br_f mx_10 (nm_r (nI_1 i) (hk (x3, lk, ko, co, sz) ⟨nx _ (fun j hj => ?_), mk_Is q2 ?_⟩))) (fun hb => br_t rfl ?_))
      · simp [z]
      · simp [me_ed, hb]
      · have he : me_ed sn i = true := by simp [me_ed, hb, z]
        obtain ⟨n0, z0, h1, h2, h3, h4, h5⟩ := q2
        have hn0 : n0 ≤ i := mk_In (fun t ht => (h2 t ht).2) h4
        refine mx_join h1 (by omega) h2 hi (fun lk' ko' co' sz' n' z' t' e1 e2 e3 e4 e5 e6 e7 e8 e9 e10 => nm_r (nI_1 i) (hk (x3, lk', ko', co', sz') ⟨nx _ (fun j hj => ?_), n', z', e1, e9, fun t ht => ?_, ?_, fun c hc hec => ?_⟩))
        · simp [z]
        · rcases Nat.lt_or_ge t n0 with y | y
          · dsimp only
            rw [e7 t y]; exact h3 t y
          · exact ⟨i, hi, e8 t y ht⟩
        · rw [List.range_succ, List.filter_append]
          simp only [List.filter_cons, he, if_true, List.filter_nil, List.map_append, List.map_cons, List.map_nil]
          exact e10.trans ((h4.cons _).trans (List.perm_append_comm (l₁ := [_])))
        · dsimp only
          rw [e5]
          by_cases y : c = i
          · subst y
            exact ⟨t', e3, pk_us, e6⟩
          · obtain ⟨t, t1, t2, t3⟩ := h5 c (by omega) hec
            exact ⟨t, by omega, by rw [pk_un y]; exact t2, by rw [e7 t t1]; exact t3⟩
theorem mx_kinds (hA : mr_A a_around) (hS : me_lo f_shown) {sn al : Int32} (hsn : (f_countedCell = -1 ∧ sn = f_shown) ∨ ∃ w, w < 20 ∧ f_countedCell = nI w ∧ sn = f_shown ||| my_bit w) (hal : (f_countedMines = -1 ∧ al = 0) ∨ (f_countedMines ≠ -1 ∧ al = me_b)) {post : SX → Prop}
    (h : ∀ lk ko co sz n z, mk_F sn al lk ko co sz n z → post (f_shown, f_total, f_knownMined, f_knownFree, lk, f_listed, f_count, f_numbers, f_countedCell, f_countedMines, f_counted, a_around, a_clueOf, ko, co, sz, a_clueList, a_missing, a_room, a_links, a_laterRoom, a_linkEnd, a_taken, a_most, a_countBefore, a_ways, a_minesIn)) : wpX_findKinds post (f_shown, f_total, f_knownMined, f_knownFree, f_lastKind, f_listed, f_count, f_numbers, f_countedCell, f_countedMines, f_counted, a_around, a_clueOf, a_kindOf, a_cluesOf, a_sizes, a_clueList, a_missing, a_room, a_links, a_laterRoom, a_linkEnd, a_taken, a_most, a_countBefore, a_ways, a_minesIn) := by
  have step : wX_findKinds_14 post al f_shown f_total f_knownMined f_knownFree f_lastKind f_listed f_count f_numbers f_countedCell f_countedMines f_counted a_around a_clueOf a_kindOf a_cluesOf a_sizes a_clueList a_missing a_room a_links a_laterRoom a_linkEnd a_taken a_most a_countBefore a_ways a_minesIn := by
    rcases hsn with ⟨e1, e2⟩ | ⟨w, hw, e1, e2⟩
    · subst e2
      exact br_t e1 (mx_kinds1 hA hS h)
    · subst e2
      have e : f_shown ||| ((1 : Int32) <<< (f_countedCell &&& 31)) = f_shown ||| my_bit w := by rw [e1]; rfl
      refine br_f ?_ ?_
      · rw [e1]
        intro z
        have : (nI w).toInt = (-1 : Int32).toInt := by rw [← z]
        rw [nI_toInt (by omega)] at this
        have h2 : (-1 : Int32).toInt = -1 := by decide
        omega
      · rw [e]
        exact mx_kinds1 hA (mr_orl hS (my_bitlo hw)) h
  rcases hal with ⟨e1, e2⟩ | ⟨e1, e2⟩
  · subst e2; exact br_t e1 step
  · subst e2; exact br_f e1 step
end
