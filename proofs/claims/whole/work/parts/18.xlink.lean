/-! the component's clues and links -/
def ma_L (L : List Nat) (mv rv : Nat → Int32) (ls : Int32) (cl ms rm : Nat → Int32) : Prop := ls = nI L.length ∧ (∀ i j, L[i]? = some j → cl i = nI j) ∧ (∀ j, j ∈ L → j < 21 ∧ ms j = mv j ∧ rm j = rv j)
def ma_lst (S : Int32) (w : Option Nat) (t : Bool) : List Nat := (List.range 20).filter (bt S) ++ ((match w with | none => [] | some c => [c]) ++ (if t = true then [20] else []))
theorem ma_nd {S : Int32} {w : Option Nat} {t : Bool} (hw : ∀ c, w = some c → c < 20 ∧ bt S c = false) : (ma_lst S w t).Nodup := by
  unfold ma_lst
  refine List.nodup_append.mpr ⟨List.Pairwise.filter _ List.nodup_range, ?_, ?_⟩
  · cases w with
    | none => cases t <;> simp
    | some c =>
      have := hw c rfl
      cases t <;> simp
      omega
  · intro a ha b hb e
    subst e
    simp at ha
    cases w with
    | none =>
      cases t <;> simp at hb
      omega
    | some c =>
      have h2 := hw c rfl
      cases t <;> simp at hb
      · subst hb; rw [h2.2] at ha; cases ha.2
      · rcases hb with hb | hb
        · subst hb; rw [h2.2] at ha; cases ha.2
        · omega
theorem ma_mem {S : Int32} (hS : me_lo S) {w : Option Nat} {t : Bool} {j : Nat} : j ∈ ma_lst S w t ↔ bt S j = true ∨ w = some j ∨ (t = true ∧ j = 20) := by
  unfold ma_lst
  rw [List.mem_append, List.mem_append]
  have e1 : j ∈ (List.range 20).filter (bt S) ↔ bt S j = true := by
    simp
    intro h
    rcases Nat.lt_or_ge j 20 with y | y
    · exact y
    · rw [hS j y] at h; cases h
  rw [e1]
  have e2 : j ∈ (match w with | none => [] | some c => [c] : List Nat) ↔ w = some j := by
    cases w with
    | none => simp
    | some c => simp; exact ⟨fun h => h.symm, fun h => h.symm⟩
  rw [e2]
  have e3 : j ∈ (if t = true then [20] else [] : List Nat) ↔ (t = true ∧ j = 20) := by cases t <;> simp
  rw [e3]
section
variable {f_shown f_total f_knownMined f_knownFree f_lastKind f_listed f_count f_numbers f_countedCell f_countedMines f_counted : Int32} {a_around a_clueOf a_kindOf a_cluesOf a_sizes a_clueList a_missing a_room a_links a_laterRoom a_linkEnd a_taken a_most a_countBefore a_ways a_minesIn : Nat → Int32}
theorem mx_list {L : List Nat} {mv rv : Nat → Int32} (hL : ma_L L mv rv f_listed a_clueList a_missing a_room) (hlen : L.length < 21) {j : Nat} (hj : j < 21) {p1 p2 : Int32} (h1 : p1 = mv j) (h2 : p2 = rv j) {post : SX → Prop}
    (h : ∀ ls cl ms rm, ma_L (L ++ [j]) mv rv ls cl ms rm → post (f_shown, f_total, f_knownMined, f_knownFree, f_lastKind, ls, f_count, f_numbers, f_countedCell, f_countedMines, f_counted, a_around, a_clueOf, a_kindOf, a_cluesOf, a_sizes, cl, ms, rm, a_links, a_laterRoom, a_linkEnd, a_taken, a_most, a_countBefore, a_ways, a_minesIn)) : wpX_list post (f_shown, f_total, f_knownMined, f_knownFree, f_lastKind, f_listed, f_count, f_numbers, f_countedCell, f_countedMines, f_counted, a_around, a_clueOf, a_kindOf, a_cluesOf, a_sizes, a_clueList, a_missing, a_room, a_links, a_laterRoom, a_linkEnd, a_taken, a_most, a_countBefore, a_ways, a_minesIn) (nI j) p1 p2 := by
  obtain ⟨a, b, c⟩ := hL
  have vj : vp_in (nI j) 21 := vp_in_nI hj (by omega)
  have cj : (nI j).toNatClampNeg = j := nI_clamp (by omega)
  have ca : f_listed.toNatClampNeg = L.length := by rw [a]; exact nI_clamp (by omega)
  refine ⟨by rw [a]; exact vp_in_nI hlen (by omega), nm_r (e' := upd a_clueList L.length (nI j)) (by rw [ca]) ⟨vj, nm_r (e' := upd a_missing j p1) (by rw [cj]) ⟨vj, nm_r (e' := upd a_room j p2) (by rw [cj]) (nm_r (e' := nI (L.length + 1)) (by rw [a, nI_1]) (h _ _ _ _ ⟨?_, fun i x hx => ?_, fun x hx => ?_⟩))⟩⟩⟩
  · rw [List.length_append]; rfl
  · by_cases y : i = L.length
    · subst y
      rw [List.getElem?_append_right (Nat.le_refl _)] at hx
      simp at hx
      rw [pk_us, hx]
    · rw [pk_un y]
      refine b i x ?_
      rcases Nat.lt_or_ge i L.length with w | w
      · rw [List.getElem?_append_left w] at hx; exact hx
      · rw [List.getElem?_append_right w] at hx
        have := (List.getElem?_eq_some_iff.mp hx).1
        simp at this; omega
  · by_cases y : x = j
    · subst y
      rw [pk_us, pk_us]
      exact ⟨hj, h1, h2⟩
    · rw [pk_un y, pk_un y]
      rw [List.mem_append] at hx
      rcases hx with hx | hx
      · exact c x hx
      · simp at hx; exact absurd hx y
theorem mx_clues (hS : me_lo f_shown) {mv rv : Nat → Int32} (hm1 : ∀ j, j < 20 → bt f_shown j = true → mv j = a_clueOf j ∧ rv j = 0) {w : Option Nat} (hw : (f_countedCell = -1 ∧ w = none) ∨ ∃ c, c < 20 ∧ f_countedCell = nI c ∧ w = some c ∧ bt f_shown c = false ∧ mv c = 8 ∧ rv c = 8)
    {t : Bool} (ht : (f_countedMines = -1 ∧ t = false) ∨ (f_countedMines ≠ -1 ∧ t = true ∧ mv 20 = f_countedMines ∧ rv 20 = 0)) {post : SX → Prop}
    (h : ∀ ls cl ms rm, ma_L (ma_lst f_shown w t) mv rv ls cl ms rm → post (f_shown, f_total, f_knownMined, f_knownFree, f_lastKind, ls, f_count, f_numbers, f_countedCell, f_countedMines, f_counted, a_around, a_clueOf, a_kindOf, a_cluesOf, a_sizes, cl, ms, rm, a_links, a_laterRoom, a_linkEnd, a_taken, a_most, a_countBefore, a_ways, a_minesIn)) : wpX_listClues post (f_shown, f_total, f_knownMined, f_knownFree, f_lastKind, f_listed, f_count, f_numbers, f_countedCell, f_countedMines, f_counted, a_around, a_clueOf, a_kindOf, a_cluesOf, a_sizes, a_clueList, a_missing, a_room, a_links, a_laterRoom, a_linkEnd, a_taken, a_most, a_countBefore, a_ways, a_minesIn) := by
  have fin : ∀ (L : List Nat) (ls : Int32) (cl ms rm : Nat → Int32), ma_L L mv rv ls cl ms rm → L.length < 21 → L ++ (if t = true then [20] else []) = ma_lst f_shown w t → wX_listClues_62 post f_shown f_total f_knownMined f_knownFree f_lastKind ls f_count f_numbers f_countedCell f_countedMines f_counted a_around a_clueOf a_kindOf a_cluesOf a_sizes cl ms rm a_links a_laterRoom a_linkEnd a_taken a_most a_countBefore a_ways a_minesIn := by
    intro L ls cl ms rm hL hlen he
    rcases ht with ⟨e1, e2⟩ | ⟨e1, e2, e3, e4⟩
    · subst e2
      simp at he
      rw [he] at hL
      exact br_t e1 (h _ _ _ _ hL)
    · subst e2
      rw [if_pos rfl] at he
      rw [← he] at h
      exact br_f e1 (mx_list (j := 20) hL hlen (by omega) e3.symm e4.symm h)
  refine loop_0 (σ := Int32 × (Nat → Int32) × (Nat → Int32) × (Nat → Int32)) (fun n i s => wX_listClues_7 post n (nI i) f_shown f_total f_knownMined f_knownFree f_lastKind s.1 f_count f_numbers f_countedCell f_countedMines f_counted a_around a_clueOf a_kindOf a_cluesOf a_sizes s.2.1 s.2.2.1 s.2.2.2 a_links a_laterRoom a_linkEnd a_taken a_most a_countBefore a_ways a_minesIn) (fun i s => ma_L ((List.range i).filter (bt f_shown)) mv rv s.1 s.2.1 s.2.2.1 s.2.2.2) 20 (0, a_clueList, a_missing, a_room)
    ⟨rfl, fun i j hj => by simp at hj, fun j hj => by simp at hj⟩ (fun n s hs => ?_) (fun n i s hi hs hk => ?_)
  · obtain ⟨ls, cl, ms, rm⟩ := s
    dsimp only at hs
    have len : ((List.range 20).filter (bt f_shown)).length = me_c f_shown := (mb_filter _ _).symm
    have l20 := mu_c20 f_shown
    refine br_t (nI_le (a := 20) (by omega) (by omega)) ?_
    rcases hw with ⟨e1, e2⟩ | ⟨c, hc, e1, e2, e3, e4, e5⟩
    · subst e2
      exact br_t e1 (fin _ _ _ _ _ hs (by omega) (by simp [ma_lst]))
    · subst e2
      have hne : ¬ f_countedCell = -1 := by
        rw [e1]
        intro z
        have : (nI c).toInt = (-1 : Int32).toInt := by rw [← z]
        rw [nI_toInt (by omega)] at this
        have h2 : (-1 : Int32).toInt = -1 := by decide
        omega
      have l19 : me_c f_shown + 1 ≤ 20 := by
        rw [← my_cadd hc e3]; exact mu_c20 _
      refine br_f hne ?_
      have goal : wpX_list (fun u => match u with | (f_shownq, f_totalq, f_knownMinedq, f_knownFreeq, f_lastKindq, f_listedq, f_countq, f_numbersq, f_countedCellq, f_countedMinesq, f_countedq, a_aroundq, a_clueOfq, a_kindOfq, a_cluesOfq, a_sizesq, a_clueListq, a_missingq, a_roomq, a_linksq, a_laterRoomq, a_linkEndq, a_takenq, a_mostq, a_countBeforeq, a_waysq, a_minesInq) => wX_listClues_62 post f_shownq f_totalq f_knownMinedq f_knownFreeq f_lastKindq f_listedq f_countq f_numbersq f_countedCellq f_countedMinesq f_countedq a_aroundq a_clueOfq a_kindOfq a_cluesOfq a_sizesq a_clueListq a_missingq a_roomq a_linksq a_laterRoomq a_linkEndq a_takenq a_mostq a_countBeforeq a_waysq a_minesInq) (f_shown, f_total, f_knownMined, f_knownFree, f_lastKind, ls, f_count, f_numbers, f_countedCell, f_countedMines, f_counted, a_around, a_clueOf, a_kindOf, a_cluesOf, a_sizes, cl, ms, rm, a_links, a_laterRoom, a_linkEnd, a_taken, a_most, a_countBefore, a_ways, a_minesIn) (nI c) 8 8 := by
        refine mx_list hs (by omega) (by omega) e4.symm e5.symm (fun ls' cl' ms' rm' hL' => ?_)
        refine fin _ _ _ _ _ hL' ?_ (by simp [ma_lst])
        rw [List.length_append, len]
        simp; omega
      rw [← e1] at goal
      exact goal
  · obtain ⟨ls, cl, ms, rm⟩ := s
    dsimp only at hs
    have hlen : ((List.range i).filter (bt f_shown)).length ≤ i := by
      have := List.length_filter_le (bt f_shown) (List.range i)
      simpa using this
    refine br_f (mx_20 hi) (mx_has (by omega) (fun hb => br_f mx_10 ⟨vp_in_nI hi (by omega), ?_⟩) (fun hb => br_t rfl (nm_r (nI_1 i) (hk (ls, cl, ms, rm) ?_))))
    · rw [nI_clamp (by omega)]
      obtain ⟨m1, m2⟩ := hm1 i hi hb
      refine mx_list hs (by omega) (by omega) m1.symm m2.symm (fun ls' cl' ms' rm' hL' => nm_r (nI_1 i) (hk (ls', cl', ms', rm') ?_))
      rw [List.range_succ, List.filter_append]
      simp only [List.filter_cons, hb, if_true, List.filter_nil]
      exact hL'
    · rw [List.range_succ, List.filter_append]
      simp only [List.filter_cons, hb, List.filter_nil]
      simpa using hs
end
/-! the links -/
def ma_K (lst : List Nat) (ks : List (Nat × Int32)) (m : Int32) (r0 : Nat → Nat) (k : Nat) (le : Int32) (lk lr : Nat → Int32) : Prop := le = nI (9 * k + (mf_lk lst m).length) ∧ ∀ i j, (mf_lk lst m)[i]? = some j → lk (9 * k + i) = nI j ∧ lr (9 * k + i) = nI (r0 j + mg_cap j (ks.drop (k + 1)))
theorem ma_lks {lst : List Nat} {m : Int32} {i : Nat} (hi : i < lst.length) : mf_lk (lst.take (i + 1)) m = mf_lk (lst.take i) m ++ (if bt m lst[i] = true then [lst[i]] else []) := by
  rw [mf_lk, mf_lk, List.take_succ_eq_append_getElem hi, List.filter_append]
  congr 1
  by_cases z : bt m lst[i] = true <;> simp [z]
theorem ma_lkl {lst : List Nat} {m : Int32} (i : Nat) : (mf_lk (lst.take i) m).length ≤ (mf_lk lst m).length := ((List.take_sublist i lst).filter _).length_le
theorem ma_nt {lst : List Nat} (nd : lst.Nodup) {i : Nat} (hi : i < lst.length) : lst[i] ∉ lst.take i := by
  intro h
  obtain ⟨t, ht, e⟩ := List.mem_take_iff_getElem.mp h
  have := (List.getElem_inj nd).mp e
  omega
section
variable {f_shown f_total f_knownMined f_knownFree f_lastKind f_listed f_count f_numbers f_countedCell f_countedMines f_counted : Int32} {a_around a_clueOf a_kindOf a_cluesOf a_sizes a_clueList a_missing a_room a_links a_laterRoom a_linkEnd a_taken a_most a_countBefore a_ways a_minesIn : Nat → Int32}
theorem mx_link1 {lst : List Nat} (nd : lst.Nodup) (h21 : ∀ j, j ∈ lst → j < 21) (hl : lst.length ≤ 21) (hls : f_listed = nI lst.length) (hcl : ∀ i j, lst[i]? = some j → a_clueList i = nI j) {K k : Nat} (hK : K ≤ 21) (hk : k < K) {z : Nat → Nat} (hz : a_sizes k = nI (z k)) (h9 : (mf_lk lst (a_cluesOf k)).length ≤ 9) {r0 : Nat → Nat}
    (hr : ∀ j, j ∈ lst → a_room j = nI (r0 j + mg_cap j ((mf_ks z a_cluesOf K).drop (k + 1)))) {post : SX → Prop} {J : Int32 → (Nat → Int32) → (Nat → Int32) → (Nat → Int32) → (Nat → Int32) → (Nat → Int32) → (Nat → Int32) → (Nat → Int32) → (Nat → Int32) → (Nat → Int32) → (Nat → Int32) → (Nat → Int32) → (Nat → Int32) → (Nat → Int32) → (Nat → Int32) → (Nat → Int32) → (Nat → Int32) → Prop}
    (h : ∀ rm lk lr : Nat → Int32, (∀ j, j ∈ lst → rm j = nI (r0 j + mg_cap j ((mf_ks z a_cluesOf K).drop k))) → (∀ q, 9 * (k + 1) ≤ q → lk q = a_links q ∧ lr q = a_laterRoom q) → ma_K lst (mf_ks z a_cluesOf K) (a_cluesOf k) r0 k (nI (9 * k + (mf_lk lst (a_cluesOf k)).length)) lk lr → J (nI k + (-1)) a_around a_clueOf a_kindOf a_cluesOf a_sizes a_clueList a_missing rm lk lr (upd a_linkEnd k (nI (9 * k + (mf_lk lst (a_cluesOf k)).length))) a_taken a_most a_countBefore a_ways (upd a_minesIn k 0)) :
    ∃ n, wX_linkKinds_16 post J (nI k) f_shown f_total f_knownMined f_knownFree f_lastKind f_listed f_count f_numbers f_countedCell f_countedMines f_counted n (nI (9 * k)) 0 a_around a_clueOf a_kindOf a_cluesOf a_sizes a_clueList a_missing a_room a_links a_laterRoom a_linkEnd a_taken a_most a_countBefore a_ways a_minesIn := by
  have vk : vp_in (nI k) 21 := vp_in_nI (by omega) (by omega)
  have ck : (nI k).toNatClampNeg = k := nI_clamp (by omega)
  have hd := mf_drop z a_cluesOf hk
  refine loop_0 (σ := Int32 × (Nat → Int32) × (Nat → Int32) × (Nat → Int32)) (fun n i s => wX_linkKinds_16 post J (nI k) f_shown f_total f_knownMined f_knownFree f_lastKind f_listed f_count f_numbers f_countedCell f_countedMines f_counted n s.1 (nI i) a_around a_clueOf a_kindOf a_cluesOf a_sizes a_clueList a_missing s.2.1 s.2.2.1 s.2.2.2 a_linkEnd a_taken a_most a_countBefore a_ways a_minesIn)
    (fun i s => s.1 = nI (9 * k + (mf_lk (lst.take i) (a_cluesOf k)).length) ∧ (∀ j, j ∈ lst → (j ∈ lst.take i ∧ bt (a_cluesOf k) j = true → s.2.1 j = nI (r0 j + mg_cap j ((mf_ks z a_cluesOf K).drop (k + 1)) + z k)) ∧ (¬ (j ∈ lst.take i ∧ bt (a_cluesOf k) j = true) → s.2.1 j = nI (r0 j + mg_cap j ((mf_ks z a_cluesOf K).drop (k + 1))))) ∧
      (∀ q, 9 * (k + 1) ≤ q → s.2.2.1 q = a_links q ∧ s.2.2.2 q = a_laterRoom q) ∧ (∀ t j, (mf_lk (lst.take i) (a_cluesOf k))[t]? = some j → s.2.2.1 (9 * k + t) = nI j ∧ s.2.2.2 (9 * k + t) = nI (r0 j + mg_cap j ((mf_ks z a_cluesOf K).drop (k + 1))))) lst.length (nI (9 * k), a_room, a_links, a_laterRoom)
    ⟨by simp [mf_lk], fun j hj => ⟨fun y => by simp at y, fun _ => hr j hj⟩, fun _ _ => ⟨rfl, rfl⟩, fun t j ht => by simp [mf_lk] at ht⟩ (fun n s hs => ?_) (fun n i s hi hs hk' => ?_)
  · obtain ⟨x3, rm, lk, lr⟩ := s
    obtain ⟨q1, q2, q3, q4⟩ := hs
    dsimp only at q1 q2 q3 q4
    rw [List.take_length] at q1 q2 q4
    refine br_t (by rw [hls]; exact nI_le (Nat.le_refl _) (by omega)) ⟨vk, nm_r (e' := upd a_linkEnd k (nI (9 * k + (mf_lk lst (a_cluesOf k)).length))) (by rw [ck, q1]) ⟨vk, nm_r (e' := upd a_minesIn k 0) (by rw [ck]) (nm_e (h rm lk lr (fun j hj => ?_) q3 ⟨rfl, q4⟩))⟩⟩
    rw [hd]
    simp only [mg_cap]
    by_cases y : bt (a_cluesOf k) j = true
    · rw [if_pos y, (q2 j hj).1 ⟨hj, y⟩]
      congr 1
      omega
    · rw [if_neg y, (q2 j hj).2 (fun w => y w.2)]
      congr 1
      omega
  · obtain ⟨x3, rm, lk, lr⟩ := s
    obtain ⟨q1, q2, q3, q4⟩ := hs
    dsimp only at q1 q2 q3 q4
    have hi' : lst[i]? = some lst[i] := List.getElem?_eq_getElem hi
    have hmem : lst[i] ∈ lst := List.getElem_mem hi
    have j21 := h21 _ hmem
    have nt := ma_nt nd hi
    have tk : lst.take (i + 1) = lst.take i ++ [lst[i]] := List.take_succ_eq_append_getElem hi
    have lks := ma_lks (m := a_cluesOf k) hi
    refine br_f (by rw [hls]; exact nI_ge hi (by omega)) ⟨vp_in_nI (by omega) (by omega), nm_r (e' := nI lst[i]) (by rw [nI_clamp (by omega)]; exact hcl i _ hi') ⟨vk, ?_⟩⟩
    rw [ck]
    have cj : (nI lst[i]).toNatClampNeg = lst[i] := nI_clamp (by omega)
    have vj : vp_in (nI lst[i]) 21 := vp_in_nI j21 (by omega)
    refine mx_has (by omega) (fun hb => br_f mx_10 ?_) (fun hb => br_t rfl (nm_r (nI_1 i) (hk' (x3, rm, lk, lr) ⟨?_, fun j hj => ⟨fun y => ?_, fun y => ?_⟩, q3, ?_⟩)))
    · have hb' := hb
      rw [if_pos hb] at lks
      have hle : (mf_lk (lst.take i) (a_cluesOf k)).length + 1 ≤ 9 := by
        have := ma_lkl (lst := lst) (m := a_cluesOf k) (i + 1)
        rw [lks, List.length_append] at this
        simp at this
        omega
      have vx : vp_in x3 189 := by rw [q1]; exact vp_in_nI (by omega) (by omega)
      have cx : x3.toNatClampNeg = 9 * k + (mf_lk (lst.take i) (a_cluesOf k)).length := by rw [q1]; exact nI_clamp (by omega)
      have rj : rm lst[i] = nI (r0 lst[i] + mg_cap lst[i] ((mf_ks z a_cluesOf K).drop (k + 1))) := (q2 _ hmem).2 (fun w => nt w.1)
      refine ⟨vx, nm_r (e' := upd lk (9 * k + (mf_lk (lst.take i) (a_cluesOf k)).length) (nI lst[i])) (by rw [cx]) ⟨vj, vx, nm_r (e' := upd lr (9 * k + (mf_lk (lst.take i) (a_cluesOf k)).length) (rm lst[i])) (by rw [cx, cj]) ⟨vj, vk, vj, nm_r (e' := upd rm lst[i] (nI (r0 lst[i] + mg_cap lst[i] ((mf_ks z a_cluesOf K).drop (k + 1)) + z k))) (by dsimp only; rw [cj, hz, rj, nI_add]) (nm_r (e' := nI (9 * k + (mf_lk (lst.take (i + 1)) (a_cluesOf k)).length)) ?_ (nm_r (nI_1 i) (hk' (_, upd rm lst[i] (nI (r0 lst[i] + mg_cap lst[i] ((mf_ks z a_cluesOf K).drop (k + 1)) + z k)), upd lk (9 * k + (mf_lk (lst.take i) (a_cluesOf k)).length) (nI lst[i]), upd lr (9 * k + (mf_lk (lst.take i) (a_cluesOf k)).length) (rm lst[i])) ⟨rfl, fun j hj => ⟨fun y => ?_, fun y => ?_⟩, fun q hq => ?_, fun t j ht => ?_⟩)))⟩⟩⟩
      · rw [q1, nI_1, lks, List.length_append]; rfl
      · dsimp only
        by_cases w : j = lst[i]
        · rw [w, pk_us]
        · rw [pk_un w]
          refine (q2 j hj).1 ⟨?_, y.2⟩
          have := y.1
          rw [tk, List.mem_append] at this
          rcases this with v | v
          · exact v
          · simp at v; exact absurd v w
      · dsimp only
        have w : j ≠ lst[i] := fun w => y ⟨by rw [tk, w]; exact List.mem_append_right _ (List.mem_singleton.mpr rfl), by rw [w]; exact hb'⟩
        rw [pk_un w]
        refine (q2 j hj).2 (fun v => y ⟨?_, v.2⟩)
        rw [tk]; exact List.mem_append_left _ v.1
      · dsimp only
        rw [pk_un (by omega), pk_un (by omega)]
        exact q3 q hq
      · dsimp only
        rw [lks] at ht
        by_cases w : t = (mf_lk (lst.take i) (a_cluesOf k)).length
        · subst w
          rw [List.getElem?_append_right (Nat.le_refl _)] at ht
          simp at ht
          rw [pk_us, pk_us, ht]
          rw [ht] at rj
          exact ⟨rfl, rj⟩
        · rw [pk_un (by omega), pk_un (by omega)]
          refine q4 t j ?_
          rcases Nat.lt_or_ge t (mf_lk (lst.take i) (a_cluesOf k)).length with v | v
          · rw [List.getElem?_append_left v] at ht; exact ht
          · rw [List.getElem?_append_right v] at ht
            have := (List.getElem?_eq_some_iff.mp ht).1
            simp at this; omega
    · have hb' : ¬ bt (a_cluesOf k) lst[i] = true := by rw [hb]; simp
      rw [if_neg hb', List.append_nil] at lks
      rw [lks]; exact q1
    · refine (q2 j hj).1 ⟨?_, y.2⟩
      have := y.1
      rw [tk, List.mem_append] at this
      rcases this with v | v
      · exact v
      · simp at v
        rw [v, hb] at y
        exact absurd y.2 (by simp)
    · refine (q2 j hj).2 (fun v => y ⟨?_, v.2⟩)
      rw [tk]; exact List.mem_append_left _ v.1
    · have hb' : ¬ bt (a_cluesOf k) lst[i] = true := by rw [hb]; simp
      rw [if_neg hb', List.append_nil] at lks
      dsimp only
      rw [lks]; exact q4
theorem mx_link {lst : List Nat} (nd : lst.Nodup) (h21 : ∀ j, j ∈ lst → j < 21) (hl : lst.length ≤ 21) (hls : f_listed = nI lst.length) (hcl : ∀ i j, lst[i]? = some j → a_clueList i = nI j) {K : Nat} (hK : K ≤ 21) {z : Nat → Nat} (hz : ∀ k, k < K → a_sizes k = nI (z k)) (h9 : ∀ k, k < K → (mf_lk lst (a_cluesOf k)).length ≤ 9) {r0 : Nat → Nat}
    (hr : ∀ j, j ∈ lst → a_room j = nI (r0 j)) {post : SX → Prop}
    (h : ∀ rm lk lr le mi : Nat → Int32, (∀ j, j ∈ lst → rm j = nI (r0 j + mg_cap j (mf_ks z a_cluesOf K))) → (∀ k, k < K → mi k = 0 ∧ ma_K lst (mf_ks z a_cluesOf K) (a_cluesOf k) r0 k (le k) lk lr) → post (f_shown, f_total, f_knownMined, f_knownFree, f_lastKind, f_listed, f_count, f_numbers, f_countedCell, f_countedMines, f_counted, a_around, a_clueOf, a_kindOf, a_cluesOf, a_sizes, a_clueList, a_missing, rm, lk, lr, le, a_taken, a_most, a_countBefore, a_ways, mi)) :
    wpX_linkKinds post (f_shown, f_total, f_knownMined, f_knownFree, f_lastKind, f_listed, f_count, f_numbers, f_countedCell, f_countedMines, f_counted, a_around, a_clueOf, a_kindOf, a_cluesOf, a_sizes, a_clueList, a_missing, a_room, a_links, a_laterRoom, a_linkEnd, a_taken, a_most, a_countBefore, a_ways, a_minesIn) (nI K) := by
  have key := pk_loopD (σ := (Nat → Int32) × (Nat → Int32) × (Nat → Int32) × (Nat → Int32) × (Nat → Int32)) (fun n i s => i ≤ K → wX_linkKinds_4 post f_shown f_total f_knownMined f_knownFree f_lastKind f_listed f_count f_numbers f_countedCell f_countedMines f_counted n (nI i + (-1)) a_around a_clueOf a_kindOf a_cluesOf a_sizes a_clueList a_missing s.1 s.2.1 s.2.2.1 s.2.2.2.1 a_taken a_most a_countBefore a_ways s.2.2.2.2)
    (fun i s => i ≤ K → (∀ j, j ∈ lst → s.1 j = nI (r0 j + mg_cap j ((mf_ks z a_cluesOf K).drop i))) ∧ (∀ k, i ≤ k → k < K → s.2.2.2.2 k = 0 ∧ ma_K lst (mf_ks z a_cluesOf K) (a_cluesOf k) r0 k (s.2.2.2.1 k) s.2.1 s.2.2.1)) (fun n s hs hi => ?_) (fun n i s hs hk hi => ?_) K (a_room, a_links, a_laterRoom, a_linkEnd, a_minesIn) (fun _ => ⟨fun j hj => ?_, fun k h1 h2 => by omega⟩) (Nat.le_refl K)
  · refine nm_r (e' := nI K + (-1)) (by rw [Int32.sub_eq_add_neg]) ⟨K + 1, key⟩
  · obtain ⟨a, b⟩ := hs hi
    refine br_t (by rw [nI_0]; decide) (h _ _ _ _ _ a (fun k hk => b k (Nat.zero_le _) hk))
  · obtain ⟨rm, lk, lr, le, mi⟩ := s
    obtain ⟨a, b⟩ := hs hi
    dsimp only at a b
    rw [pk_m1]
    refine br_f (nI_pos (by omega)) (nm_r (e' := nI (9 * i)) (by rw [show (9 : Int32) = nI 9 from rfl, pk_mul, Nat.mul_comm]) ?_)
    refine mx_link1 nd h21 hl hls hcl hK (k := i) (by omega) (hz i (by omega)) (h9 i (by omega)) a (fun rm' lk' lr' g1 g2 g3 => hk (rm', lk', lr', upd le i (nI (9 * i + (mf_lk lst (a_cluesOf i)).length)), upd mi i 0) (fun _ => ⟨g1, fun k h1 h2 => ?_⟩) (by omega))
    dsimp only
    by_cases y : k = i
    · subst y
      rw [pk_us, pk_us]
      exact ⟨rfl, g3⟩
    · rw [pk_un y, pk_un y]
      obtain ⟨c1, c2, c3⟩ := b k (by omega) h2
      refine ⟨c1, c2, fun t j ht => ?_⟩
      obtain ⟨d1, d2⟩ := g2 (9 * k + t) (by omega)
      rw [d1, d2]
      exact c3 t j ht
  · dsimp only
    rw [mf_dropn]
    exact hr j hj
theorem mx_room {lst : List Nat} (h21 : ∀ j, j ∈ lst → j < 21) (hl : lst.length ≤ 21) (hls : f_listed = nI lst.length) (hcl : ∀ i j, lst[i]? = some j → a_clueList i = nI j) {mv rv : Nat → Nat} (hm : ∀ j, j ∈ lst → a_missing j = nI (mv j) ∧ a_room j = nI (rv j) ∧ mv j < 1000 ∧ rv j < 1000) {post : Int32 → Prop}
    (h1 : (∀ j, j ∈ lst → mv j ≤ rv j) → post 1) (h0 : (∃ j, j ∈ lst ∧ rv j < mv j) → post 0) : wpX_cluesHaveRoom post (f_shown, f_total, f_knownMined, f_knownFree, f_lastKind, f_listed, f_count, f_numbers, f_countedCell, f_countedMines, f_counted, a_around, a_clueOf, a_kindOf, a_cluesOf, a_sizes, a_clueList, a_missing, a_room, a_links, a_laterRoom, a_linkEnd, a_taken, a_most, a_countBefore, a_ways, a_minesIn) := by
  refine loop_0 (σ := Unit) (fun n i _ => wX_cluesHaveRoom_2 post f_shown f_total f_knownMined f_knownFree f_lastKind f_listed f_count f_numbers f_countedCell f_countedMines f_counted a_around a_clueOf a_kindOf a_cluesOf a_sizes a_clueList a_missing a_room a_links a_laterRoom a_linkEnd a_taken a_most a_countBefore a_ways a_minesIn n (nI i)) (fun i _ => ∀ t j, t < i → lst[t]? = some j → mv j ≤ rv j) lst.length () (fun t j ht => by omega) (fun n s hs => ?_) (fun n i s hi hs hk => ?_)
  · refine br_t (by rw [hls]; exact nI_le (Nat.le_refl _) (by omega)) (h1 (fun j hj => ?_))
    obtain ⟨t, ht⟩ := List.mem_iff_getElem?.mp hj
    exact hs t j (List.getElem?_eq_some_iff.mp ht).1 ht
  · have hi' : lst[i]? = some lst[i] := List.getElem?_eq_getElem hi
    have hmem : lst[i] ∈ lst := List.getElem_mem hi
    have j21 := h21 _ hmem
    have vj : vp_in (nI lst[i]) 21 := vp_in_nI j21 (by omega)
    obtain ⟨m1, m2, m3, m4⟩ := hm _ hmem
    refine br_f (by rw [hls]; exact nI_ge hi (by omega)) ⟨vp_in_nI (by omega) (by omega), nm_r (e' := nI lst[i]) (by rw [nI_clamp (by omega)]; exact hcl i _ hi') ⟨vj, vj, ?_⟩⟩
    rw [nI_clamp (by omega), m1, m2]
    refine pk_le (mv lst[i]) (rv lst[i]) (fun y => nm_r (nI_1 i) (hk () (fun t j ht he => ?_))) (fun y => h0 ⟨_, hmem, y⟩)
    by_cases w : t = i
    · subst w
      rw [hi'] at he
      cases he
      exact y
    · exact hs t j (by omega) he
end
