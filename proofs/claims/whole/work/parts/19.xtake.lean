/-! the component's search: one kind -/
theorem mq_capd (j : Nat) : ∀ (ks : List (Nat × Int32)) (k : Nat), mg_cap j (ks.drop k) ≤ mg_cap j ks
  | [], k => by simp
  | a :: ks, 0 => by simp
  | a :: ks, k + 1 => by
    have := mq_capd j ks k
    rw [List.drop_succ_cons, mg_cap]; omega
def mq_St (lst : List Nat) (K : Nat) (z : Nat → Nat) (co sz lk lr le : Nat → Int32) (r0 : Nat → Nat) : Prop :=
  lst.Nodup ∧ (∀ j, j ∈ lst → j < 21) ∧ K ≤ 21 ∧ (∀ j, j ∈ lst → r0 j ≤ 8) ∧ (∀ j, mg_cap j (mf_ks z co K) ≤ 40) ∧ (∀ k, k < K → sz k = nI (z k) ∧ z k ≤ 20 ∧ (mf_lk lst (co k)).length ≤ 9 ∧ ma_K lst (mf_ks z co K) (co k) r0 k (le k) lk lr)
def mq_M (lst : List Nat) (ms : Nat → Int32) (w : Nat → Int) : Prop := ∀ j, j ∈ lst → 0 ≤ w j ∧ ms j = nI (w j).toNat
def mq_r (r0 : Nat → Nat) : Nat → Int := fun j => (r0 j : Int)
/-- x is taken from the clues of m -/
def mq_D (lst : List Nat) (m x : Int32) (ms ms' : Nat → Int32) : Prop := ∀ j, j ∈ lst → (bt m j = true → ms' j = ms j - x) ∧ (bt m j = false → ms' j = ms j)
theorem mq_nt {l : List Nat} (nd : l.Nodup) {i : Nat} (hi : i < l.length) : l[i] ∉ l.take i := ma_nt nd hi
theorem mq_lknd {lst : List Nat} (nd : lst.Nodup) (m : Int32) : (mf_lk lst m).Nodup := List.Pairwise.filter _ nd
section
variable {f_shown f_total f_knownMined f_knownFree f_lastKind f_listed f_count f_numbers f_countedCell f_countedMines f_counted : Int32} {a_around a_clueOf a_kindOf a_cluesOf a_sizes a_clueList a_missing a_room a_links a_laterRoom a_linkEnd a_taken a_most a_countBefore a_ways a_minesIn : Nat → Int32}
variable {lst : List Nat} {K : Nat} {z : Nat → Nat} {r0 : Nat → Nat}
theorem mq_take (hSt : mq_St lst K z a_cluesOf a_sizes a_links a_laterRoom a_linkEnd r0) {k : Nat} (hk : k < K) {x : Int32} {post : SX → Prop}
    (h : ∀ ms, mq_D lst (a_cluesOf k) x a_missing ms → post (f_shown, f_total, f_knownMined, f_knownFree, f_lastKind, f_listed, f_count, f_numbers, f_countedCell, f_countedMines, f_counted, a_around, a_clueOf, a_kindOf, a_cluesOf, a_sizes, a_clueList, ms, a_room, a_links, a_laterRoom, a_linkEnd, upd a_taken k (a_taken k + x), a_most, upd a_countBefore k f_count, a_ways, a_minesIn)) : wpX_take post (f_shown, f_total, f_knownMined, f_knownFree, f_lastKind, f_listed, f_count, f_numbers, f_countedCell, f_countedMines, f_counted, a_around, a_clueOf, a_kindOf, a_cluesOf, a_sizes, a_clueList, a_missing, a_room, a_links, a_laterRoom, a_linkEnd, a_taken, a_most, a_countBefore, a_ways, a_minesIn) (nI k) x := by
  obtain ⟨nd, h21, hK, hr8, hc40, hkk⟩ := hSt
  obtain ⟨hs, hz, hl9, hle, hlk⟩ := hkk k hk
  have vk : vp_in (nI k) 21 := vp_in_nI (by omega) (by omega)
  have ck : (nI k).toNatClampNeg = k := nI_clamp (by omega)
  refine ⟨vk, vk, nm_r (e' := upd a_taken k (a_taken k + x)) (by rw [ck]) (nm_r (e' := nI (9 * k)) (by rw [show (9 : Int32) = nI 9 from rfl, pk_mul, Nat.mul_comm]) ?_)⟩
  refine loop_0 (σ := Nat → Int32) (fun n i ms => wX_take_15 post (nI k) x f_shown f_total f_knownMined f_knownFree f_lastKind f_listed f_count f_numbers f_countedCell f_countedMines f_counted n (nI (9 * k + i)) a_around a_clueOf a_kindOf a_cluesOf a_sizes a_clueList ms a_room a_links a_laterRoom a_linkEnd (upd a_taken k (a_taken k + x)) a_most a_countBefore a_ways a_minesIn) (fun i ms => ∀ j, j ∈ lst → (j ∈ (mf_lk lst (a_cluesOf k)).take i → ms j = a_missing j - x) ∧ (j ∉ (mf_lk lst (a_cluesOf k)).take i → ms j = a_missing j)) (mf_lk lst (a_cluesOf k)).length a_missing (fun j _ => ⟨fun y => by simp at y, fun _ => rfl⟩) (fun n ms hms => ?_) (fun n i ms hi hms hk' => ?_)
  · refine ⟨vk, br_t (by rw [ck, hle]; exact nI_le (Nat.le_refl _) (by omega)) ⟨vk, nm_r (e' := upd a_countBefore k f_count) (by rw [ck]) (h ms (fun j hj => ⟨fun hb => ?_, fun hb => ?_⟩))⟩⟩
    · rw [List.take_length] at hms
      exact (hms j hj).1 (mf_lk_mem.mpr ⟨hj, hb⟩)
    · rw [List.take_length] at hms
      exact (hms j hj).2 (fun y => by have := (mf_lk_mem.mp y).2; rw [hb] at this; cases this)
  · have hi' : (mf_lk lst (a_cluesOf k))[i]? = some (mf_lk lst (a_cluesOf k))[i] := List.getElem?_eq_getElem hi
    have hmem : (mf_lk lst (a_cluesOf k))[i] ∈ lst := (mf_lk_mem.mp (List.getElem_mem hi)).1
    have j21 := h21 _ hmem
    have nt := mq_nt (mq_lknd nd (a_cluesOf k)) hi
    have tk : (mf_lk lst (a_cluesOf k)).take (i + 1) = (mf_lk lst (a_cluesOf k)).take i ++ [(mf_lk lst (a_cluesOf k))[i]] := List.take_succ_eq_append_getElem hi
    have el : a_links (nI (9 * k + i)).toNatClampNeg = nI (mf_lk lst (a_cluesOf k))[i] := by rw [nI_clamp (by omega)]; exact (hlk i _ hi').1
    have vj : vp_in (nI (mf_lk lst (a_cluesOf k))[i]) 21 := vp_in_nI j21 (by omega)
    have cj : (nI (mf_lk lst (a_cluesOf k))[i]).toNatClampNeg = (mf_lk lst (a_cluesOf k))[i] := nI_clamp (by omega)
    refine ⟨vk, br_f (by rw [ck, hle]; exact nI_ge (by omega) (by omega)) ⟨vp_in_nI (by omega) (by omega), ?_⟩⟩
    rw [el]
    refine ⟨vj, vj, nm_r (e' := upd ms (mf_lk lst (a_cluesOf k))[i] (ms (mf_lk lst (a_cluesOf k))[i] - x)) (by rw [cj]) (nm_r (e' := nI (9 * k + (i + 1))) (nI_1 _) (hk' (upd ms (mf_lk lst (a_cluesOf k))[i] (ms (mf_lk lst (a_cluesOf k))[i] - x)) (fun j hj => ⟨fun y => ?_, fun y => ?_⟩)))⟩
    · by_cases w : j = (mf_lk lst (a_cluesOf k))[i]
      · rw [w, pk_us, (hms _ hmem).2 nt]
      · rw [pk_un w]
        rw [tk, List.mem_append] at y
        rcases y with y | y
        · exact (hms j hj).1 y
        · exact absurd (List.mem_singleton.mp y) w
    · have w : j ≠ (mf_lk lst (a_cluesOf k))[i] := fun w => y (by rw [tk, w]; exact List.mem_append_right _ (List.mem_singleton.mpr rfl))
      rw [pk_un w]
      exact (hms j hj).2 (fun v => y (by rw [tk]; exact List.mem_append_left _ v))
theorem mq_few (hSt : mq_St lst K z a_cluesOf a_sizes a_links a_laterRoom a_linkEnd r0) {k : Nat} (hk : k < K) {w : Nat → Int} (hM : mq_M lst a_missing w) (hw : ∀ j, j ∈ lst → w j ≤ 100) {post : Int32 → SX → Prop}
    (h1 : ∀ f g ms, f ≤ g → g ≤ z k → (∀ t, ms_can (mf_lk lst (a_cluesOf k)) (z k) (a_cluesOf k) (mq_r r0) ((mf_ks z a_cluesOf K).drop (k + 1)) w t ↔ f ≤ t ∧ t ≤ g) → mq_D lst (a_cluesOf k) (nI f) a_missing ms → post 1 (f_shown, f_total, f_knownMined, f_knownFree, f_lastKind, f_listed, f_count, f_numbers, f_countedCell, f_countedMines, f_counted, a_around, a_clueOf, a_kindOf, a_cluesOf, a_sizes, a_clueList, ms, a_room, a_links, a_laterRoom, a_linkEnd, upd (upd a_taken k 0) k (nI f), upd a_most k (nI g), upd a_countBefore k f_count, a_ways, a_minesIn))
    (h0 : (∀ t, ¬ ms_can (mf_lk lst (a_cluesOf k)) (z k) (a_cluesOf k) (mq_r r0) ((mf_ks z a_cluesOf K).drop (k + 1)) w t) → post 0 (f_shown, f_total, f_knownMined, f_knownFree, f_lastKind, f_listed, f_count, f_numbers, f_countedCell, f_countedMines, f_counted, a_around, a_clueOf, a_kindOf, a_cluesOf, a_sizes, a_clueList, a_missing, a_room, a_links, a_laterRoom, a_linkEnd, a_taken, a_most, a_countBefore, a_ways, a_minesIn)) : wpX_takeFewest post (f_shown, f_total, f_knownMined, f_knownFree, f_lastKind, f_listed, f_count, f_numbers, f_countedCell, f_countedMines, f_counted, a_around, a_clueOf, a_kindOf, a_cluesOf, a_sizes, a_clueList, a_missing, a_room, a_links, a_laterRoom, a_linkEnd, a_taken, a_most, a_countBefore, a_ways, a_minesIn) (nI k) := by
  have hSt' := hSt
  obtain ⟨nd, h21, hK, hr8, hc40, hkk⟩ := hSt
  obtain ⟨hs, hz, hl9, hle, hlk⟩ := hkk k hk
  have vk : vp_in (nI k) 21 := vp_in_nI (by omega) (by omega)
  have ck : (nI k).toNatClampNeg = k := nI_clamp (by omega)
  refine ⟨vk, nm_r (e' := nI (z k)) (by rw [ck]; exact hs) (nm_r (e' := nI (9 * k)) (by rw [show (9 : Int32) = nI 9 from rfl, pk_mul, Nat.mul_comm]) ?_)⟩
  refine loop_0 (σ := Int32 × Int32) (fun n i s => wX_takeFewest_15 post (nI k) f_shown f_total f_knownMined f_knownFree f_lastKind f_listed f_count f_numbers f_countedCell f_countedMines f_counted a_around a_clueOf a_kindOf a_cluesOf a_sizes a_clueList a_missing a_room a_links a_laterRoom a_linkEnd a_taken a_most a_countBefore a_ways a_minesIn n s.1 s.2 (nI (9 * k + i)))
    (fun i s => ∃ f g : Nat, s.1 = nI f ∧ s.2 = nI g ∧ f ≤ 100 ∧ g ≤ z k ∧ (∀ t : Nat, t ≤ g ↔ t ≤ z k ∧ ∀ j, j ∈ (mf_lk lst (a_cluesOf k)).take i → (t : Int) ≤ w j) ∧ (∀ t : Nat, f ≤ t ↔ ∀ j, j ∈ (mf_lk lst (a_cluesOf k)).take i → w j ≤ (t : Int) + (mq_r r0 j + (mg_cap j ((mf_ks z a_cluesOf K).drop (k + 1)) : Int))))
    (mf_lk lst (a_cluesOf k)).length (0, nI (z k)) ⟨0, z k, rfl, rfl, by omega, Nat.le_refl _, fun t => by simp, fun t => by simp⟩ (fun n s hs' => ?_) (fun n i s hi hs' hk' => ?_)
  · obtain ⟨x2, x3⟩ := s
    obtain ⟨f, g, e1, e2, hf, hg, c1, c2⟩ := hs'
    dsimp only at e1 e2
    subst e1 e2
    rw [List.take_length] at c1 c2
    have can : ∀ t, ms_can (mf_lk lst (a_cluesOf k)) (z k) (a_cluesOf k) (mq_r r0) ((mf_ks z a_cluesOf K).drop (k + 1)) w t ↔ f ≤ t ∧ t ≤ g := by
      intro t
      rw [c1 t, c2 t]
      constructor
      · rintro ⟨a, b⟩
        exact ⟨fun j hj => (b j hj).2, a, fun j hj => (b j hj).1⟩
      · rintro ⟨a, b, c⟩
        exact ⟨b, fun j hj => ⟨c j hj, a j hj⟩⟩
    refine ⟨vk, br_t (by rw [ck, hle]; exact nI_le (Nat.le_refl _) (by omega)) ?_⟩
    refine pk_le f g (fun hfg => ⟨vk, nm_r (e' := upd a_taken k 0) (by rw [ck]) ⟨vk, nm_r (e' := upd a_most k (nI g)) (by rw [ck]) (mq_take hSt' hk (fun ms hD => ?_))⟩⟩) (fun hfg => h0 (fun t ht => ?_))
    · have := h1 f g ms hfg hg can hD
      rw [pk_us, Int32.zero_add]
      exact this
    · have := (can t).mp ht
      omega
  · obtain ⟨x2, x3⟩ := s
    obtain ⟨f, g, e1, e2, hf, hg, c1, c2⟩ := hs'
    dsimp only at e1 e2
    subst e1 e2
    have hi' : (mf_lk lst (a_cluesOf k))[i]? = some (mf_lk lst (a_cluesOf k))[i] := List.getElem?_eq_getElem hi
    have hmem : (mf_lk lst (a_cluesOf k))[i] ∈ lst := (mf_lk_mem.mp (List.getElem_mem hi)).1
    have tk : (mf_lk lst (a_cluesOf k)).take (i + 1) = (mf_lk lst (a_cluesOf k)).take i ++ [(mf_lk lst (a_cluesOf k))[i]] := List.take_succ_eq_append_getElem hi
    obtain ⟨el1, el2⟩ := hlk i _ hi'
    rw [tk] at hk'
    generalize (mf_lk lst (a_cluesOf k))[i] = j0 at *
    have j21 := h21 _ hmem
    have hcap : mg_cap j0 ((mf_ks z a_cluesOf K).drop (k + 1)) ≤ 40 := Nat.le_trans (mq_capd j0 _ _) (hc40 j0)
    have hr := hr8 _ hmem
    obtain ⟨w0, wm⟩ := hM _ hmem
    have w100 := hw _ hmem
    obtain ⟨a, ha⟩ : ∃ a : Nat, w j0 = (a : Int) := ⟨(w j0).toNat, by omega⟩
    rw [ha, Int.toNat_natCast] at wm
    have c9 : (nI (9 * k + i)).toNatClampNeg = 9 * k + i := nI_clamp (by omega)
    have v9 : vp_in (nI (9 * k + i)) 189 := vp_in_nI (by omega) (by omega)
    have vj : vp_in (nI j0) 21 := vp_in_nI j21 (by omega)
    have cj : (nI j0).toNatClampNeg = j0 := nI_clamp (by omega)
    generalize hb : mg_cap j0 ((mf_ks z a_cluesOf K).drop (k + 1)) = cp at *
    have step : ∀ g' : Nat, g' ≤ z k → (∀ t : Nat, t ≤ g' ↔ t ≤ g ∧ t ≤ a) → wX_takeFewest_49 post (wX_takeFewest_15 post (nI k) f_shown f_total f_knownMined f_knownFree f_lastKind f_listed f_count f_numbers f_countedCell f_countedMines f_counted a_around a_clueOf a_kindOf a_cluesOf a_sizes a_clueList a_missing a_room a_links a_laterRoom a_linkEnd a_taken a_most a_countBefore a_ways a_minesIn n) (nI k) (nI f) (nI g') (nI (9 * k + i)) (nI a) f_shown f_total f_knownMined f_knownFree f_lastKind f_listed f_count f_numbers f_countedCell f_countedMines f_counted a_around a_clueOf a_kindOf a_cluesOf a_sizes a_clueList a_missing a_room a_links a_laterRoom a_linkEnd a_taken a_most a_countBefore a_ways a_minesIn := by
      intro g' hg' cg
      have cg2 : ∀ t : Nat, t ≤ g' ↔ t ≤ z k ∧ ∀ j, j ∈ (mf_lk lst (a_cluesOf k)).take i ++ [j0] → (t : Int) ≤ w j := by
        intro t
        rw [cg t, c1 t]
        constructor
        · rintro ⟨⟨p, q⟩, r⟩
          refine ⟨p, fun j hj => ?_⟩
          rcases List.mem_append.mp hj with y | y
          · exact q j y
          · rw [List.mem_singleton.mp y, ha]; omega
        · rintro ⟨p, q⟩
          refine ⟨⟨p, fun j hj => q j (List.mem_append_left _ hj)⟩, ?_⟩
          have := q j0 (List.mem_append_right _ (List.mem_singleton.mpr rfl))
          rw [ha] at this; omega
      refine ⟨v9, ?_⟩
      rw [c9, el2]
      have ti : (nI a - nI (r0 j0 + cp)).toInt = (a : Int) - ((r0 j0 + cp : Nat) : Int) := pk_sub_toInt (by omega) (by omega)
      have fi : (nI f).toInt = (f : Int) := nI_toInt (by omega)
      by_cases y : nI a - nI (r0 j0 + cp) ≤ nI f
      · have y' := Int32.le_iff_toInt_le.mp y
        rw [ti, fi] at y'
        refine br_t y (nm_r (e' := nI (9 * k + (i + 1))) (nI_1 _) (hk' (nI f, nI g') ⟨f, g', rfl, rfl, hf, hg', cg2, fun t => ?_⟩))
        rw [c2 t]
        constructor
        · intro p j hj
          rcases List.mem_append.mp hj with q | q
          · exact p j q
          · rw [List.mem_singleton.mp q, ha, hb]
            have := (c2 t).mpr p
            simp only [mq_r]
            omega
        · intro p j hj
          exact p j (List.mem_append_left _ hj)
      · have y' : ¬ (nI a - nI (r0 j0 + cp)).toInt ≤ (nI f).toInt := fun q => y (Int32.le_iff_toInt_le.mpr q)
        rw [ti, fi] at y'
        refine br_f y ⟨v9, nm_r (e' := nI (a - (r0 j0 + cp))) (pk_sub (by omega)) (nm_r (e' := nI (9 * k + (i + 1))) (nI_1 _) (hk' (nI (a - (r0 j0 + cp)), nI g') ⟨a - (r0 j0 + cp), g', rfl, rfl, by omega, hg', cg2, fun t => ?_⟩))⟩
        constructor
        · intro p j hj
          rcases List.mem_append.mp hj with q | q
          · exact (c2 t).mp (by omega) j q
          · rw [List.mem_singleton.mp q, ha, hb]
            simp only [mq_r]
            omega
        · intro p
          have := p j0 (List.mem_append_right _ (List.mem_singleton.mpr rfl))
          rw [ha, hb] at this
          simp only [mq_r] at this
          omega
    refine ⟨vk, br_f (by rw [ck, hle]; exact nI_ge (by omega) (by omega)) ⟨v9, ?_⟩⟩
    rw [c9, el1]
    refine ⟨vj, nm_r (e' := nI a) (by rw [cj]; exact wm) ?_⟩
    exact pk_le g a (fun y => step g hg (fun t => ⟨fun p => ⟨p, by omega⟩, fun p => p.1⟩)) (fun y => step a (by omega) (fun t => ⟨fun p => ⟨by omega, p⟩, fun p => p.2⟩))
theorem mq_more (hSt : mq_St lst K z a_cluesOf a_sizes a_links a_laterRoom a_linkEnd r0) {k : Nat} (hk : k < K) {t g : Nat} (ht : a_taken k = nI t) (hg : a_most k = nI g) (htg : t ≤ g) (hgz : g ≤ 20) {post : Int32 → SX → Prop}
    (h1 : t < g → ∀ ms, mq_D lst (a_cluesOf k) 1 a_missing ms → post 1 (f_shown, f_total, f_knownMined, f_knownFree, f_lastKind, f_listed, f_count, f_numbers, f_countedCell, f_countedMines, f_counted, a_around, a_clueOf, a_kindOf, a_cluesOf, a_sizes, a_clueList, ms, a_room, a_links, a_laterRoom, a_linkEnd, upd a_taken k (nI (t + 1)), a_most, upd a_countBefore k f_count, a_ways, upd a_minesIn k (a_minesIn k + (f_count - a_countBefore k) * nI t)))
    (h0 : t = g → ∀ ms, mq_D lst (a_cluesOf k) (-nI t) a_missing ms → post 0 (f_shown, f_total, f_knownMined, f_knownFree, f_lastKind, f_listed, f_count, f_numbers, f_countedCell, f_countedMines, f_counted, a_around, a_clueOf, a_kindOf, a_cluesOf, a_sizes, a_clueList, ms, a_room, a_links, a_laterRoom, a_linkEnd, upd a_taken k (nI t + -nI t), a_most, upd a_countBefore k f_count, a_ways, upd a_minesIn k (a_minesIn k + (f_count - a_countBefore k) * nI t))) : wpX_takeOneMore post (f_shown, f_total, f_knownMined, f_knownFree, f_lastKind, f_listed, f_count, f_numbers, f_countedCell, f_countedMines, f_counted, a_around, a_clueOf, a_kindOf, a_cluesOf, a_sizes, a_clueList, a_missing, a_room, a_links, a_laterRoom, a_linkEnd, a_taken, a_most, a_countBefore, a_ways, a_minesIn) (nI k) := by
  have hSt' := hSt
  obtain ⟨nd, h21, hK, hr8, hc40, hkk⟩ := hSt
  have vk : vp_in (nI k) 21 := vp_in_nI (by omega) (by omega)
  have ck : (nI k).toNatClampNeg = k := nI_clamp (by omega)
  refine ⟨vk, vk, vk, vk, nm_r (e' := upd a_minesIn k (a_minesIn k + (f_count - a_countBefore k) * nI t)) (by rw [ck, ht]) ⟨vk, vk, ?_⟩⟩
  rw [ck, ht, hg]
  refine pk_le g t (fun y => br_t rfl ⟨vk, ?_⟩) (fun y => br_f mx_10 ?_)
  · rw [ck, ht]
    refine mq_take hSt' hk (fun ms hD => ⟨rfl, ?_⟩)
    rw [ht]
    exact h0 (by omega) ms hD
  · refine mq_take hSt' hk (fun ms hD => ⟨rfl, ?_⟩)
    rw [ht, nI_1]
    exact h1 y ms hD
theorem mq_note {post : SX → Prop} (hK : K ≤ 21) (wt : Option Nat) (hw : (f_countedCell = -1 ∧ wt = none) ∨ ∃ c m, c < 20 ∧ m ≤ 8 ∧ f_countedCell = nI c ∧ wt = some c ∧ a_missing c = nI m)
    (h : ∀ nb, (∀ c m, wt = some c → a_missing c = nI m → m ≤ 8 → ∀ b, b < 32 → bt nb b = (bt f_numbers b || decide (b = 8 - m))) → post (f_shown, f_total, f_knownMined, f_knownFree, f_lastKind, f_listed, f_count + a_ways K, nb, f_countedCell, f_countedMines, f_counted, a_around, a_clueOf, a_kindOf, a_cluesOf, a_sizes, a_clueList, a_missing, a_room, a_links, a_laterRoom, a_linkEnd, a_taken, a_most, a_countBefore, a_ways, a_minesIn)) : wpX_noteLayouts post (f_shown, f_total, f_knownMined, f_knownFree, f_lastKind, f_listed, f_count, f_numbers, f_countedCell, f_countedMines, f_counted, a_around, a_clueOf, a_kindOf, a_cluesOf, a_sizes, a_clueList, a_missing, a_room, a_links, a_laterRoom, a_linkEnd, a_taken, a_most, a_countBefore, a_ways, a_minesIn) (nI K) := by
  refine ⟨vp_in_nI (by omega) (by omega), nm_r (e' := f_count + a_ways K) (by rw [nI_clamp (by omega)]) ?_⟩
  rcases hw with ⟨e1, e2⟩ | ⟨c, m, hc, hm, e1, e2, e3⟩
  · refine br_t e1 (h f_numbers (fun c m hcm => ?_))
    rw [e2] at hcm; cases hcm
  · have hne : ¬ f_countedCell = -1 := by
      rw [e1]
      intro y
      have : (nI c).toInt = (-1 : Int32).toInt := by rw [← y]
      rw [nI_toInt (by omega)] at this
      have h2 : (-1 : Int32).toInt = -1 := by decide
      omega
    refine br_f hne ⟨by rw [e1]; exact vp_in_nI (by omega) (by omega), nm_r (e' := f_numbers ||| my_bit (8 - m)) ?_ (h _ (fun c' m' hc' hm' hm8 b hb => ?_))⟩
    · rw [e1, nI_clamp (by omega), e3, show (8 : Int32) = nI 8 from rfl, pk_sub hm]; rfl
    · rw [e2] at hc'
      cases hc'
      rw [e3] at hm'
      have := (nI_eq (by omega) (by omega)).mp hm'
      subst this
      rw [b_or, my_bitb (by omega)]
end
