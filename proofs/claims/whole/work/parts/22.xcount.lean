/-! the component's count -/
theorem mp_cnt (t : Nat → Bool) (N : Nat) : ∀ (l : List Nat), l.Nodup → (∀ e, e ∈ l → e < N) → mb_cn (fun j => t j && decide (j ∈ l)) N = l.countP t
  | [], _, _ => by
    rw [mb_of0 (fun i _ => by simp)]
    rfl
  | e :: l, nd, h => by
    rw [List.nodup_cons] at nd
    have ih := mp_cnt t N l nd.2 (fun x hx => h x (by simp [hx]))
    rw [List.countP_cons, ← ih]
    by_cases z : t e = true
    · rw [if_pos z]
      refine mb_one (a := e) ?_ ?_ (h e (by simp)) (fun i _ hn => ?_)
      · simp [nd.1]
      · simp [z]
      · simp [hn]
    · rw [if_neg z, Nat.add_zero]
      refine mb_eq (fun i _ => ?_)
      by_cases y : i = e
      · subst y
        have : t i = false := by simpa using z
        simp [this]
      · simp [y]
theorem mp_len (t : Nat → Bool) {N : Nat} {l : List Nat} (nd : l.Nodup) (h : ∀ e, e ∈ l → e < N) : (l.filter t).length ≤ mb_cn t N := by
  rw [← List.countP_eq_length_filter, ← mp_cnt t N l nd h]
  exact mb_mono (fun i _ y => by simp at y; exact y.1)
theorem mp_9 {l : List Nat} (nd : l.Nodup) (h : ∀ e, e ∈ l → e < 21) {sn al : Int32} (ha : ∀ j, j < 20 → bt al j = false) {c : Nat} (hc : c < 20) : (mf_lk l (mk_m sn al c)).length ≤ 9 := by
  have h1 := mp_len (fun j => bt (mk_m sn al c) j) nd h
  have h2 : mb_cn (fun j => bt (mk_m sn al c) j) 21 = mb_cn (fun j => bt (mk_m sn al c) j) 20 + (bt (mk_m sn al c) 20).toNat := rfl
  have h3 : mb_cn (fun j => bt (mk_m sn al c) j) 20 ≤ mb_cn (bt (me_t c)) 20 := mb_mono (fun i hi y => by
    rw [mk_m, b_or, b_and, ha i hi, Bool.or_false] at y
    simp at y
    exact y.1)
  have h4 := me_le8 c hc
  have h5 := mb_tn (bt (mk_m sn al c) 20)
  simp only [mf_lk]
  omega
theorem mp_9a {l : List Nat} (nd : l.Nodup) (h : ∀ e, e ∈ l → e < 21) {al : Int32} (ha : ∀ j, j < 20 → bt al j = false) : (mf_lk l al).length ≤ 9 := by
  have h1 := mp_len (fun j => bt al j) nd h
  have h2 : mb_cn (fun j => bt al j) 21 = mb_cn (fun j => bt al j) 20 + (bt al 20).toNat := rfl
  have h3 : mb_cn (fun j => bt al j) 20 = 0 := mb_of0 ha
  have h5 := mb_tn (bt al 20)
  simp only [mf_lk]
  omega
theorem mp_cap (j : Nat) : ∀ ks : List (Nat × Int32), mg_cap j ks ≤ (mg_flat ks).length
  | [] => Nat.le_refl _
  | k :: ks => by
    have := mp_cap j ks
    rw [mg_cap, mg_flat, List.length_append, List.length_replicate]
    split <;> omega
def mp_z (n R : Nat) (z : Nat → Nat) : Nat → Nat := fun t => if t = n then R else z t
theorem mp_zn (n R : Nat) (z : Nat → Nat) : mp_z n R z n = R := if_pos rfl
theorem mp_zt {n R : Nat} {z : Nat → Nat} {t : Nat} (h : t < n) : mp_z n R z t = z t := if_neg (by omega)
theorem mp_ks (n R : Nat) (z : Nat → Nat) (m : Nat → Int32) : mf_fl (mp_z n R z) m n = mf_fl z m n := mf_congr (fun i hi => ⟨mp_zt hi, rfl⟩)
/-- what the component holds when it has counted -/
def mr_XC (S : Int32) (ac : Nat → Int32) (cell mines ct nb : Int32) (ko sz mi : Nat → Int32) : Prop :=
  mr_T mines ∧ ((cell = -1 ∧ ct = nI (me_Cnt S (mu_k ac) mines.toInt) ∧ ∀ c, c < 20 → bt S c = false → ∃ k s, k < 21 ∧ s + 1 ≤ 20 ∧ ko c = nI k ∧ sz k = nI (s + 1) ∧ mi k = nI ((s + 1) * me_Min S (mu_k ac) mines.toInt c)) ∨
    (∃ w, w < 20 ∧ bt S w = false ∧ cell = nI w ∧ nb = mr_mask (mr_nb S ac w mines.toInt) 9))
/-- the needs at the root -/
def mp_w (S : Int32) (ac : Nat → Int32) (wt : Option Nat) (T : Int) : Nat → Int := fun j => if j = 20 then T else if wt = some j then 8 else if bt S j = true then mu_k ac j else 0
def mp_r (wt : Option Nat) : Nat → Nat := fun j => if wt = some j then 8 else 0
theorem mp_w0 (S : Int32) (ac : Nat → Int32) (T : Int) : mp_w S ac none T = me_w S (mu_k ac) T := by
  funext j
  simp [mp_w, me_w]
theorem mp_ww {S : Int32} {ac : Nat → Int32} {c : Nat} (hc : c < 20) (hs : bt S c = false) (T : Int) {b : Nat} (hb : b ≤ 8) : mc_sh c (8 - (b : Int)) (mp_w S ac (some c) T) = me_w (S ||| my_bit c) (mu_k (upd ac c (nI b))) T := by
  funext j
  simp only [mc_sh, mp_w, me_w, b_or]
  rw [my_bitb (by omega)]
  by_cases y : j = 20
  · subst y
    rw [if_neg (by omega)]
    simp
  · by_cases x : j = c
    · subst x
      have : mu_k (upd ac j (nI b)) j = (b : Int) := by rw [mu_k, pk_us, nI_toInt (by omega)]
      simp [y, this]
      omega
    · have : mu_k (upd ac c (nI b)) j = mu_k ac j := by rw [mu_k, pk_un x]; rfl
      have e : ¬ (some c : Option Nat) = some j := fun q => x (Option.some.inj q).symm
      rw [if_neg x, if_neg y, if_neg e, if_neg y, this, decide_eq_false x, Bool.or_false]
section
variable {f_shown f_total f_knownMined f_knownFree f_lastKind f_listed f_count f_numbers f_countedCell f_countedMines f_counted : Int32} {a_around a_clueOf a_kindOf a_cluesOf a_sizes a_clueList a_missing a_room a_links a_laterRoom a_linkEnd a_taken a_most a_countBefore a_ways a_minesIn : Nat → Int32}
variable {ac : Nat → Int32}
/-- the kinds and the clues, and then the search, without a total -/
theorem mp_sN (hC : mr_C f_shown ac) (hX : mr_X f_shown ac a_clueOf) {sn : Int32} {wt : Option Nat} (hsn : me_lo sn) (hwt : (f_countedCell = -1 ∧ wt = none ∧ sn = f_shown) ∨ ∃ c, c < 20 ∧ f_countedCell = nI c ∧ wt = some c ∧ bt f_shown c = false ∧ sn = f_shown ||| my_bit c)
    {n : Nat} {z : Nat → Nat} (hF : mk_F sn 0 f_lastKind a_kindOf a_cluesOf a_sizes n z) {T : Int} (hL : ma_L (ma_lst f_shown wt false) (fun j => nI (mp_w f_shown ac wt T j).toNat) (fun j => nI (mp_r wt j)) f_listed a_clueList a_missing a_room) {post : SX → Prop}
    (h : ∀ rm lk lr le (ct' nb' : Int32) (ms' tk' mo' cb' wy' mi' : Nat → Int32), (∀ i, i < n → mi' i = a_ways 0 * nI (mg_H (mc_L (bt (sn ||| 0)) (mq_r (mp_r wt))) i (mf_ks z a_cluesOf n) (mp_w f_shown ac wt T))) → ct' = f_count + a_ways 0 * nI (mg_K (mc_L (bt (sn ||| 0)) (mq_r (mp_r wt))) (mf_ks z a_cluesOf n) (mp_w f_shown ac wt T)) →
      mq_N wt f_numbers nb' (fun c b => mg_K (mc_Lb (bt (sn ||| 0)) (mq_r (mp_r wt)) c b) (mf_ks z a_cluesOf n) (mp_w f_shown ac wt T)) → post (f_shown, f_total, f_knownMined, f_knownFree, f_lastKind, f_listed, ct', nb', f_countedCell, f_countedMines, f_counted, a_around, a_clueOf, a_kindOf, a_cluesOf, a_sizes, a_clueList, ms', rm, lk, lr, le, tk', mo', cb', wy', mi')) :
    wpX_search post (f_shown, f_total, f_knownMined, f_knownFree, f_lastKind, f_listed, f_count, f_numbers, f_countedCell, f_countedMines, f_counted, a_around, a_clueOf, a_kindOf, a_cluesOf, a_sizes, a_clueList, a_missing, a_room, a_links, a_laterRoom, a_linkEnd, a_taken, a_most, a_countBefore, a_ways, a_minesIn) (nI n) := by
  obtain ⟨f1, f2, f3, f4, f5, f6, f7, f8, f9⟩ := hF
  have hw' : ∀ c, wt = some c → c < 20 ∧ bt f_shown c = false := by
    intro c hc
    rcases hwt with ⟨_, h, _⟩ | ⟨c', h1, _, h2, h3, _⟩
    · rw [h] at hc; cases hc
    · rw [h2] at hc; cases hc; exact ⟨h1, h3⟩
  have mem := fun j => ma_mem hC.1 (w := wt) (t := false) (j := j)
  have nd : (ma_lst f_shown wt false).Nodup := ma_nd hw'
  have h21 : ∀ j, j ∈ ma_lst f_shown wt false → j < 21 := fun j hj => (hL.2.2 j hj).1
  have hlen : (ma_lst f_shown wt false).length ≤ 21 := by
    have := mp_len (fun _ => true) nd h21
    have h2 := mb_le (fun _ => true) 21
    rw [List.filter_eq_self.mpr (fun _ _ => rfl)] at this
    omega
  have lenE : (mf_fl z a_cluesOf n).length = (me_E sn).length := by rw [f5.length_eq, List.length_map]
  have hER := me_ER20 sn
  have sj : ∀ j, bt sn j = true ↔ (bt f_shown j = true ∨ wt = some j) := by
    intro j
    rcases hwt with ⟨_, h, h2⟩ | ⟨c', h1, _, h2, h3, h4⟩
    · rw [h, h2]; simp
    · rw [h2, h4, b_or, my_bitb (by omega)]
      simp
      exact ⟨fun y => y.imp id (fun q => q.symm), fun y => y.imp id (fun q => q.symm)⟩
  have ks9 : ∀ k, k < n → (mf_lk (ma_lst f_shown wt false) (a_cluesOf k)).length ≤ 9 := by
    intro k hk
    obtain ⟨c, hc, e⟩ := f4 k hk
    rw [e]
    exact mp_9 nd h21 (fun j _ => b_0 j) hc
  have wb : ∀ j, j ∈ ma_lst f_shown wt false → 0 ≤ mp_w f_shown ac wt T j ∧ mp_w f_shown ac wt T j ≤ 20 := by
    intro j hj
    have hj' := (mem j).mp hj
    have j20 : j ≠ 20 := by
      rintro rfl
      rcases hj' with y | y | y
      · rw [hC.1 20 (by omega)] at y; cases y
      · have := (hw' 20 y).1; omega
      · cases y.1
    simp only [mp_w, j20, if_false]
    by_cases y : wt = some j
    · rw [if_pos y]; omega
    · rw [if_neg y]
      rcases hj' with x | x | x
      · rw [if_pos x]
        have j19 : j < 20 := by have := h21 j hj; omega
        obtain ⟨m, hm, e⟩ := (hC.2 j j19).1 x
        rw [mu_k, e, nI_toInt (by omega)]; omega
      · exact absurd x y
      · cases x.1
  refine mq_search (J := bt (sn ||| 0)) (wt := wt) (r0 := mp_r wt) nd h21 hlen hL.1 hL.2.1 (by omega) (fun k hk => ⟨(f3 k hk).1, ?_⟩) ks9 (fun j hj => ⟨(hL.2.2 j hj).2.2, ?_⟩) (fun j => ?_) ?_ (fun j hj => ?_) ?_ (wd := mp_w f_shown ac wt T) (fun j hj => ⟨(wb j hj).1, (hL.2.2 j hj).2.1⟩) (fun j hj => by have := (wb j hj).2; omega) h
  · have := mf_zle (z := z) (m := a_cluesOf) hk; omega
  · unfold mp_r; split <;> omega
  · have := mp_cap j (mf_ks z a_cluesOf n)
    rw [mf_flat] at this
    omega
  · refine (ms_max (mf_pos (fun i hi => (f3 i hi).2)) 0 0 ?_).1
    rw [mf_flat]; omega
  · rw [Int32.or_zero, sj, mem]
    constructor
    · rintro (y | y)
      · exact Or.inl y
      · exact Or.inr (Or.inl y)
    · rintro (y | y | y)
      · exact Or.inl y
      · exact Or.inr y
      · cases y.1
  · rcases hwt with ⟨h1, h2, _⟩ | ⟨c', h1, h0, h2, h3, h4⟩
    · exact Or.inl ⟨h1, h2⟩
    · refine Or.inr ⟨c', h1, h0, h2, (mem c').mpr (Or.inr (Or.inl h2)), ?_⟩
      rw [mp_r, if_pos h2]
/-- with a total -/
theorem mp_sT (hC : mr_C f_shown ac) (hX : mr_X f_shown ac a_clueOf) {sn : Int32} {wt : Option Nat} (hsn : me_lo sn) (hwt : (f_countedCell = -1 ∧ wt = none ∧ sn = f_shown) ∨ ∃ c, c < 20 ∧ f_countedCell = nI c ∧ wt = some c ∧ bt f_shown c = false ∧ sn = f_shown ||| my_bit c)
    {n : Nat} {z : Nat → Nat} (hF : mk_F sn me_b f_lastKind a_kindOf a_cluesOf a_sizes n z) {t : Nat} (ht : t ≤ 20) (hL : ma_L (ma_lst f_shown wt true) (fun j => nI (mp_w f_shown ac wt t j).toNat) (fun j => nI (mp_r wt j)) f_listed a_clueList a_missing a_room) {post : SX → Prop}
    (h : ∀ rm lk lr le (ct' nb' : Int32) (ms' tk' mo' cb' wy' mi' : Nat → Int32), (∀ i, i < n + 1 → mi' i = a_ways 0 * nI (mg_H (mc_L (bt (sn ||| me_b)) (mq_r (mp_r wt))) i (mf_ks (mp_z n (me_R sn) z) a_cluesOf (n + 1)) (mp_w f_shown ac wt t))) → ct' = f_count + a_ways 0 * nI (mg_K (mc_L (bt (sn ||| me_b)) (mq_r (mp_r wt))) (mf_ks (mp_z n (me_R sn) z) a_cluesOf (n + 1)) (mp_w f_shown ac wt t)) →
      mq_N wt f_numbers nb' (fun c b => mg_K (mc_Lb (bt (sn ||| me_b)) (mq_r (mp_r wt)) c b) (mf_ks (mp_z n (me_R sn) z) a_cluesOf (n + 1)) (mp_w f_shown ac wt t)) → post (f_shown, f_total, f_knownMined, f_knownFree, f_lastKind, f_listed, ct', nb', f_countedCell, f_countedMines, f_counted, a_around, a_clueOf, a_kindOf, a_cluesOf, a_sizes, a_clueList, ms', rm, lk, lr, le, tk', mo', cb', wy', mi')) :
    wpX_search post (f_shown, f_total, f_knownMined, f_knownFree, f_lastKind, f_listed, f_count, f_numbers, f_countedCell, f_countedMines, f_counted, a_around, a_clueOf, a_kindOf, a_cluesOf, a_sizes, a_clueList, a_missing, a_room, a_links, a_laterRoom, a_linkEnd, a_taken, a_most, a_countBefore, a_ways, a_minesIn) (nI (n + 1)) := by
  obtain ⟨f1, f2, f3, f4, f5, f6, f7, f8, f9⟩ := hF
  have hw' : ∀ c, wt = some c → c < 20 ∧ bt f_shown c = false := by
    intro c hc
    rcases hwt with ⟨_, h, _⟩ | ⟨c', h1, _, h2, h3, _⟩
    · rw [h] at hc; cases hc
    · rw [h2] at hc; cases hc; exact ⟨h1, h3⟩
  have mem := fun j => ma_mem hC.1 (w := wt) (t := true) (j := j)
  have nd : (ma_lst f_shown wt true).Nodup := ma_nd hw'
  have h21 : ∀ j, j ∈ ma_lst f_shown wt true → j < 21 := fun j hj => (hL.2.2 j hj).1
  have hlen : (ma_lst f_shown wt true).length ≤ 21 := by
    have := mp_len (fun _ => true) nd h21
    have h2 := mb_le (fun _ => true) 21
    rw [List.filter_eq_self.mpr (fun _ _ => rfl)] at this
    omega
  have lenE : (mf_fl z a_cluesOf n).length = (me_E sn).length := by rw [f5.length_eq, List.length_map]
  have hER := me_ER20 sn
  have sj : ∀ j, bt sn j = true ↔ (bt f_shown j = true ∨ wt = some j) := by
    intro j
    rcases hwt with ⟨_, h, h2⟩ | ⟨c', h1, _, h2, h3, h4⟩
    · rw [h, h2]; simp
    · rw [h2, h4, b_or, my_bitb (by omega)]
      simp
      exact ⟨fun y => y.imp id (fun q => q.symm), fun y => y.imp id (fun q => q.symm)⟩
  have blo : ∀ j, j < 20 → bt me_b j = false := fun j hj => by rw [me_bb, decide_eq_false (by omega)]
  have ks9 : ∀ k, k < n + 1 → (mf_lk (ma_lst f_shown wt true) (a_cluesOf k)).length ≤ 9 := by
    intro k hk
    rcases Nat.lt_or_ge k n with y | y
    · obtain ⟨c, hc, e⟩ := f4 k y
      rw [e]
      exact mp_9 nd h21 blo hc
    · have : k = n := by omega
      rw [this, f7]
      exact mp_9a nd h21 blo
  have wb : ∀ j, j ∈ ma_lst f_shown wt true → 0 ≤ mp_w f_shown ac wt t j ∧ mp_w f_shown ac wt t j ≤ 20 := by
    intro j hj
    have hj' := (mem j).mp hj
    by_cases j20 : j = 20
    · subst j20
      simp only [mp_w, if_true]; omega
    · simp only [mp_w, j20, if_false]
      by_cases y : wt = some j
      · rw [if_pos y]; omega
      · rw [if_neg y]
        rcases hj' with x | x | x
        · rw [if_pos x]
          have j19 : j < 20 := by have := h21 j hj; omega
          obtain ⟨m, hm, e⟩ := (hC.2 j j19).1 x
          rw [mu_k, e, nI_toInt (by omega)]; omega
        · exact absurd x y
        · exact absurd x.2 j20
  have fl : (mg_flat (mf_ks (mp_z n (me_R sn) z) a_cluesOf (n + 1))).length ≤ 20 := by
    rw [mf_flat, mf_fl, mp_ks, List.length_append, List.length_replicate, mp_zn]; omega
  refine mq_search (J := bt (sn ||| me_b)) (wt := wt) (r0 := mp_r wt) nd h21 hlen hL.1 hL.2.1 (by omega) (fun k hk => ⟨?_, ?_⟩) ks9 (fun j hj => ⟨(hL.2.2 j hj).2.2, ?_⟩) (fun j => ?_) ?_ (fun j hj => ?_) ?_ (wd := mp_w f_shown ac wt t) (fun j hj => ⟨(wb j hj).1, (hL.2.2 j hj).2.1⟩) (fun j hj => by have := (wb j hj).2; omega) h
  · rcases Nat.lt_or_ge k n with y | y
    · rw [mp_zt y]; exact (f3 k y).1
    · have : k = n := by omega
      rw [this, mp_zn]; exact f8
  · rcases Nat.lt_or_ge k n with y | y
    · rw [mp_zt y]
      have := mf_zle (z := z) (m := a_cluesOf) y; omega
    · have : k = n := by omega
      rw [this, mp_zn]; omega
  · unfold mp_r; split <;> omega
  · have := mp_cap j (mf_ks (mp_z n (me_R sn) z) a_cluesOf (n + 1))
    omega
  · rw [mf_ks_s]
    refine (ms_max (mf_pos (fun i hi => ?_)) _ _ ?_).2
    · rw [mp_zt hi]; exact (f3 i hi).2
    · rw [mf_flat, mp_ks, mp_zn]; omega
  · rw [b_or, Bool.or_eq_true, sj, mem, me_bb, decide_eq_true_iff]
    constructor
    · rintro ((y | y) | y)
      · exact Or.inl y
      · exact Or.inr (Or.inl y)
      · exact Or.inr (Or.inr ⟨rfl, y⟩)
    · rintro (y | y | y)
      · exact Or.inl (Or.inl y)
      · exact Or.inl (Or.inr y)
      · exact Or.inr y.2
  · rcases hwt with ⟨h1, h2, _⟩ | ⟨c', h1, h0, h2, h3, h4⟩
    · exact Or.inl ⟨h1, h2⟩
    · refine Or.inr ⟨c', h1, h0, h2, (mem c').mpr (Or.inr (Or.inl h2)), ?_⟩
      rw [mp_r, if_pos h2]
end
