/-! the component's search, whole -/
section
variable {f_shown f_total f_knownMined f_knownFree f_lastKind f_listed f_count f_numbers f_countedCell f_countedMines f_counted : Int32} {a_around a_clueOf a_kindOf a_cluesOf a_sizes a_clueList a_missing a_room a_links a_laterRoom a_linkEnd a_taken a_most a_countBefore a_ways a_minesIn : Nat → Int32}
variable {lst : List Nat} {K : Nat} {z : Nat → Nat} {r0 : Nat → Nat} {J : Nat → Bool} {wt : Option Nat}
theorem mq_dfs {post : SX → Prop} (hSt : mq_St lst K z a_cluesOf a_sizes a_links a_laterRoom a_linkEnd r0) (hJ : ∀ j, j < 21 → (J j = true ↔ j ∈ lst)) (hwt : (f_countedCell = -1 ∧ wt = none) ∨ ∃ c, c < 20 ∧ f_countedCell = nI c ∧ wt = some c ∧ c ∈ lst ∧ r0 c = 8) :
    ∀ (ks : List (Nat × Int32)) (k : Nat), (mf_ks z a_cluesOf K).drop k = ks → k ≤ K → mq_go post f_shown f_total f_knownMined f_knownFree f_lastKind f_listed f_count f_numbers f_countedCell f_countedMines f_counted a_around a_clueOf a_kindOf a_cluesOf a_sizes a_clueList a_missing a_room a_links a_laterRoom a_linkEnd a_taken a_most a_countBefore a_ways a_minesIn lst K r0 J wt ks k := by
  have hSt' := hSt
  obtain ⟨nd, h21, hK, hr8, hc40, hkk⟩ := hSt
  intro ks
  induction ks with
  | nil =>
    intro k hks hkK wd p n ct nb ms tk mo cb wy mi hIn hM hp hn Hc
    have hk : k = K := by
      have := List.drop_eq_nil_iff.mp hks
      rw [mf_len] at this
      omega
    subst hk
    simp only [ms_T] at hp
    obtain ⟨n1, rfl⟩ : ∃ n1, n = n1 + 1 := ⟨n - 1, by omega⟩
    have L1 : mg_K (mc_L J (mq_r r0)) [] wd = 1 := by
      rw [mg_K, mc_L]
      refine mg_i_t (fun j hj hJj => ?_)
      have := hIn j ((hJ j hj).mp hJj)
      simp only [mg_cap] at this
      omega
    have hwt2 : (f_countedCell = -1 ∧ wt = none) ∨ ∃ c m, c < 20 ∧ m ≤ 8 ∧ f_countedCell = nI c ∧ wt = some c ∧ ms c = nI m := by
      rcases hwt with h | ⟨c, h1, h2, h3, h4, h5⟩
      · exact Or.inl h
      · obtain ⟨m1, m2⟩ := hM c h4
        have := hIn c h4
        simp only [mg_cap, mq_r, h5] at this
        exact Or.inr ⟨c, (wd c).toNat, h1, by omega, h2, h3, m2⟩
    refine br_f (nI_ge (b := 8388608) (by omega) (by omega)) (br_f (nI_pos (by omega)) (br_t rfl (mq_note hK wt hwt2 (fun nb2 hnb => br_t rfl (nm_e (nm_r (nI_1 p) (Hc (p + 1) n1 _ nb2 ms tk mo cb wy mi (by simp only [ms_T]; omega) (by omega) (fun _ _ => rfl) (fun _ _ => ⟨rfl, rfl, rfl, rfl⟩) (fun _ _ => rfl) (fun i hi => ?_) ?_ ?_)))))))
    · simp at hi
    · rw [L1, show nI 1 = 1 from rfl, Int32.mul_one]
    · intro c hc b hb
      rcases hwt with ⟨_, h⟩ | ⟨c', h1, h2, h3, h4, h5⟩
      · rw [h] at hc; cases hc
      · rw [h3] at hc
        cases hc
        obtain ⟨m1, m2⟩ := hM c h4
        have hI := hIn c h4
        simp only [mg_cap, mq_r, h5] at hI
        rw [hnb c (wd c).toNat h3 m2 (by omega) b hb]
        congr 1
        have key : (0 < mg_K (mc_Lb J (mq_r r0) c b) [] wd) ↔ wd c = 8 - (b : Int) := by
          rw [mg_K, mc_Lb, mg_i_pos]
          refine ⟨fun y => y.2, fun y => ⟨fun j hj hJj => ?_, y⟩⟩
          have := hIn j ((hJ j hj).mp hJj)
          simp only [mg_cap] at this
          omega
        rw [decide_eq_decide.mpr key, ← Bool.decide_and]
        refine decide_eq_decide.mpr ⟨fun y => by omega, fun y => by omega⟩
  | cons a ks ih =>
    intro k hks hkK wd p n ct nb ms tk mo cb wy mi hIn hM hp hn Hc
    have hk : k < K := by
      rcases Nat.lt_or_ge k K with y | y
      · exact y
      · rw [List.drop_eq_nil_iff.mpr (by rw [mf_len]; exact y)] at hks; cases hks
    have dk := mf_drop z a_cluesOf hk
    rw [hks] at dk
    obtain ⟨rfl, hks'⟩ := List.cons.inj dk
    obtain ⟨hs, hz20, hl9, hle, hlk⟩ := hkk k hk
    have hgo := ih (k + 1) hks'.symm (by omega)
    rw [hks'] at hgo
    have hInv := hIn
    rw [hks'] at hInv
    simp only [ms_T] at hp Hc
    obtain ⟨n1, rfl⟩ : ∃ n1, n = n1 + 1 := ⟨n - 1, by omega⟩
    have w100 : ∀ j, j ∈ lst → wd j ≤ 100 := by
      intro j hj
      have h1 := (hIn j hj).2
      have h2 := mq_capd j (mf_ks z a_cluesOf K) k
      rw [hks] at h2
      have h3 := hc40 j
      have h4 := hr8 j hj
      simp only [mq_r] at h1
      omega
    have lk_in : ∀ j, j ∈ mf_lk lst (a_cluesOf k) → j ∈ lst ∧ bt (a_cluesOf k) j = true := fun j hj => mf_lk_mem.mp hj
    have hne : ¬ nI k = nI K := fun y => by have := (nI_eq (by omega) (by omega)).mp y; omega
    refine br_f (nI_ge (b := 8388608) (by omega) (by omega)) (br_f (nI_pos (by omega)) (br_f hne (br_f mx_10 (mq_few hSt' hk hM w100 (fun f g ms1 hfg hgz hcan hD => ?_) (fun hno => ?_)))))
    · have zl : (g + 1 - f) * (ms_T ks + 1) ≤ (z k + 1) * (ms_T ks + 1) := Nat.mul_le_mul_right _ (by omega)
      rw [← hks'] at hcan
      have hE := fun (L : (Nat → Int) → Nat) (hL : ms_see L lst (mq_r r0)) => ms_end hL lk_in hgz hcan
      have hB := fun (L : (Nat → Int) → Nat) (hL : ms_see L lst (mq_r r0)) => ms_beg hL lk_in (f := f) (by omega) hcan
      have sL := mq_see h21 hJ (mq_r r0)
      have hp2 := hp
      rw [hks'] at hcan zl hp2
      refine mq_in hSt' hk hgo hInv hgz hcan p ct nb ms tk mo cb wy mi hM (by omega) ?_ (g - f) f (by omega) (Nat.le_refl f) p n1 _ _ _ _ _ _ _ _ (by omega) (by omega) (fun j hj => ?_) pk_us pk_us pk_us (fun q hq => ?_) (fun q hq => rfl) (fun i hi => ?_) ?_ ?_
      · intro p' n' ct' nb' ms' tk' mo' cb' wy' mi' a1 a2 a3 a4 a5 a6 a7 a8
        rw [← hks'] at a1 a6 a7 a8 zl
        refine Hc p' n' ct' nb' ms' tk' mo' cb' wy' mi' (by omega) a2 a3 a4 a5 (fun i hi => ?_) ?_ ?_
        · rw [(hE _ sL).2 i]
          exact a6 i (by rw [hks]; exact hi)
        · rw [(hE _ sL).1]
          exact a7
        · intro c hc b hb
          rw [a8 c hc b hb]
          have e := (hE _ (mq_seeb h21 hJ (mq_r r0) c b)).1
          have e2 : (0 < ms_PK (mc_Lb J (mq_r r0) c b) (z k) (a_cluesOf k) ks wd (g + 1)) ↔ (0 < mg_K (mc_Lb J (mq_r r0) c b) ((z k, a_cluesOf k) :: ks) wd) := by rw [e]
          exact congrArg (fun q => bt nb b || (decide (b ≤ 8) && q)) (decide_eq_decide.mpr e2)
      · obtain ⟨m1, m2⟩ := hM j hj
        have hcf := (hcan f).mpr ⟨Nat.le_refl f, hfg⟩
        cases hb : bt (a_cluesOf k) j
        · rw [(hD j hj).2 hb, m2]
          simp only [mg_subn, hb]
          simp
          exact m1
        · have e : mg_subn wd f (a_cluesOf k) j = wd j - f := by simp only [mg_subn, hb, if_true]
          have hw := (hcf.2 j (mf_lk_mem.mpr ⟨hj, hb⟩)).1
          rw [e, (hD j hj).1 hb, m2, pk_sub (by omega)]
          refine ⟨by omega, ?_⟩
          congr 1
          omega
      · rw [pk_un (by omega), pk_un (by omega), pk_un (by omega), pk_un (by omega)]
        exact ⟨rfl, rfl, rfl, rfl⟩
      · rw [← hks', (hB _ sL).2 i, nI_0, Int32.mul_zero, Int32.add_zero]
      · rw [← hks', (hB _ sL).1, nI_0, Int32.mul_zero, Int32.add_zero]
      · rw [← hks']
        exact mq_N0 (fun c b _ => (hB _ (mq_seeb h21 hJ (mq_r r0) c b)).1)
    · rw [← hks'] at hno
      have hN := fun (L : (Nat → Int) → Nat) (hL : ms_see L lst (mq_r r0)) => ms_none hL lk_in hno
      have sL := mq_see h21 hJ (mq_r r0)
      refine br_t rfl (nm_e (nm_r (nI_1 p) (Hc (p + 1) n1 ct nb ms tk mo cb wy mi (by omega) (by omega) (fun _ _ => rfl) (fun _ _ => ⟨rfl, rfl, rfl, rfl⟩) (fun _ _ => rfl) (fun i hi => ?_) ?_ ?_)))
      · rw [(hN _ sL).2 i, nI_0, Int32.mul_zero, Int32.add_zero]
      · rw [(hN _ sL).1, nI_0, Int32.mul_zero, Int32.add_zero]
      · exact mq_N0 (fun c b _ => (hN _ (mq_seeb h21 hJ (mq_r r0) c b)).1)
theorem mq_search {post : SX → Prop} (nd : lst.Nodup) (h21 : ∀ j, j ∈ lst → j < 21) (hl : lst.length ≤ 21) (hls : f_listed = nI lst.length) (hcl : ∀ i j, lst[i]? = some j → a_clueList i = nI j) (hK : K ≤ 21) (hz : ∀ k, k < K → a_sizes k = nI (z k) ∧ z k ≤ 20) (h9 : ∀ k, k < K → (mf_lk lst (a_cluesOf k)).length ≤ 9)
    (hr : ∀ j, j ∈ lst → a_room j = nI (r0 j) ∧ r0 j ≤ 8) (hc40 : ∀ j, mg_cap j (mf_ks z a_cluesOf K) ≤ 40) (hT : ms_T (mf_ks z a_cluesOf K) ≤ 8388608) (hJ : ∀ j, j < 21 → (J j = true ↔ j ∈ lst)) (hwt : (f_countedCell = -1 ∧ wt = none) ∨ ∃ c, c < 20 ∧ f_countedCell = nI c ∧ wt = some c ∧ c ∈ lst ∧ r0 c = 8)
    {wd : Nat → Int} (hM : mq_M lst a_missing wd) (hw : ∀ j, j ∈ lst → wd j < 1000)
    (h : ∀ rm lk lr le (ct' nb' : Int32) (ms' tk' mo' cb' wy' mi' : Nat → Int32), (∀ i, i < K → mi' i = a_ways 0 * nI (mg_H (mc_L J (mq_r r0)) i (mf_ks z a_cluesOf K) wd)) → ct' = f_count + a_ways 0 * nI (mg_K (mc_L J (mq_r r0)) (mf_ks z a_cluesOf K) wd) → mq_N wt f_numbers nb' (fun c b => mg_K (mc_Lb J (mq_r r0) c b) (mf_ks z a_cluesOf K) wd) → post (f_shown, f_total, f_knownMined, f_knownFree, f_lastKind, f_listed, ct', nb', f_countedCell, f_countedMines, f_counted, a_around, a_clueOf, a_kindOf, a_cluesOf, a_sizes, a_clueList, ms', rm, lk, lr, le, tk', mo', cb', wy', mi')) :
    wpX_search post (f_shown, f_total, f_knownMined, f_knownFree, f_lastKind, f_listed, f_count, f_numbers, f_countedCell, f_countedMines, f_counted, a_around, a_clueOf, a_kindOf, a_cluesOf, a_sizes, a_clueList, a_missing, a_room, a_links, a_laterRoom, a_linkEnd, a_taken, a_most, a_countBefore, a_ways, a_minesIn) (nI K) := by
  unfold wpX_search
  refine mx_link nd h21 hl hls hcl hK (fun k hk => (hz k hk).1) h9 (fun j hj => (hr j hj).1) (fun rm lk lr le mi hrm hkk => ?_)
  have hm : ∀ j, j ∈ lst → a_missing j = nI (wd j).toNat ∧ rm j = nI (r0 j + mg_cap j (mf_ks z a_cluesOf K)) ∧ (wd j).toNat < 1000 ∧ r0 j + mg_cap j (mf_ks z a_cluesOf K) < 1000 := by
    intro j hj
    have := hw j hj
    have := (hr j hj).2
    have := hc40 j
    exact ⟨(hM j hj).2, hrm j hj, by omega, by omega⟩
  have hSt : mq_St lst K z a_cluesOf a_sizes lk lr le r0 := ⟨nd, h21, hK, fun j hj => (hr j hj).2, hc40, fun k hk => ⟨(hz k hk).1, (hz k hk).2, h9 k hk, (hkk k hk).2⟩⟩
  refine mx_room h21 hl hls hcl hm (fun hok => br_f mx_10 ⟨8388609, ?_⟩) (fun hno => br_t rfl ⟨1, ?_⟩)
  · have hIn : ms_In lst (mq_r r0) (mf_ks z a_cluesOf K) wd := by
      intro j hj
      have h1 := hok j hj
      have h2 := (hM j hj).1
      simp only [mq_r]
      omega
    refine mq_dfs (f_count := f_count) (f_numbers := f_numbers) (a_missing := a_missing) (a_taken := a_taken) (a_most := a_most) (a_countBefore := a_countBefore) (a_ways := a_ways) (a_minesIn := mi) hSt hJ hwt _ 0 (List.drop_zero) (Nat.zero_le K) wd 0 8388609 f_count f_numbers a_missing a_taken a_most a_countBefore a_ways mi hIn hM (by omega) (by omega) ?_
    intro p' n' ct' nb' ms' tk' mo' cb' wy' mi' a1 a2 a3 a4 a5 a6 a7 a8
    obtain ⟨n1, rfl⟩ : ∃ n1, n' = n1 + 1 := ⟨n' - 1, by omega⟩
    have done := h rm lk lr le ct' nb' ms' tk' mo' cb' wy' mi' (fun i hi => by
      have := a6 i (by rw [mf_len]; exact hi)
      rw [Nat.zero_add, (hkk i hi).1, Int32.zero_add] at this
      exact this) a7 a8
    exact br_c (fun _ => done) (fun _ => br_t (by rw [nI_0]; decide) done)
  · obtain ⟨j, hj, hjw⟩ := hno
    have sL := mq_see h21 hJ (mq_r r0)
    have hh : mq_r r0 j + (mg_cap j (mf_ks z a_cluesOf K) : Int) < wd j := by
      have := (hM j hj).1
      simp only [mq_r]
      omega
    have k0 : mg_K (mc_L J (mq_r r0)) (mf_ks z a_cluesOf K) wd = 0 := mg_Khigh (sL j hj).2 _ _ hh
    refine br_f (by decide) (br_t (by decide) (h rm lk lr le f_count f_numbers a_missing a_taken a_most a_countBefore a_ways mi (fun i hi => ?_) ?_ (mq_N0 (fun c b _ => mg_Khigh (mq_seeb h21 hJ (mq_r r0) c b j hj).2 _ _ hh))))
    · rw [mg_Hhigh (sL j hj).2 _ _ _ hh, nI_0, Int32.mul_zero]
      exact (hkk i hi).1
    · rw [k0, nI_0, Int32.mul_zero, Int32.add_zero]
end
