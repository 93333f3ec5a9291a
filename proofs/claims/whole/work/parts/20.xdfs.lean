/-! the component's search -/
theorem mq_ring1 (a w A c x y t : Int32) : a + w * A + ((y + w * c * x) - y) * t = a + w * (A + t * (c * x)) := by grind
theorem mq_ring2 (a w A c x : Int32) : a + w * A + w * c * x = a + w * (A + c * x) := by grind
def mq_N (wt : Option Nat) (nb nb' : Int32) (f : Nat → Nat → Nat) : Prop := ∀ c, wt = some c → ∀ b, b < 32 → bt nb' b = (bt nb b || (decide (b ≤ 8) && decide (0 < f c b)))
theorem mq_Nt {wt : Option Nat} {nb nb1 nb2 : Int32} {f f1 f2 : Nat → Nat → Nat} (h1 : mq_N wt nb nb1 f1) (h2 : mq_N wt nb1 nb2 f2) (h : ∀ c b, wt = some c → (0 < f c b ↔ 0 < f1 c b ∨ 0 < f2 c b)) : mq_N wt nb nb2 f := by
  intro c hc b hb
  rw [h2 c hc b hb, h1 c hc b hb]
  have e : decide (0 < f c b) = (decide (0 < f1 c b) || decide (0 < f2 c b)) := by
    rw [← Bool.decide_or]
    exact decide_eq_decide.mpr (h c b hc)
  rw [e]
  cases bt nb b <;> cases decide (b ≤ 8) <;> cases decide (0 < f1 c b) <;> cases decide (0 < f2 c b) <;> rfl
theorem mq_N0 {wt : Option Nat} {nb : Int32} {f : Nat → Nat → Nat} (h : ∀ c b, wt = some c → f c b = 0) : mq_N wt nb nb f := by
  intro c hc b hb
  rw [h c b hc]; simp
theorem mq_see {lst : List Nat} {J : Nat → Bool} (h21 : ∀ j, j ∈ lst → j < 21) (hJ : ∀ j, j < 21 → (J j = true ↔ j ∈ lst)) (r : Nat → Int) : ms_see (mc_L J r) lst r := by
  intro j hj
  have h1 := h21 j hj
  have h2 := (hJ j h1).mpr hj
  refine ⟨fun w hw => mg_i_f (fun z => ?_), fun w hw => mg_i_f (fun z => ?_)⟩
  · have := z j h1 h2; omega
  · have := z j h1 h2; omega
theorem mq_seeb {lst : List Nat} {J : Nat → Bool} (h21 : ∀ j, j ∈ lst → j < 21) (hJ : ∀ j, j < 21 → (J j = true ↔ j ∈ lst)) (r : Nat → Int) (c b : Nat) : ms_see (mc_Lb J r c b) lst r := by
  intro j hj
  have h1 := h21 j hj
  have h2 := (hJ j h1).mpr hj
  refine ⟨fun w hw => mg_i_f (fun z => ?_), fun w hw => mg_i_f (fun z => ?_)⟩
  · have := z.1 j h1 h2; omega
  · have := z.1 j h1 h2; omega
section
variable {f_shown f_total f_knownMined f_knownFree f_lastKind f_listed f_count f_numbers f_countedCell f_countedMines f_counted : Int32} {a_around a_clueOf a_kindOf a_cluesOf a_sizes a_clueList a_missing a_room a_links a_laterRoom a_linkEnd a_taken a_most a_countBefore a_ways a_minesIn : Nat → Int32}
variable {lst : List Nat} {K : Nat} {z : Nat → Nat} {r0 : Nat → Nat} {J : Nat → Bool} {wt : Option Nat}
/-- the search below a node comes back with its counts -/
def mq_go (post : SX → Prop) (f_shown f_total f_knownMined f_knownFree f_lastKind f_listed f_count f_numbers f_countedCell f_countedMines f_counted : Int32) (a_around a_clueOf a_kindOf a_cluesOf a_sizes a_clueList a_missing a_room a_links a_laterRoom a_linkEnd a_taken a_most a_countBefore a_ways a_minesIn : Nat → Int32) (lst : List Nat) (K : Nat) (r0 : Nat → Nat) (J : Nat → Bool) (wt : Option Nat) (ks : List (Nat × Int32)) (k : Nat) : Prop :=
  ∀ (wd : Nat → Int) (p n : Nat) (ct nb : Int32) (ms tk mo cb wy mi : Nat → Int32), ms_In lst (mq_r r0) ks wd → mq_M lst ms wd → p + ms_T ks ≤ 8388608 → 8388608 < n + p →
    (∀ (p' n' : Nat) (ct' nb' : Int32) (ms' tk' mo' cb' wy' mi' : Nat → Int32), p' ≤ p + ms_T ks → 8388608 < n' + p' → (∀ j, j ∈ lst → ms' j = ms j) → (∀ q, q < k → tk' q = tk q ∧ mo' q = mo q ∧ cb' q = cb q ∧ mi' q = mi q) → (∀ q, q ≤ k → wy' q = wy q) →
      (∀ i, i < ks.length → mi' (k + i) = mi (k + i) + wy k * nI (mg_H (mc_L J (mq_r r0)) i ks wd)) → ct' = ct + wy k * nI (mg_K (mc_L J (mq_r r0)) ks wd) → mq_N wt nb nb' (fun c b => mg_K (mc_Lb J (mq_r r0) c b) ks wd) →
      wX_search_23 post (nI K) n' (nI k + (-1)) 0 (nI p') f_shown f_total f_knownMined f_knownFree f_lastKind f_listed ct' nb' f_countedCell f_countedMines f_counted a_around a_clueOf a_kindOf a_cluesOf a_sizes a_clueList ms' a_room a_links a_laterRoom a_linkEnd tk' mo' cb' wy' mi') →
    wX_search_23 post (nI K) n (nI k) 1 (nI p) f_shown f_total f_knownMined f_knownFree f_lastKind f_listed ct nb f_countedCell f_countedMines f_counted a_around a_clueOf a_kindOf a_cluesOf a_sizes a_clueList ms a_room a_links a_laterRoom a_linkEnd tk mo cb wy mi
theorem mq_in {post : SX → Prop} (hSt : mq_St lst K z a_cluesOf a_sizes a_links a_laterRoom a_linkEnd r0) {k : Nat} (hk : k < K) (hgo : mq_go post f_shown f_total f_knownMined f_knownFree f_lastKind f_listed f_count f_numbers f_countedCell f_countedMines f_counted a_around a_clueOf a_kindOf a_cluesOf a_sizes a_clueList a_missing a_room a_links a_laterRoom a_linkEnd a_taken a_most a_countBefore a_ways a_minesIn lst K r0 J wt ((mf_ks z a_cluesOf K).drop (k + 1)) (k + 1)) {wd : Nat → Int} (hIn : ms_In lst (mq_r r0) ((z k, a_cluesOf k) :: (mf_ks z a_cluesOf K).drop (k + 1)) wd)
    {f g : Nat} (hgz : g ≤ z k) (hcan : ∀ t, ms_can (mf_lk lst (a_cluesOf k)) (z k) (a_cluesOf k) (mq_r r0) ((mf_ks z a_cluesOf K).drop (k + 1)) wd t ↔ f ≤ t ∧ t ≤ g) (p0 : Nat) (ct0 nb0 : Int32) (ms0 tk0 mo0 cb0 wy0 mi0 : Nat → Int32) (hM0 : mq_M lst ms0 wd) (hP : p0 + 1 + (g + 1 - f) * (ms_T ((mf_ks z a_cluesOf K).drop (k + 1)) + 1) ≤ 8388608)
    (Hc : ∀ (p' n' : Nat) (ct' nb' : Int32) (ms' tk' mo' cb' wy' mi' : Nat → Int32), p' ≤ p0 + 1 + (g + 1 - f) * (ms_T ((mf_ks z a_cluesOf K).drop (k + 1)) + 1) → 8388608 < n' + p' → (∀ j, j ∈ lst → ms' j = ms0 j) → (∀ q, q < k → tk' q = tk0 q ∧ mo' q = mo0 q ∧ cb' q = cb0 q ∧ mi' q = mi0 q) → (∀ q, q ≤ k → wy' q = wy0 q) →
      (∀ i, i < ((mf_ks z a_cluesOf K).drop k).length → mi' (k + i) = mi0 (k + i) + wy0 k * nI (ms_PH (mc_L J (mq_r r0)) i (z k) (a_cluesOf k) ((mf_ks z a_cluesOf K).drop (k + 1)) wd (g + 1))) → ct' = ct0 + wy0 k * nI (ms_PK (mc_L J (mq_r r0)) (z k) (a_cluesOf k) ((mf_ks z a_cluesOf K).drop (k + 1)) wd (g + 1)) → mq_N wt nb0 nb' (fun c b => ms_PK (mc_Lb J (mq_r r0) c b) (z k) (a_cluesOf k) ((mf_ks z a_cluesOf K).drop (k + 1)) wd (g + 1)) →
      wX_search_23 post (nI K) n' (nI k + (-1)) 0 (nI p') f_shown f_total f_knownMined f_knownFree f_lastKind f_listed ct' nb' f_countedCell f_countedMines f_counted a_around a_clueOf a_kindOf a_cluesOf a_sizes a_clueList ms' a_room a_links a_laterRoom a_linkEnd tk' mo' cb' wy' mi') :
    ∀ (d t : Nat), t + d = g → f ≤ t → ∀ (p n : Nat) (ct nb : Int32) (ms tk mo cb wy mi : Nat → Int32), p ≤ p0 + (t - f) * (ms_T ((mf_ks z a_cluesOf K).drop (k + 1)) + 1) → 8388608 ≤ n + p → mq_M lst ms (mg_subn wd t (a_cluesOf k)) → tk k = nI t → mo k = nI g → cb k = ct → (∀ q, q < k → tk q = tk0 q ∧ mo q = mo0 q ∧ cb q = cb0 q ∧ mi q = mi0 q) → (∀ q, q ≤ k → wy q = wy0 q) →
      (∀ i, i < ((mf_ks z a_cluesOf K).drop k).length → mi (k + i) = mi0 (k + i) + wy0 k * nI (ms_PH (mc_L J (mq_r r0)) i (z k) (a_cluesOf k) ((mf_ks z a_cluesOf K).drop (k + 1)) wd t)) → ct = ct0 + wy0 k * nI (ms_PK (mc_L J (mq_r r0)) (z k) (a_cluesOf k) ((mf_ks z a_cluesOf K).drop (k + 1)) wd t) → mq_N wt nb0 nb (fun c b => ms_PK (mc_Lb J (mq_r r0) c b) (z k) (a_cluesOf k) ((mf_ks z a_cluesOf K).drop (k + 1)) wd t) →
      wX_search_67 post (wX_search_23 post (nI K) n) (nI K) (nI k) 1 (nI p) f_shown f_total f_knownMined f_knownFree f_lastKind f_listed ct nb f_countedCell f_countedMines f_counted a_around a_clueOf a_kindOf a_cluesOf a_sizes a_clueList ms a_room a_links a_laterRoom a_linkEnd tk mo cb wy mi := by
  have hSt' := hSt
  obtain ⟨nd, h21, hK, hr8, hc40, hkk⟩ := hSt
  obtain ⟨hs, hz20, hl9, hle, hlk⟩ := hkk k hk
  have vk : vp_in (nI k) 21 := vp_in_nI (by omega) (by omega)
  have ck : (nI k).toNatClampNeg = k := nI_clamp (by omega)
  have dk := mf_drop z a_cluesOf hk
  have lenk : ((mf_ks z a_cluesOf K).drop k).length = ((mf_ks z a_cluesOf K).drop (k + 1)).length + 1 := by rw [dk, List.length_cons]
  have lk_in : ∀ j, j ∈ lst → bt (a_cluesOf k) j = true → j ∈ mf_lk lst (a_cluesOf k) := fun j hj hb => mf_lk_mem.mpr ⟨hj, hb⟩
  generalize hks : (mf_ks z a_cluesOf K).drop (k + 1) = ks at *
  generalize hX : ms_T ks + 1 = X at *
  intro d
  induction d with
  | zero =>
    intro t htg hft p n ct nb ms tk mo cb wy mi hp hn hM htk hmo hcb hlow hwy hmi hct hnb
    have htg' : t = g := by omega
    have hct' := (hcan t).mpr ⟨hft, by omega⟩
    have eX : (g + 1 - f) * X = (t - f) * X + X := by
      have : g + 1 - f = (t - f) + 1 := by omega
      rw [this, Nat.succ_mul]
    refine br_f mx_10 ⟨vk, vk, ?_⟩
    rw [ck, hs, htk]
    refine mx_choose hz20 (by omega) ⟨vp_in_nI (by omega) (by omega), ?_⟩
    rw [nI_1]
    refine ⟨vp_in_nI (by omega) (by omega), nm_r (e' := upd wy (k + 1) (wy k * nI (mg_ch (z k) t))) (by rw [nI_clamp (by omega)]) (nm_e (nm_r (nI_1 p) ?_))⟩
    refine hgo (mg_subn wd t (a_cluesOf k)) (p + 1) n ct nb ms tk mo cb _ mi (ms_step hIn lk_in hct') hM (by omega) (by omega) ?_
    intro p' n' ct' nb' ms' tk' mo' cb' wy' mi' a1 a2 a3 a4 a5 a6 a7 a8
    obtain ⟨n1, rfl⟩ : ∃ n1, n' = n1 + 1 := ⟨n' - 1, by omega⟩
    rw [pk_m1]
    obtain ⟨b1, b2, b3, b4⟩ := a4 k (by omega)
    refine br_f (nI_ge (b := 8388608) (by omega) (by omega)) (br_f (nI_pos (by omega)) (br_f (fun y => ?_) (br_t rfl (mq_more hSt' hk (b1.trans htk) (b2.trans hmo) (by omega) (by omega) (fun y => by omega) (fun _ ms2 hD => ?_)))))
    · have := (nI_eq (by omega) (by omega)).mp y; omega
    · rw [pk_us] at a7
      have w1 : wy k = wy0 k := hwy k (Nat.le_refl k)
      refine br_t rfl (nm_e (nm_r (nI_1 p') (Hc (p' + 1) n1 _ _ _ _ _ _ _ _ (by omega) (by omega) (fun j hj => ?_) (fun q hq => ?_) (fun q hq => ?_) (fun i hi => ?_) ?_ ?_)))
      · obtain ⟨m1, m2⟩ := hM j hj
        obtain ⟨m3, m4⟩ := hM0 j hj
        cases hb : bt (a_cluesOf k) j
        · rw [(hD j hj).2 hb, a3 j hj, m2, m4]
          simp only [mg_subn, hb]
          simp
        · have e : mg_subn wd t (a_cluesOf k) j = wd j - t := by simp only [mg_subn, hb, if_true]
          rw [e] at m1 m2
          rw [(hD j hj).1 hb, a3 j hj, m2, m4, Int32.sub_neg, nI_add]
          congr 1
          omega
      · obtain ⟨c1, c2, c3, c4⟩ := a4 q (by omega)
        obtain ⟨d1, d2, d3, d4⟩ := hlow q hq
        rw [pk_un (by omega), pk_un (by omega), pk_un (by omega)]
        exact ⟨c1.trans d1, c2.trans d2, c3.trans d3, c4.trans d4⟩
      · rw [a5 q (by omega), pk_un (by omega)]
        exact hwy q hq
      · rw [← htg']
        cases i with
        | zero =>
          rw [Nat.add_zero, pk_us, b4, b3, hcb, a7, w1]
          have := hmi 0 (by omega)
          rw [Nat.add_zero] at this
          rw [this]
          simp only [ms_PH, mg_sum]
          rw [mq_ring1, ← nI_add, ← pk_mul, ← pk_mul]
        | succ i =>
          rw [pk_un (by omega)]
          have e1 := a6 i (by omega)
          rw [pk_us, show k + 1 + i = k + (i + 1) by omega] at e1
          rw [e1, hmi (i + 1) (by omega), w1]
          simp only [ms_PH, mg_sum]
          rw [mq_ring2, ← nI_add, ← pk_mul]
      · rw [← htg', a7, hct, w1]
        simp only [ms_PK, mg_sum]
        rw [mq_ring2, ← nI_add, ← pk_mul]
      · refine mq_Nt hnb a8 (fun c b hc => ?_)
        rw [← htg']
        simp only [ms_PK, mg_sum]
        have := mg_chp (n := z k) (k := t) (by omega)
        constructor
        · intro y
          rcases Nat.eq_zero_or_pos (mg_K (mc_Lb J (mq_r r0) c b) ks (mg_subn wd t (a_cluesOf k))) with q | q
          · rw [q, Nat.mul_zero, Nat.add_zero] at y; exact Or.inl y
          · exact Or.inr q
        · rintro (y | y)
          · omega
          · have := Nat.mul_pos this y; omega
  | succ d ih =>
    intro t htg hft p n ct nb ms tk mo cb wy mi hp hn hM htk hmo hcb hlow hwy hmi hct hnb
    have hct' := (hcan t).mpr ⟨hft, by omega⟩
    have eX : (t + 1 - f) * X = (t - f) * X + X := by
      have : t + 1 - f = (t - f) + 1 := by omega
      rw [this, Nat.succ_mul]
    have eY : (t + 1 - f) * X ≤ (g + 1 - f) * X := Nat.mul_le_mul_right _ (by omega)
    refine br_f mx_10 ⟨vk, vk, ?_⟩
    rw [ck, hs, htk]
    refine mx_choose hz20 (by omega) ⟨vp_in_nI (by omega) (by omega), ?_⟩
    rw [nI_1]
    refine ⟨vp_in_nI (by omega) (by omega), nm_r (e' := upd wy (k + 1) (wy k * nI (mg_ch (z k) t))) (by rw [nI_clamp (by omega)]) (nm_e (nm_r (nI_1 p) ?_))⟩
    refine hgo (mg_subn wd t (a_cluesOf k)) (p + 1) n ct nb ms tk mo cb _ mi (ms_step hIn lk_in hct') hM (by omega) (by omega) ?_
    intro p' n' ct' nb' ms' tk' mo' cb' wy' mi' a1 a2 a3 a4 a5 a6 a7 a8
    obtain ⟨n1, rfl⟩ : ∃ n1, n' = n1 + 1 := ⟨n' - 1, by omega⟩
    rw [pk_m1]
    obtain ⟨b1, b2, b3, b4⟩ := a4 k (by omega)
    refine br_f (nI_ge (b := 8388608) (by omega) (by omega)) (br_f (nI_pos (by omega)) (br_f (fun y => ?_) (br_t rfl (mq_more hSt' hk (b1.trans htk) (b2.trans hmo) (by omega) (by omega) (fun _ ms2 hD => ?_) (fun y => by omega)))))
    · have := (nI_eq (by omega) (by omega)).mp y; omega
    · rw [pk_us] at a7
      have w1 : wy k = wy0 k := hwy k (Nat.le_refl k)
      have hct2 := (hcan (t + 1)).mpr ⟨by omega, by omega⟩
      refine ih (t + 1) (by omega) (by omega) p' n1 _ _ _ _ _ _ _ _ (by omega) (by omega) (fun j hj => ?_) pk_us (b2.trans hmo) pk_us (fun q hq => ?_) (fun q hq => ?_) (fun i hi => ?_) ?_ ?_
      · obtain ⟨m1, m2⟩ := hM j hj
        cases hb : bt (a_cluesOf k) j
        · rw [(hD j hj).2 hb, a3 j hj, m2]
          simp only [mg_subn, hb] at m1 ⊢
          simp at m1 ⊢
          exact m1
        · have e : mg_subn wd t (a_cluesOf k) j = wd j - t := by simp only [mg_subn, hb, if_true]
          have e2 : mg_subn wd (t + 1) (a_cluesOf k) j = wd j - ((t + 1 : Nat) : Int) := by simp only [mg_subn, hb, if_true]
          have hw := (hct2.2 j (lk_in j hj hb)).1
          rw [e] at m1 m2
          rw [e2, (hD j hj).1 hb, a3 j hj, m2]
          refine ⟨by omega, ?_⟩
          rw [show (1 : Int32) = nI 1 from rfl, pk_sub (by omega)]
          congr 1
          omega
      · obtain ⟨c1, c2, c3, c4⟩ := a4 q (by omega)
        obtain ⟨d1, d2, d3, d4⟩ := hlow q hq
        rw [pk_un (by omega), pk_un (by omega), pk_un (by omega)]
        exact ⟨c1.trans d1, c2.trans d2, c3.trans d3, c4.trans d4⟩
      · rw [a5 q (by omega), pk_un (by omega)]
        exact hwy q hq
      · cases i with
        | zero =>
          rw [Nat.add_zero, pk_us, b4, b3, hcb, a7, w1]
          have := hmi 0 (by omega)
          rw [Nat.add_zero] at this
          rw [this]
          simp only [ms_PH, mg_sum]
          rw [mq_ring1, ← nI_add, ← pk_mul, ← pk_mul]
        | succ i =>
          rw [pk_un (by omega)]
          have e1 := a6 i (by omega)
          rw [pk_us, show k + 1 + i = k + (i + 1) by omega] at e1
          rw [e1, hmi (i + 1) (by omega), w1]
          simp only [ms_PH, mg_sum]
          rw [mq_ring2, ← nI_add, ← pk_mul]
      · rw [a7, hct, w1]
        simp only [ms_PK, mg_sum]
        rw [mq_ring2, ← nI_add, ← pk_mul]
      · refine mq_Nt hnb a8 (fun c b hc => ?_)
        simp only [ms_PK, mg_sum]
        have := mg_chp (n := z k) (k := t) (by omega)
        constructor
        · intro y
          rcases Nat.eq_zero_or_pos (mg_K (mc_Lb J (mq_r r0) c b) ks (mg_subn wd t (a_cluesOf k))) with q | q
          · rw [q, Nat.mul_zero, Nat.add_zero] at y; exact Or.inl y
          · exact Or.inr q
        · rintro (y | y)
          · omega
          · have := Nat.mul_pos this y; omega
end
