/-! the reference's rules -/
section
variable {f_total f_edgeCount f_coveredCount f_known f_sureMines f_sureFree : Int32} {a_clues a_around a_edge a_found a_foundWith : Nat → Int32}
variable {S : Int32}
theorem my_opn (hC : mr_C S a_clues) (hA : mr_A a_around) {post : Int32 → Prop} {d : Nat} (hd : d < 20) (h : post (mu_o S f_sureMines f_sureFree d)) : wpY_open post (f_total, f_edgeCount, f_coveredCount, f_known, f_sureMines, f_sureFree, a_clues, a_around, a_edge, a_found, a_foundWith) (nI d) := by
  refine ⟨vp_in_nI hd (by omega), my_cov hC ?_⟩
  rw [nI_clamp (by omega), hA d hd]
  have e : ((me_t d &&& mr_cv S) &&& (f_sureMines ^^^ (-1))) &&& (f_sureFree ^^^ (-1)) = mu_o S f_sureMines f_sureFree d := by
    refine me_ext (mr_andl (mr_andl (mr_andl (mr_tl hd) _) _) _) (mu_ol hd) (fun j hj => ?_)
    rw [b_and, b_and, b_and, mr_not _ (by omega), mr_not _ (by omega), mr_cvb S (by omega), mu_ob hj, decide_eq_true hj]
    simp [ml_op, mu_N, mu_v]
  rw [e]
  exact h
theorem my_left (hC : mr_C S a_clues) (hA : mr_A a_around) {post : Int32 → Prop} {d : Nat} (hd : d < 20) (h : ∀ x : Int32, (bt S d = true → x.toInt = ml_lf mu_N (mu_k a_clues) (bt f_sureMines) d) → post x) : wpY_left post (f_total, f_edgeCount, f_coveredCount, f_known, f_sureMines, f_sureFree, a_clues, a_around, a_edge, a_found, a_foundWith) (nI d) := by
  refine ⟨vp_in_nI hd (by omega), vp_in_nI hd (by omega), ?_⟩
  rw [nI_clamp (by omega), hA d hd]
  exact my_bits (mr_andl (mr_tl hd) _) (h _ (fun hs => mu_lf hC hd hs))
theorem my_clash (hC : mr_C S a_clues) (hA : mr_A a_around) {p : Bool} (hI : mu_I S a_clues p f_sureMines f_sureFree) {post : Int32 → Prop} (h1 : ¬ mu_G S a_clues p → post 1)
    (h0 : (∀ d, d < 20 → bt S d = true → 0 ≤ ml_lf mu_N (mu_k a_clues) (bt f_sureMines) d ∧ ml_lf mu_N (mu_k a_clues) (bt f_sureMines) d ≤ (me_c (mu_o S f_sureMines f_sureFree d) : Int)) → post 0) : wpY_clashes post (f_total, f_edgeCount, f_coveredCount, f_known, f_sureMines, f_sureFree, a_clues, a_around, a_edge, a_found, a_foundWith) := by
  refine loop_0 (σ := Unit) (fun n i _ => wY_clashes_2 post f_total f_edgeCount f_coveredCount f_known f_sureMines f_sureFree a_clues a_around a_edge a_found a_foundWith n (nI i))
    (fun i _ => ∀ d, d < i → bt S d = true → 0 ≤ ml_lf mu_N (mu_k a_clues) (bt f_sureMines) d ∧ ml_lf mu_N (mu_k a_clues) (bt f_sureMines) d ≤ (me_c (mu_o S f_sureMines f_sureFree d) : Int)) 20 () (fun d hd => by omega) (fun n s hs => ?_) (fun n i s hi hs hk => ?_)
  · exact br_t (nI_le (a := 20) (by omega) (by omega)) (h0 hs)
  · refine br_f (mx_20 hi) ⟨vp_in_nI hi (by omega), ?_⟩
    rw [nI_clamp (by omega)]
    cases hb : bt S i
    · refine br_t (mr_lt hC hi hb) (nm_r (nI_1 i) (hk () (fun d hd hs' => ?_)))
      rcases Nat.lt_or_ge d i with y | y
      · exact hs d y hs'
      · have : d = i := by omega
        subst this
        rw [hb] at hs'; cases hs'
    · obtain ⟨r1, r2⟩ := mu_r1 hI hi hb
      have z0 : (0 : Int32).toInt = 0 := by decide
      have hz := mu_c20 (mu_o S f_sureMines f_sureFree i)
      have zc : (nI (me_c (mu_o S f_sureMines f_sureFree i))).toInt = (me_c (mu_o S f_sureMines f_sureFree i) : Int) := nI_toInt (by omega)
      refine br_f (mr_nlt hC hi hb) (my_left hC hA hi (fun x hx => ?_))
      have ex := hx hb
      refine br_c (fun z => h1 (r1 (Or.inl ?_))) (fun z => my_left hC hA hi (fun x' hx' => my_opn hC hA hi (my_bits (mu_ol hi) ?_)))
      · have := Int32.lt_iff_toInt_lt.mp z
        omega
      · have ex' := hx' hb
        have hz0 : ¬ x.toInt < (0 : Int32).toInt := fun y => z (Int32.lt_iff_toInt_lt.mpr y)
        refine br_c (fun y => nm_r (nI_1 i) (hk () (fun d hd hs' => ?_))) (fun y => h1 (r1 (Or.inr ?_)))
        · have := Int32.le_iff_toInt_le.mp y
          rcases Nat.lt_or_ge d i with w | w
          · exact hs d w hs'
          · have e : d = i := by omega
            subst e
            constructor <;> omega
        · have : ¬ x'.toInt ≤ (nI (me_c (mu_o S f_sureMines f_sureFree i))).toInt := fun w => y (Int32.le_iff_toInt_le.mpr w)
          omega
theorem my_first (hC : mr_C S a_clues) (hA : mr_A a_around) {post : SY → Prop} {d : Nat} (hd : d < 20) (h0 : bt S d = false → post (f_total, f_edgeCount, f_coveredCount, f_known, f_sureMines, f_sureFree, a_clues, a_around, a_edge, a_found, a_foundWith))
    (h1 : bt S d = true → post (f_total, f_edgeCount, f_coveredCount, f_known, mu_nM (ml_lf mu_N (mu_k a_clues) (bt f_sureMines) d) (mu_o S f_sureMines f_sureFree d) f_sureMines, mu_nF (ml_lf mu_N (mu_k a_clues) (bt f_sureMines) d) (mu_o S f_sureMines f_sureFree d) f_sureFree, a_clues, a_around, a_edge, a_found, a_foundWith)) : wpY_useFirst post (f_total, f_edgeCount, f_coveredCount, f_known, f_sureMines, f_sureFree, a_clues, a_around, a_edge, a_found, a_foundWith) (nI d) := by
  have vi := vp_in_nI hd (N := 20) (by omega)
  unfold wpY_useFirst
  refine my_opn hC hA hd (my_left hC hA hd (fun x hx => ⟨vi, ?_⟩))
  rw [nI_clamp (by omega)]
  cases hs : bt S d
  · refine br_t (mr_lt hC hd hs) ⟨vi, ?_⟩
    rw [nI_clamp (by omega)]
    exact br_t (mr_lt hC hd hs) (h0 hs)
  · have ex := hx hs
    have h2 := h1 hs
    have hz := mu_c20 (mu_o S f_sureMines f_sureFree d)
    have zc : (nI (me_c (mu_o S f_sureMines f_sureFree d))).toInt = (me_c (mu_o S f_sureMines f_sureFree d) : Int) := nI_toInt (by omega)
    have z0 : (0 : Int32).toInt = 0 := by decide
    refine br_f (mr_nlt hC hd hs) ?_
    by_cases c : x = 0
    · have c' : ml_lf mu_N (mu_k a_clues) (bt f_sureMines) d = 0 := by rw [← ex, c]; decide
      rw [c'] at h2
      simp only [mu_nM, mu_nF, if_true] at h2
      exact br_t c (nm_e h2)
    · have c' : ¬ ml_lf mu_N (mu_k a_clues) (bt f_sureMines) d = 0 := fun y => c (Int32.toInt_inj.mp (by omega))
      refine br_f c ⟨vi, ?_⟩
      rw [nI_clamp (by omega)]
      refine br_f (mr_nlt hC hd hs) (my_bits (mu_ol hd) ?_)
      by_cases e : x = nI (me_c (mu_o S f_sureMines f_sureFree d))
      · have d' : ml_lf mu_N (mu_k a_clues) (bt f_sureMines) d = (me_c (mu_o S f_sureMines f_sureFree d) : Int) := by rw [← ex, e]; exact zc
        simp only [mu_nM, mu_nF, c', if_false] at h2
        rw [if_pos d'] at h2
        exact br_t e (nm_e h2)
      · have d' : ¬ ml_lf mu_N (mu_k a_clues) (bt f_sureMines) d = (me_c (mu_o S f_sureMines f_sureFree d) : Int) := fun y => e (Int32.toInt_inj.mp (by omega))
        simp only [mu_nM, mu_nF, c', d', if_false] at h2
        exact br_f e h2
theorem my_second (hC : mr_C S a_clues) (hA : mr_A a_around) (hI : mu_I S a_clues true f_sureMines f_sureFree) {post : Int32 → SY → Prop} {a b : Nat} (ha : a < 20) (hb : b < 20) (h0 : ¬ mu_G S a_clues true → post 0 (f_total, f_edgeCount, f_coveredCount, f_known, f_sureMines, f_sureFree, a_clues, a_around, a_edge, a_found, a_foundWith))
    (h1 : ∀ M F, mu_I S a_clues true M F → mu_Sub f_sureMines f_sureFree M F → (M = f_sureMines → F = f_sureFree → ml_c2 mu_N (mu_v S) (mu_k a_clues) (bt f_sureMines) (bt f_sureFree) a b) → post 1 (f_total, f_edgeCount, f_coveredCount, f_known, M, F, a_clues, a_around, a_edge, a_found, a_foundWith)) : wpY_useSecond post (f_total, f_edgeCount, f_coveredCount, f_known, f_sureMines, f_sureFree, a_clues, a_around, a_edge, a_found, a_foundWith) (nI a) (nI b) := by
  have same := h1 f_sureMines f_sureFree hI (mu_Sub0 _ _)
  refine br_c (fun z => same (fun _ _ hne => absurd ((nI_eq (by omega) (by omega)).mp z) hne)) (fun z => ⟨vp_in_nI ha (by omega), ?_⟩)
  rw [nI_clamp (by omega)]
  have hne : a ≠ b := fun y => z (by rw [y])
  cases hsa : bt S a
  · exact br_t (mr_lt hC ha hsa) (same (fun _ _ _ hv => by rw [mu_v, hsa] at hv; cases hv))
  · refine br_f (mr_nlt hC ha hsa) ⟨vp_in_nI hb (by omega), ?_⟩
    rw [nI_clamp (by omega)]
    cases hsb : bt S b
    · exact br_t (mr_lt hC hb hsb) (same (fun _ _ _ _ hv => by rw [mu_v, hsb] at hv; cases hv))
    · refine br_f (mr_nlt hC hb hsb) (my_opn hC hA ha (my_opn hC hA hb ?_))
      have bits : ∀ x, x < 20 → bt (mu_o S f_sureMines f_sureFree a &&& (mu_o S f_sureMines f_sureFree b ^^^ (-1))) x = (ml_op mu_N (mu_v S) (bt f_sureMines) (bt f_sureFree) a x && !ml_op mu_N (mu_v S) (bt f_sureMines) (bt f_sureFree) b x) := fun x hx => by
        rw [b_and, mr_not _ (by omega), mu_ob hx, mu_ob hx]
      have l0 : me_lo (mu_o S f_sureMines f_sureFree a &&& (mu_o S f_sureMines f_sureFree b ^^^ (-1))) := mr_andl (mu_ol ha) _
      refine br_c (fun y => ?_) (fun y => same (fun _ _ _ _ _ hinc => absurd ((me_0 l0).mpr (fun x hx => ?_)) y))
      · have hinc : ml_inc mu_N (mu_v S) (bt f_sureMines) (bt f_sureFree) a b := by
          intro x hx ho
          have := bits x hx
          rw [y, b_0, ho, Bool.true_and] at this
          simpa using this.symm
        have hZ : ∀ x, x < 20 → bt (mu_o S f_sureMines f_sureFree b &&& (mu_o S f_sureMines f_sureFree a ^^^ (-1))) x = ml_ot mu_N (mu_v S) (bt f_sureMines) (bt f_sureFree) a b x := fun x hx => by
          rw [b_and, mr_not _ (by omega), mu_ob hx, mu_ob hx]; rfl
        have lZ : me_lo (mu_o S f_sureMines f_sureFree b &&& (mu_o S f_sureMines f_sureFree a ^^^ (-1))) := mr_andl (mu_ol hb) _
        refine my_opn hC hA hb (my_opn hC hA ha (nm_e (my_left hC hA hb (fun x hx => my_left hC hA ha (fun xl hl => nm_e ?_)))))
        have hlv : (x - xl).toInt = ml_lf mu_N (mu_k a_clues) (bt f_sureMines) b - ml_lf mu_N (mu_k a_clues) (bt f_sureMines) a := by
          rw [Int32.toInt_sub, hx hsb, hl hsa]
          obtain ⟨n1, hn1, en1⟩ := (hC.2 b hb).1 hsb
          obtain ⟨n2, hn2, en2⟩ := (hC.2 a ha).1 hsa
          have g1 := mb_le (fun x => mu_N b x && bt f_sureMines x) 20
          have g2 := mb_le (fun x => mu_N a x && bt f_sureMines x) 20
          have k1 : mu_k a_clues b = (n1 : Int) := by rw [mu_k, en1, nI_toInt (by omega)]
          have k2 : mu_k a_clues a = (n2 : Int) := by rw [mu_k, en2, nI_toInt (by omega)]
          simp only [ml_lf, k1, k2]
          exact Int.bmod_eq_of_le (by omega) (by omega)
        obtain ⟨r1, r2⟩ := mu_r2 hI ha hb hne hsa hsb hinc lZ hZ hlv
        generalize hZe : mu_o S f_sureMines f_sureFree b &&& (mu_o S f_sureMines f_sureFree a ^^^ (-1)) = Z at *
        generalize x - xl = v at *
        have hz := mu_c20 Z
        have zc : (nI (me_c Z)).toInt = (me_c Z : Int) := nI_toInt (by omega)
        have z0 : (0 : Int32).toInt = 0 := by decide
        by_cases q : v < 0
        · refine br_t q (h0 (r1 (Or.inl ?_)))
          have := Int32.lt_iff_toInt_lt.mp q
          omega
        · have q' : 0 ≤ v.toInt := by
            have : ¬ v.toInt < (0 : Int32).toInt := fun y => q (Int32.lt_iff_toInt_lt.mpr y)
            omega
          refine br_f q (my_bits lZ ?_)
          by_cases w : v ≤ nI (me_c Z)
          · have w' : v.toInt ≤ (me_c Z : Int) := by
              have := Int32.le_iff_toInt_le.mp w
              omega
            obtain ⟨k1, k2, k3⟩ := r2 q' w'
            have h2 := h1 _ _ k1 k2 k3
            refine br_t w ?_
            by_cases c : v = 0
            · have c' : v.toInt = 0 := by rw [c]; decide
              simp only [mu_nM, mu_nF, c', if_true] at h2
              exact br_t c (nm_e h2)
            · have c' : ¬ v.toInt = 0 := fun y => c (Int32.toInt_inj.mp (by omega))
              refine br_f c (my_bits lZ ?_)
              by_cases d : v = nI (me_c Z)
              · have d' : v.toInt = (me_c Z : Int) := by rw [d]; exact zc
                simp only [mu_nM, mu_nF, c', if_false] at h2
                rw [if_pos d'] at h2
                exact br_t d (nm_e h2)
              · have d' : ¬ v.toInt = (me_c Z : Int) := fun y => d (Int32.toInt_inj.mp (by omega))
                simp only [mu_nM, mu_nF, c', d', if_false] at h2
                exact br_f d h2
          · refine br_f w (h0 (r1 (Or.inr ?_)))
            have : ¬ v.toInt ≤ (nI (me_c Z)).toInt := fun y => w (Int32.le_iff_toInt_le.mpr y)
            omega
      · rw [bits x hx]
        cases ho : ml_op mu_N (mu_v S) (bt f_sureMines) (bt f_sureFree) a x
        · rfl
        · rw [hinc x hx ho]; rfl
theorem my_seconds (hC : mr_C S a_clues) (hA : mr_A a_around) (hI : mu_I S a_clues true f_sureMines f_sureFree) {post : Int32 → SY → Prop} (h0 : ∀ M F, ¬ mu_G S a_clues true → post 0 (f_total, f_edgeCount, f_coveredCount, f_known, M, F, a_clues, a_around, a_edge, a_found, a_foundWith))
    (h1 : ∀ M F, mu_I S a_clues true M F → mu_Sub f_sureMines f_sureFree M F → (M = f_sureMines → F = f_sureFree → ∀ a b, a < 20 → b < 20 → ml_c2 mu_N (mu_v S) (mu_k a_clues) (bt f_sureMines) (bt f_sureFree) a b) → post 1 (f_total, f_edgeCount, f_coveredCount, f_known, M, F, a_clues, a_around, a_edge, a_found, a_foundWith)) : wpY_useSeconds post (f_total, f_edgeCount, f_coveredCount, f_known, f_sureMines, f_sureFree, a_clues, a_around, a_edge, a_found, a_foundWith) := by
  refine loop_0 (σ := Int32 × Int32) (fun n i s => wY_useSeconds_2 post n (nI i) f_total f_edgeCount f_coveredCount f_known s.1 s.2 a_clues a_around a_edge a_found a_foundWith)
    (fun i s => mu_I S a_clues true s.1 s.2 ∧ mu_Sub f_sureMines f_sureFree s.1 s.2 ∧ (s.1 = f_sureMines → s.2 = f_sureFree → ∀ k, k < i → ml_c2 mu_N (mu_v S) (mu_k a_clues) (bt f_sureMines) (bt f_sureFree) (k / 20) (k % 20))) 400 (f_sureMines, f_sureFree)
    ⟨hI, mu_Sub0 _ _, fun _ _ d hd => by omega⟩ (fun n s hs => ?_) (fun n i s hi hs hk => ?_)
  · refine br_t (nI_le (a := 400) (by omega) (by omega)) (h1 s.1 s.2 hs.1 hs.2.1 (fun e1 e2 a b ha hb => ?_))
    have := hs.2.2 e1 e2 (20 * a + b) (by omega)
    rw [show (20 * a + b) / 20 = a by omega, show (20 * a + b) % 20 = b by omega] at this
    exact this
  · obtain ⟨M, F⟩ := s
    obtain ⟨q1, q2, q3⟩ := hs
    dsimp only at q1 q2 q3
    refine br_f (nI_ge (b := 400) hi (by omega)) (my_clash hC hA q1 (fun hb => br_f mx_10 (h0 _ _ hb)) (fun _ => br_t rfl ⟨by decide, by decide, ?_⟩))
    have v1 : nI i / 20 = nI (i / 20) := pk_div (a := i) (d := 20) (by omega) (by omega) (by omega)
    have v2 : nI i - nI i / 20 * 20 = nI (i % 20) := pk_rem (a := i) (d := 20) (by omega) (by omega) (by omega)
    rw [v2, v1]
    refine my_second hC hA q1 (by omega) (by omega) (fun hb => br_t rfl (h0 _ _ hb)) (fun M' F' g1 g2 g3 => br_f mx_10 (nm_r (nI_1 i) (hk (M', F') ⟨g1, mu_SubT q2 g2, fun e1 e2 k hk' => ?_⟩)))
    dsimp only at e1 e2
    have s1 : mu_Sub M F f_sureMines f_sureFree := by rw [e1, e2] at g2; exact g2
    obtain ⟨t1, t2⟩ := mu_SubA hI.2.1 hI.2.2 q1.2.1 q1.2.2 q2 s1
    rcases Nat.lt_or_ge k i with y | y
    · exact q3 t1 t2 k y
    · have : k = i := by omega
      subst this
      have := g3 (e1.trans t1.symm) (e2.trans t2.symm)
      rw [← t1, ← t2]
      exact this
theorem my_round (hC : mr_C S a_clues) (hA : mr_A a_around) {p : Bool} {x1 : Int32} (hp : (p = true ∧ x1 = 1) ∨ (p = false ∧ x1 = 0)) (hI : mu_I S a_clues p f_sureMines f_sureFree) {post : Int32 → SY → Prop} {J : Int32 → Int32 → Int32 → Int32 → Int32 → Int32 → Int32 → (Nat → Int32) → (Nat → Int32) → (Nat → Int32) → (Nat → Int32) → (Nat → Int32) → Prop} {x2 : Int32} (h0 : ∀ M F, ¬ mu_G S a_clues p → post (-3) (f_total, f_edgeCount, f_coveredCount, f_known, M, F, a_clues, a_around, a_edge, a_found, a_foundWith))
    (h1 : ∀ M F, mu_I S a_clues p M F → mu_Sub f_sureMines f_sureFree M F → (M = f_sureMines → F = f_sureFree → (∀ d, d < 20 → ml_c1 mu_N (mu_v S) (mu_k a_clues) (bt f_sureMines) (bt f_sureFree) d) ∧ (p = true → ∀ a b, a < 20 → b < 20 → ml_c2 mu_N (mu_v S) (mu_k a_clues) (bt f_sureMines) (bt f_sureFree) a b)) → J x2 f_total f_edgeCount f_coveredCount f_known M F a_clues a_around a_edge a_found a_foundWith) :
    ∃ n, wY_decide_45 post J x1 x2 n 0 f_total f_edgeCount f_coveredCount f_known f_sureMines f_sureFree a_clues a_around a_edge a_found a_foundWith := by
  refine loop_0 (σ := Int32 × Int32) (fun n i s => wY_decide_45 post J x1 x2 n (nI i) f_total f_edgeCount f_coveredCount f_known s.1 s.2 a_clues a_around a_edge a_found a_foundWith)
    (fun i s => mu_I S a_clues p s.1 s.2 ∧ mu_Sub f_sureMines f_sureFree s.1 s.2 ∧ (s.1 = f_sureMines → s.2 = f_sureFree → ∀ d, d < i → ml_c1 mu_N (mu_v S) (mu_k a_clues) (bt f_sureMines) (bt f_sureFree) d)) 20 (f_sureMines, f_sureFree)
    ⟨hI, mu_Sub0 _ _, fun _ _ d hd => by omega⟩ (fun n s hs => ?_) (fun n i s hi hs hk => ?_)
  · obtain ⟨M, F⟩ := s
    obtain ⟨q1, q2, q3⟩ := hs
    dsimp only at q1 q2 q3
    refine br_t (nI_le (a := 20) (by omega) (by omega)) ?_
    rcases hp with ⟨rfl, rfl⟩ | ⟨rfl, rfl⟩
    · refine br_f mx_10 (my_seconds hC hA q1 (fun M' F' hb => br_t rfl (h0 _ _ hb)) (fun M' F' g1 g2 g3 => br_f mx_10 (h1 M' F' g1 (mu_SubT q2 g2) (fun e1 e2 => ?_))))
      have s1 : mu_Sub M F f_sureMines f_sureFree := by rw [e1, e2] at g2; exact g2
      obtain ⟨t1, t2⟩ := mu_SubA hI.2.1 hI.2.2 q1.2.1 q1.2.2 q2 s1
      refine ⟨q3 t1 t2, fun _ => ?_⟩
      have := g3 (e1.trans t1.symm) (e2.trans t2.symm)
      rw [← t1, ← t2]
      exact this
    · exact br_t rfl (h1 M F q1 q2 (fun e1 e2 => ⟨q3 e1 e2, fun z => by cases z⟩))
  · obtain ⟨M, F⟩ := s
    obtain ⟨q1, q2, q3⟩ := hs
    dsimp only at q1 q2 q3
    refine br_f (mx_20 hi) (my_clash hC hA q1 (fun hb => br_f mx_10 (h0 _ _ hb)) (fun hcl => br_t rfl (my_first hC hA hi (fun hb => nm_r (nI_1 i) (hk (M, F) ⟨q1, q2, fun e1 e2 d hd => ?_⟩)) (fun hb => nm_r (nI_1 i) (hk (mu_nM (ml_lf mu_N (mu_k a_clues) (bt M) i) (mu_o S M F i) M, mu_nF (ml_lf mu_N (mu_k a_clues) (bt M) i) (mu_o S M F i) F) ⟨?_, ?_, ?_⟩)))))
    · rcases Nat.lt_or_ge d i with y | y
      · exact q3 e1 e2 d y
      · have : d = i := by omega
        subst this
        intro z
        rw [mu_v, hb] at z
        cases z
    · exact ((mu_r1 q1 hi hb).2 (hcl i hi hb).1 (hcl i hi hb).2).1
    · exact mu_SubT q2 ((mu_r1 q1 hi hb).2 (hcl i hi hb).1 (hcl i hi hb).2).2.1
    · intro e1 e2 d hd
      dsimp only at e1 e2
      obtain ⟨k1, k2, k3⟩ := (mu_r1 q1 hi hb).2 (hcl i hi hb).1 (hcl i hi hb).2
      have s1 : mu_Sub M F f_sureMines f_sureFree := by rw [e1, e2] at k2; exact k2
      obtain ⟨g1, g2⟩ := mu_SubA hI.2.1 hI.2.2 q1.2.1 q1.2.2 q2 s1
      rcases Nat.lt_or_ge d i with y | y
      · exact q3 g1 g2 d y
      · have : d = i := by omega
        subst this
        have := k3 (e1.trans g1.symm) (e2.trans g2.symm)
        rw [← g1, ← g2]
        exact this
theorem my_dec (hC : mr_C S a_clues) (hA : mr_A a_around) {p : Bool} {x1 : Int32} (hp : (p = true ∧ x1 = 1) ∨ (p = false ∧ x1 = 0)) {post : Int32 → SY → Prop}
    (h0 : ∀ M F, ml_S mu_N (mu_v S) (mu_k a_clues) p false (bt M) (bt F) → post (-3) (f_total, f_edgeCount, f_coveredCount, f_known, M, F, a_clues, a_around, a_edge, a_found, a_foundWith))
    (h1 : ∀ M F, me_lo M → me_lo F → ml_S mu_N (mu_v S) (mu_k a_clues) p true (bt M) (bt F) → post (nI (me_c (M ||| F))) (f_total, f_edgeCount, f_coveredCount, f_known, M, F, a_clues, a_around, a_edge, a_found, a_foundWith)) :
    ∀ (k : Nat) (M F b : Int32), mu_I S a_clues p M F → 20 ≤ mu_c M F + k → b ≠ nI (mu_c M F) → wY_decide_12 post x1 (k + 2) b f_total f_edgeCount f_coveredCount f_known M F a_clues a_around a_edge a_found a_foundWith := by
  have fin : ∀ (k : Nat) (M F : Int32), mu_I S a_clues p M F → ml_S mu_N (mu_v S) (mu_k a_clues) p true (bt M) (bt F) → wY_decide_12 post x1 (k + 1) (nI (mu_c M F)) f_total f_edgeCount f_coveredCount f_known M F a_clues a_around a_edge a_found a_foundWith := by
    intro k M F hI hS
    rw [wY_decide_12]
    refine my_bits (mr_orl hI.2.1 hI.2.2) (br_t rfl (my_clash hC hA hI (fun hb => br_f mx_10 (h0 _ _ (mu_bad hb))) (fun _ => br_t rfl (h1 M F hI.2.1 hI.2.2 hS))))
  intro k
  induction k with
  | zero =>
    intro M F b hI hc hb
    rw [wY_decide_12]
    refine my_bits (mr_orl hI.2.1 hI.2.2) (br_f hb (my_bits (mr_orl hI.2.1 hI.2.2) (my_round hC hA hp hI (fun M' F' g => h0 _ _ (mu_bad g)) (fun M' F' g1 g2 g3 => ?_))))
    have c1 := mu_cm g2
    have c2 := mu_c20 (M' ||| F')
    obtain ⟨e1, e2⟩ := mu_eqc hI g1 g2 (by simp only [mu_c] at *; omega)
    obtain ⟨f1, f2⟩ := g3 e1 e2
    rw [e1, e2]
    exact fin 0 M F hI (mu_fin hI f1 f2)
  | succ k ih =>
    intro M F b hI hc hb
    rw [wY_decide_12]
    refine my_bits (mr_orl hI.2.1 hI.2.2) (br_f hb (my_bits (mr_orl hI.2.1 hI.2.2) (my_round hC hA hp hI (fun M' F' g => h0 _ _ (mu_bad g)) (fun M' F' g1 g2 g3 => ?_))))
    have c1 := mu_cm g2
    have c2 := mu_c20 (M' ||| F')
    have c3 := mu_c20 (M ||| F)
    by_cases z : mu_c M' F' = mu_c M F
    · obtain ⟨e1, e2⟩ := mu_eqc hI g1 g2 z
      obtain ⟨f1, f2⟩ := g3 e1 e2
      rw [e1, e2]
      exact fin (k + 1) M F hI (mu_fin hI f1 f2)
    · refine ih M' F' _ g1 (by omega) (fun y => z ?_)
      simp only [mu_c] at *
      exact ((nI_eq (by omega) (by omega)).mp y).symm
theorem my_decide (hC : mr_C S a_clues) (hA : mr_A a_around) {p : Bool} {x1 : Int32} (hp : (p = true ∧ x1 = 1) ∨ (p = false ∧ x1 = 0)) {post : Int32 → SY → Prop}
    (h0 : ∀ M F, ml_S mu_N (mu_v S) (mu_k a_clues) p false (bt M) (bt F) → post (-3) (f_total, f_edgeCount, f_coveredCount, f_known, M, F, a_clues, a_around, a_edge, a_found, a_foundWith))
    (h1 : ∀ M F, me_lo M → me_lo F → ml_S mu_N (mu_v S) (mu_k a_clues) p true (bt M) (bt F) → post (nI (me_c (M ||| F))) (f_total, f_edgeCount, f_coveredCount, f_known, M, F, a_clues, a_around, a_edge, a_found, a_foundWith)) : wpY_decide post (f_total, f_edgeCount, f_coveredCount, f_known, f_sureMines, f_sureFree, a_clues, a_around, a_edge, a_found, a_foundWith) x1 := by
  refine ⟨20 + 2, my_dec hC hA hp h0 h1 20 0 0 (-1) (mu_I0 _ _ _) (by omega) (fun z => ?_)⟩
  have : mu_c 0 0 = 0 := by simp only [mu_c, Int32.or_zero]; exact my_c0
  rw [this] at z
  exact absurd z (by decide)
end
