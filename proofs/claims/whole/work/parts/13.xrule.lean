/-! the component's rules -/
section
variable {f_shown f_total f_knownMined f_knownFree f_lastKind f_listed f_count f_numbers f_countedCell f_countedMines f_counted : Int32} {a_around a_clueOf a_kindOf a_cluesOf a_sizes a_clueList a_missing a_room a_links a_laterRoom a_linkEnd a_taken a_most a_countBefore a_ways a_minesIn : Nat → Int32}
variable {ac : Nat → Int32}
theorem mx_opn (hA : mr_A a_around) {post : Int32 → Prop} {d : Nat} (hd : d < 20) (h : post (mu_o f_shown f_knownMined f_knownFree d)) : wpX_openOf post (f_shown, f_total, f_knownMined, f_knownFree, f_lastKind, f_listed, f_count, f_numbers, f_countedCell, f_countedMines, f_counted, a_around, a_clueOf, a_kindOf, a_cluesOf, a_sizes, a_clueList, a_missing, a_room, a_links, a_laterRoom, a_linkEnd, a_taken, a_most, a_countBefore, a_ways, a_minesIn) (nI d) := by
  refine ⟨vp_in_nI hd (by omega), ?_⟩
  rw [nI_clamp (by omega), hA d hd]
  exact h
theorem mx_left (hC : mr_C f_shown ac) (hX : mr_X f_shown ac a_clueOf) (hA : mr_A a_around) {post : Int32 → Prop} {d : Nat} (hd : d < 20) (hs : bt f_shown d = true) (h : ∀ x : Int32, x.toInt = ml_lf mu_N (mu_k ac) (bt f_knownMined) d → post x) : wpX_leftOf post (f_shown, f_total, f_knownMined, f_knownFree, f_lastKind, f_listed, f_count, f_numbers, f_countedCell, f_countedMines, f_counted, a_around, a_clueOf, a_kindOf, a_cluesOf, a_sizes, a_clueList, a_missing, a_room, a_links, a_laterRoom, a_linkEnd, a_taken, a_most, a_countBefore, a_ways, a_minesIn) (nI d) := by
  refine ⟨vp_in_nI hd (by omega), vp_in_nI hd (by omega), ?_⟩
  rw [nI_clamp (by omega), hA d hd]
  refine mx_size (mr_andl (mr_tl hd) _) (h _ ?_)
  rw [(hX d hd).1 hs]
  exact mu_lf hC hd hs
theorem mx_settle {post : Int32 → SX → Prop} {Z x : Int32} (lZ : me_lo Z) {l : Int} (hx : x.toInt = l) (h0 : l < 0 ∨ (me_c Z : Int) < l → post 0 (f_shown, f_total, f_knownMined, f_knownFree, f_lastKind, f_listed, f_count, f_numbers, f_countedCell, f_countedMines, f_counted, a_around, a_clueOf, a_kindOf, a_cluesOf, a_sizes, a_clueList, a_missing, a_room, a_links, a_laterRoom, a_linkEnd, a_taken, a_most, a_countBefore, a_ways, a_minesIn)) (h1 : 0 ≤ l → l ≤ (me_c Z : Int) → post 1 (f_shown, f_total, mu_nM l Z f_knownMined, mu_nF l Z f_knownFree, f_lastKind, f_listed, f_count, f_numbers, f_countedCell, f_countedMines, f_counted, a_around, a_clueOf, a_kindOf, a_cluesOf, a_sizes, a_clueList, a_missing, a_room, a_links, a_laterRoom, a_linkEnd, a_taken, a_most, a_countBefore, a_ways, a_minesIn)) : wpX_settle post (f_shown, f_total, f_knownMined, f_knownFree, f_lastKind, f_listed, f_count, f_numbers, f_countedCell, f_countedMines, f_counted, a_around, a_clueOf, a_kindOf, a_cluesOf, a_sizes, a_clueList, a_missing, a_room, a_links, a_laterRoom, a_linkEnd, a_taken, a_most, a_countBefore, a_ways, a_minesIn) Z x := by
  have hz := mu_c20 Z
  have z0 : (0 : Int32).toInt = 0 := by decide
  have zc : (nI (me_c Z)).toInt = (me_c Z : Int) := nI_toInt (by omega)
  unfold wpX_settle
  refine mx_size lZ ?_
  by_cases a : x < 0
  · refine br_t a (h0 (Or.inl ?_))
    have := Int32.lt_iff_toInt_lt.mp a
    omega
  · have a' : 0 ≤ l := by
      have : ¬ x.toInt < (0 : Int32).toInt := fun y => a (Int32.lt_iff_toInt_lt.mpr y)
      omega
    refine br_f a ?_
    by_cases b : x ≤ nI (me_c Z)
    · have b' : l ≤ (me_c Z : Int) := by
        have := Int32.le_iff_toInt_le.mp b
        omega
      have h2 := h1 a' b'
      refine br_t b ?_
      by_cases c : x = 0
      · have c' : l = 0 := by rw [← hx, c]; decide
        simp only [mu_nM, mu_nF, c', if_true] at h2
        exact br_t c (nm_e h2)
      · have c' : ¬ l = 0 := fun y => c (Int32.toInt_inj.mp (by omega))
        refine br_f c ?_
        by_cases d : x = nI (me_c Z)
        · have d' : l = (me_c Z : Int) := by rw [← hx, d]; exact zc
          simp only [mu_nM, mu_nF, c', if_false] at h2
          rw [if_pos d'] at h2
          exact br_t d (nm_e h2)
        · have d' : ¬ l = (me_c Z : Int) := fun y => d (Int32.toInt_inj.mp (by omega))
          simp only [mu_nM, mu_nF, c', d', if_false] at h2
          exact br_f d h2
    · refine br_f b (h0 (Or.inr ?_))
      have : ¬ x.toInt ≤ (nI (me_c Z)).toInt := fun y => b (Int32.le_iff_toInt_le.mpr y)
      omega
theorem mx_rule1 (hC : mr_C f_shown ac) (hX : mr_X f_shown ac a_clueOf) (hA : mr_A a_around) {p : Bool} (hI : mu_I f_shown ac p f_knownMined f_knownFree) {post : Int32 → SX → Prop}
    (h0 : ∀ M F, ¬ mu_G f_shown ac p → post 0 (f_shown, f_total, M, F, f_lastKind, f_listed, f_count, f_numbers, f_countedCell, f_countedMines, f_counted, a_around, a_clueOf, a_kindOf, a_cluesOf, a_sizes, a_clueList, a_missing, a_room, a_links, a_laterRoom, a_linkEnd, a_taken, a_most, a_countBefore, a_ways, a_minesIn))
    (h1 : ∀ M F, mu_I f_shown ac p M F → mu_Sub f_knownMined f_knownFree M F → (M = f_knownMined → F = f_knownFree → ∀ d, d < 20 → ml_c1 mu_N (mu_v f_shown) (mu_k ac) (bt f_knownMined) (bt f_knownFree) d) → post 1 (f_shown, f_total, M, F, f_lastKind, f_listed, f_count, f_numbers, f_countedCell, f_countedMines, f_counted, a_around, a_clueOf, a_kindOf, a_cluesOf, a_sizes, a_clueList, a_missing, a_room, a_links, a_laterRoom, a_linkEnd, a_taken, a_most, a_countBefore, a_ways, a_minesIn)) : wpX_applyRule1 post (f_shown, f_total, f_knownMined, f_knownFree, f_lastKind, f_listed, f_count, f_numbers, f_countedCell, f_countedMines, f_counted, a_around, a_clueOf, a_kindOf, a_cluesOf, a_sizes, a_clueList, a_missing, a_room, a_links, a_laterRoom, a_linkEnd, a_taken, a_most, a_countBefore, a_ways, a_minesIn) := by
  refine loop_0 (σ := Int32 × Int32) (fun n i s => wX_applyRule1_2 post n (nI i) f_shown f_total s.1 s.2 f_lastKind f_listed f_count f_numbers f_countedCell f_countedMines f_counted a_around a_clueOf a_kindOf a_cluesOf a_sizes a_clueList a_missing a_room a_links a_laterRoom a_linkEnd a_taken a_most a_countBefore a_ways a_minesIn)
    (fun i s => mu_I f_shown ac p s.1 s.2 ∧ mu_Sub f_knownMined f_knownFree s.1 s.2 ∧ (s.1 = f_knownMined → s.2 = f_knownFree → ∀ d, d < i → ml_c1 mu_N (mu_v f_shown) (mu_k ac) (bt f_knownMined) (bt f_knownFree) d)) 20 (f_knownMined, f_knownFree)
    ⟨hI, mu_Sub0 _ _, fun _ _ d hd => by omega⟩ (fun n s hs => ?_) (fun n i s hi hs hk => ?_)
  · exact br_t (nI_le (a := 20) (by omega) (by omega)) (h1 s.1 s.2 hs.1 hs.2.1 hs.2.2)
  · obtain ⟨M, F⟩ := s
    obtain ⟨q1, q2, q3⟩ := hs
    dsimp only at q1 q2 q3
    refine br_f (mx_20 hi) (mx_has (by omega) (fun hb => br_f mx_10 ?_) (fun hb => br_t rfl (nm_r (nI_1 i) (hk (M, F) ⟨q1, q2, fun e1 e2 d hd => ?_⟩))))
    · obtain ⟨r1, r2⟩ := mu_r1 q1 hi hb
      refine mx_opn hA hi (mx_left hC hX hA hi hb (fun x hx => mx_settle (mu_ol hi) hx (fun z => br_t rfl (h0 _ _ (r1 z))) (fun z1 z2 => br_f mx_10 (nm_r (nI_1 i) (hk (mu_nM (ml_lf mu_N (mu_k ac) (bt M) i) (mu_o f_shown M F i) M, mu_nF (ml_lf mu_N (mu_k ac) (bt M) i) (mu_o f_shown M F i) F) ⟨?_, ?_, ?_⟩)))))
      · exact (r2 z1 z2).1
      · exact mu_SubT q2 (r2 z1 z2).2.1
      · intro e1 e2 d hd
        have s1 : mu_Sub M F f_knownMined f_knownFree := by
          have := (r2 z1 z2).2.1
          dsimp only at e1 e2
          rw [e1, e2] at this
          exact this
        obtain ⟨g1, g2⟩ := mu_SubA hI.2.1 hI.2.2 q1.2.1 q1.2.2 q2 s1
        rcases Nat.lt_or_ge d i with y | y
        · exact q3 g1 g2 d y
        · have : d = i := by omega
          subst this
          dsimp only at e1 e2
          have := (r2 z1 z2).2.2 (e1.trans g1.symm) (e2.trans g2.symm)
          rw [← g1, ← g2]
          exact this
    · rcases Nat.lt_or_ge d i with y | y
      · exact q3 e1 e2 d y
      · have : d = i := by omega
        subst this
        intro z
        rw [mu_v, hb] at z
        cases z
/-- while b runs, the undecided cells of a and what is left for it stay -/
theorem mx_keep {S : Int32} {M F Z : Int32} {a b : Nat} (hZ : ∀ x, x < 20 → bt Z x = ml_ot mu_N (mu_v S) (bt M) (bt F) a b x) (l : Int) :
    (∀ x, x < 20 → ml_op mu_N (mu_v S) (bt (mu_nM l Z M)) (bt (mu_nF l Z F)) a x = ml_op mu_N (mu_v S) (bt M) (bt F) a x) ∧ (∀ k, ml_lf mu_N k (bt (mu_nM l Z M)) a = ml_lf mu_N k (bt M) a) := by
  have key : ∀ x, x < 20 → bt Z x = true → mu_N a x = false := by
    intro x hx hz
    rw [hZ x hx] at hz
    simp only [ml_ot, ml_op] at hz
    cases h : mu_N a x
    · rfl
    · cases h1 : mu_v S x <;> cases h2 : bt M x <;> cases h3 : bt F x <;> simp [h, h1, h2, h3] at hz
  have hM : ∀ x, x < 20 → (mu_N a x && bt (mu_nM l Z M) x) = (mu_N a x && bt M x) := by
    intro x hx
    unfold mu_nM
    split
    · rfl
    · split
      · rw [b_or]
        cases hz : bt Z x
        · simp
        · rw [key x hx hz]; simp
      · rfl
  have hF : ∀ x, x < 20 → (mu_N a x && bt (mu_nF l Z F) x) = (mu_N a x && bt F x) := by
    intro x hx
    unfold mu_nF
    split
    · rw [b_or]
      cases hz : bt Z x
      · simp
      · rw [key x hx hz]; simp
    · rfl
  refine ⟨fun x hx => ?_, fun k => ?_⟩
  · have e1 := hM x hx
    have e2 := hF x hx
    simp only [ml_op]
    cases h : mu_N a x
    · simp
    · rw [h] at e1 e2
      simp only [Bool.true_and] at e1 e2 ⊢
      rw [e1, e2]
  · simp only [ml_lf]
    rw [mb_eq hM]
theorem mx_rule2b (hC : mr_C f_shown ac) (hX : mr_X f_shown ac a_clueOf) (hA : mr_A a_around) {a : Nat} (ha : a < 20) (hsa : bt f_shown a = true) (hI : mu_I f_shown ac true f_knownMined f_knownFree) {post : Int32 → SX → Prop} {J : Int32 → Int32 → Int32 → Int32 → Int32 → Int32 → Int32 → Int32 → Int32 → Int32 → Int32 → Int32 → (Nat → Int32) → (Nat → Int32) → (Nat → Int32) → (Nat → Int32) → (Nat → Int32) → (Nat → Int32) → (Nat → Int32) → (Nat → Int32) → (Nat → Int32) → (Nat → Int32) → (Nat → Int32) → (Nat → Int32) → (Nat → Int32) → (Nat → Int32) → (Nat → Int32) → (Nat → Int32) → Prop} {xl : Int32} (hl : xl.toInt = ml_lf mu_N (mu_k ac) (bt f_knownMined) a)
    (h0 : ∀ M F, ¬ mu_G f_shown ac true → post 0 (f_shown, f_total, M, F, f_lastKind, f_listed, f_count, f_numbers, f_countedCell, f_countedMines, f_counted, a_around, a_clueOf, a_kindOf, a_cluesOf, a_sizes, a_clueList, a_missing, a_room, a_links, a_laterRoom, a_linkEnd, a_taken, a_most, a_countBefore, a_ways, a_minesIn))
    (h1 : ∀ M F, mu_I f_shown ac true M F → mu_Sub f_knownMined f_knownFree M F → (M = f_knownMined → F = f_knownFree → ∀ b, b < 20 → ml_c2 mu_N (mu_v f_shown) (mu_k ac) (bt f_knownMined) (bt f_knownFree) a b) → J (nI (a + 1)) f_shown f_total M F f_lastKind f_listed f_count f_numbers f_countedCell f_countedMines f_counted a_around a_clueOf a_kindOf a_cluesOf a_sizes a_clueList a_missing a_room a_links a_laterRoom a_linkEnd a_taken a_most a_countBefore a_ways a_minesIn) :
    ∃ n, wX_applyRule2_45 post J (nI a) (mu_o f_shown f_knownMined f_knownFree a) xl n 0 f_shown f_total f_knownMined f_knownFree f_lastKind f_listed f_count f_numbers f_countedCell f_countedMines f_counted a_around a_clueOf a_kindOf a_cluesOf a_sizes a_clueList a_missing a_room a_links a_laterRoom a_linkEnd a_taken a_most a_countBefore a_ways a_minesIn := by
  refine loop_0 (σ := Int32 × Int32) (fun n i s => wX_applyRule2_45 post J (nI a) (mu_o f_shown f_knownMined f_knownFree a) xl n (nI i) f_shown f_total s.1 s.2 f_lastKind f_listed f_count f_numbers f_countedCell f_countedMines f_counted a_around a_clueOf a_kindOf a_cluesOf a_sizes a_clueList a_missing a_room a_links a_laterRoom a_linkEnd a_taken a_most a_countBefore a_ways a_minesIn)
    (fun i s => mu_I f_shown ac true s.1 s.2 ∧ mu_Sub f_knownMined f_knownFree s.1 s.2 ∧ (∀ x, x < 20 → ml_op mu_N (mu_v f_shown) (bt s.1) (bt s.2) a x = ml_op mu_N (mu_v f_shown) (bt f_knownMined) (bt f_knownFree) a x) ∧ ml_lf mu_N (mu_k ac) (bt s.1) a = ml_lf mu_N (mu_k ac) (bt f_knownMined) a ∧
      (s.1 = f_knownMined → s.2 = f_knownFree → ∀ b, b < i → ml_c2 mu_N (mu_v f_shown) (mu_k ac) (bt f_knownMined) (bt f_knownFree) a b)) 20 (f_knownMined, f_knownFree)
    ⟨hI, mu_Sub0 _ _, fun _ _ => rfl, rfl, fun _ _ d hd => by omega⟩ (fun n s hs => ?_) (fun n i s hi hs hk => ?_)
  · exact br_t (nI_le (a := 20) (by omega) (by omega)) (nm_r (nI_1 a) (h1 s.1 s.2 hs.1 hs.2.1 hs.2.2.2.2))
  · obtain ⟨M, F⟩ := s
    obtain ⟨q1, q2, q3, q4, q5⟩ := hs
    dsimp only at q1 q2 q3 q4 q5
    have skip : (∀ (_ : M = f_knownMined) (_ : F = f_knownFree), ml_c2 mu_N (mu_v f_shown) (mu_k ac) (bt f_knownMined) (bt f_knownFree) a i) → wX_applyRule2_45 post J (nI a) (mu_o f_shown f_knownMined f_knownFree a) xl n (nI (i + 1)) f_shown f_total M F f_lastKind f_listed f_count f_numbers f_countedCell f_countedMines f_counted a_around a_clueOf a_kindOf a_cluesOf a_sizes a_clueList a_missing a_room a_links a_laterRoom a_linkEnd a_taken a_most a_countBefore a_ways a_minesIn := by
      intro hc
      refine hk (M, F) ⟨q1, q2, q3, q4, fun e1 e2 b hb => ?_⟩
      rcases Nat.lt_or_ge b i with y | y
      · exact q5 e1 e2 b y
      · have : b = i := by omega
        subst this
        exact hc e1 e2
    refine br_f (mx_20 hi) (br_c (fun z => nm_r (nI_1 i) (skip (fun _ _ hne => ?_))) (fun z => ?_))
    · exact absurd ((nI_eq (by omega) (by omega)).mp z).symm hne
    · have hne : a ≠ i := fun y => z (by rw [y])
      refine mx_has (by omega) (fun hb => br_f mx_10 ⟨vp_in_nI hi (by omega), ?_⟩) (fun hb => br_t rfl (nm_r (nI_1 i) (skip (fun _ _ _ _ hv => ?_))))
      · rw [nI_clamp (by omega), hA i hi]
        have bits : ∀ x, x < 20 → bt (mu_o f_shown f_knownMined f_knownFree a &&& (me_t i ^^^ (-1))) x = (ml_op mu_N (mu_v f_shown) (bt M) (bt F) a x && !mu_N i x) := fun x hx => by
          rw [b_and, mr_not _ (by omega), mu_ob hx, q3 x hx]; rfl
        have l0 : me_lo (mu_o f_shown f_knownMined f_knownFree a &&& (me_t i ^^^ (-1))) := mr_andl (mu_ol ha) _
        refine br_c (fun y => ?_) (fun y => nm_r (nI_1 i) (skip (fun e1 e2 _ _ _ hinc => ?_)))
        · have hinc : ml_inc mu_N (mu_v f_shown) (bt M) (bt F) a i := by
            intro x hx ho
            have := bits x hx
            rw [y, b_0, ho, Bool.true_and] at this
            have hN : mu_N i x = true := by simpa using this.symm
            simp only [ml_op, Bool.and_eq_true] at ho ⊢
            exact ⟨⟨⟨hN, ho.1.1.2⟩, ho.1.2⟩, ho.2⟩
          refine mx_opn hA hi ?_
          have hZ : ∀ x, x < 20 → bt (mu_o f_shown M F i &&& (mu_o f_shown f_knownMined f_knownFree a ^^^ (-1))) x = ml_ot mu_N (mu_v f_shown) (bt M) (bt F) a i x := fun x hx => by
            rw [b_and, mr_not _ (by omega), mu_ob hx, mu_ob hx, ← q3 x hx]; rfl
          have lZ : me_lo (mu_o f_shown M F i &&& (mu_o f_shown f_knownMined f_knownFree a ^^^ (-1))) := mr_andl (mu_ol hi) _
          refine nm_e (mx_left hC hX hA hi hb (fun x hx => nm_e ?_))
          have hlv : (x - xl).toInt = ml_lf mu_N (mu_k ac) (bt M) i - ml_lf mu_N (mu_k ac) (bt M) a := by
            rw [Int32.toInt_sub, hx, hl, ← q4]
            obtain ⟨n1, hn1, en1⟩ := (hC.2 i hi).1 hb
            obtain ⟨n2, hn2, en2⟩ := (hC.2 a ha).1 hsa
            have g1 := mb_le (fun x => mu_N i x && bt M x) 20
            have g2 := mb_le (fun x => mu_N a x && bt M x) 20
            have k1 : mu_k ac i = (n1 : Int) := by rw [mu_k, en1, nI_toInt (by omega)]
            have k2 : mu_k ac a = (n2 : Int) := by rw [mu_k, en2, nI_toInt (by omega)]
            simp only [ml_lf, k1, k2]
            exact Int.bmod_eq_of_le (by omega) (by omega)
          obtain ⟨r1, r2⟩ := mu_r2 q1 ha hi hne hsa hb hinc lZ hZ hlv
          obtain ⟨kp1, kp2⟩ := mx_keep hZ ((x - xl).toInt)
          refine mx_settle lZ rfl (fun z => br_t rfl (h0 _ _ (r1 z))) (fun z1 z2 => br_f mx_10 (nm_r (nI_1 i) (hk (mu_nM (x - xl).toInt (mu_o f_shown M F i &&& (mu_o f_shown f_knownMined f_knownFree a ^^^ (-1))) M, mu_nF (x - xl).toInt (mu_o f_shown M F i &&& (mu_o f_shown f_knownMined f_knownFree a ^^^ (-1))) F) ⟨(r2 z1 z2).1, mu_SubT q2 (r2 z1 z2).2.1, fun x hx => (kp1 x hx).trans (q3 x hx), (kp2 _).trans q4, ?_⟩)))
          intro e1 e2 d hd
          dsimp only at e1 e2
          have s1 : mu_Sub M F f_knownMined f_knownFree := by
            have := (r2 z1 z2).2.1
            rw [e1, e2] at this
            exact this
          obtain ⟨g1, g2⟩ := mu_SubA hI.2.1 hI.2.2 q1.2.1 q1.2.2 q2 s1
          rcases Nat.lt_or_ge d i with y | y
          · exact q5 g1 g2 d y
          · have : d = i := by omega
            subst this
            have := (r2 z1 z2).2.2 (e1.trans g1.symm) (e2.trans g2.symm)
            rw [← g1, ← g2]
            exact this
        · refine absurd ((me_0 l0).mpr (fun x hx => ?_)) y
          rw [bits x hx, e1, e2]
          cases ho : ml_op mu_N (mu_v f_shown) (bt f_knownMined) (bt f_knownFree) a x
          · rfl
          · have := hinc x hx ho
            simp only [ml_op, Bool.and_eq_true] at this
            rw [this.1.1.1]; rfl
      · rw [mu_v, hb] at hv
        cases hv
theorem mx_rule2 (hC : mr_C f_shown ac) (hX : mr_X f_shown ac a_clueOf) (hA : mr_A a_around) (hI : mu_I f_shown ac true f_knownMined f_knownFree) {post : Int32 → SX → Prop}
    (h0 : ∀ M F, ¬ mu_G f_shown ac true → post 0 (f_shown, f_total, M, F, f_lastKind, f_listed, f_count, f_numbers, f_countedCell, f_countedMines, f_counted, a_around, a_clueOf, a_kindOf, a_cluesOf, a_sizes, a_clueList, a_missing, a_room, a_links, a_laterRoom, a_linkEnd, a_taken, a_most, a_countBefore, a_ways, a_minesIn))
    (h1 : ∀ M F, mu_I f_shown ac true M F → mu_Sub f_knownMined f_knownFree M F → (M = f_knownMined → F = f_knownFree → ∀ a, a < 20 → mu_o f_shown f_knownMined f_knownFree a ≠ 0 → ∀ b, b < 20 → ml_c2 mu_N (mu_v f_shown) (mu_k ac) (bt f_knownMined) (bt f_knownFree) a b) → post 1 (f_shown, f_total, M, F, f_lastKind, f_listed, f_count, f_numbers, f_countedCell, f_countedMines, f_counted, a_around, a_clueOf, a_kindOf, a_cluesOf, a_sizes, a_clueList, a_missing, a_room, a_links, a_laterRoom, a_linkEnd, a_taken, a_most, a_countBefore, a_ways, a_minesIn)) : wpX_applyRule2 post (f_shown, f_total, f_knownMined, f_knownFree, f_lastKind, f_listed, f_count, f_numbers, f_countedCell, f_countedMines, f_counted, a_around, a_clueOf, a_kindOf, a_cluesOf, a_sizes, a_clueList, a_missing, a_room, a_links, a_laterRoom, a_linkEnd, a_taken, a_most, a_countBefore, a_ways, a_minesIn) := by
  refine loop_0 (σ := Int32 × Int32) (fun n i s => wX_applyRule2_2 post n (nI i) f_shown f_total s.1 s.2 f_lastKind f_listed f_count f_numbers f_countedCell f_countedMines f_counted a_around a_clueOf a_kindOf a_cluesOf a_sizes a_clueList a_missing a_room a_links a_laterRoom a_linkEnd a_taken a_most a_countBefore a_ways a_minesIn)
    (fun i s => mu_I f_shown ac true s.1 s.2 ∧ mu_Sub f_knownMined f_knownFree s.1 s.2 ∧ (s.1 = f_knownMined → s.2 = f_knownFree → ∀ a, a < i → mu_o f_shown f_knownMined f_knownFree a ≠ 0 → ∀ b, b < 20 → ml_c2 mu_N (mu_v f_shown) (mu_k ac) (bt f_knownMined) (bt f_knownFree) a b)) 20 (f_knownMined, f_knownFree)
    ⟨hI, mu_Sub0 _ _, fun _ _ d hd => by omega⟩ (fun n s hs => ?_) (fun n i s hi hs hk => ?_)
  · exact br_t (nI_le (a := 20) (by omega) (by omega)) (h1 s.1 s.2 hs.1 hs.2.1 hs.2.2)
  · obtain ⟨M, F⟩ := s
    obtain ⟨q1, q2, q3⟩ := hs
    dsimp only at q1 q2 q3
    have skip : (∀ (_ : M = f_knownMined) (_ : F = f_knownFree), mu_o f_shown f_knownMined f_knownFree i ≠ 0 → ∀ b, b < 20 → ml_c2 mu_N (mu_v f_shown) (mu_k ac) (bt f_knownMined) (bt f_knownFree) i b) → wX_applyRule2_2 post n (nI (i + 1)) f_shown f_total M F f_lastKind f_listed f_count f_numbers f_countedCell f_countedMines f_counted a_around a_clueOf a_kindOf a_cluesOf a_sizes a_clueList a_missing a_room a_links a_laterRoom a_linkEnd a_taken a_most a_countBefore a_ways a_minesIn := by
      intro hc
      refine hk (M, F) ⟨q1, q2, fun e1 e2 a ha => ?_⟩
      rcases Nat.lt_or_ge a i with y | y
      · exact q3 e1 e2 a y
      · have : a = i := by omega
        subst this
        exact hc e1 e2
    refine br_f (mx_20 hi) (mx_has (by omega) (fun hb => br_f mx_10 (mx_opn hA hi ?_)) (fun hb => br_t rfl (br_t rfl (nm_r (nI_1 i) (skip (fun _ _ _ b _ _ hv => ?_))))))
    · refine br_c (fun z => nm_r (nI_1 i) (skip (fun e1 e2 hne => ?_))) (fun z => ?_)
      · rw [e1, e2] at z
        exact absurd z hne
      · refine mx_left hC hX hA hi hb (fun x hx => ?_)
        refine mx_rule2b hC hX hA hi hb q1 hx h0 (fun M' F' g1 g2 g3 => hk (M', F') ⟨g1, mu_SubT q2 g2, fun e1 e2 a ha hne b hb2 => ?_⟩)
        dsimp only at e1 e2
        have s1 : mu_Sub M F f_knownMined f_knownFree := by rw [e1, e2] at g2; exact g2
        obtain ⟨t1, t2⟩ := mu_SubA hI.2.1 hI.2.2 q1.2.1 q1.2.2 q2 s1
        rcases Nat.lt_or_ge a i with y | y
        · exact q3 t1 t2 a y hne b hb2
        · have : a = i := by omega
          subst this
          have := g3 (e1.trans t1.symm) (e2.trans t2.symm) b hb2
          rw [← t1, ← t2]
          exact this
    · rw [mu_v, hb] at hv
      cases hv
theorem mx_rules (hC : mr_C f_shown ac) (hX : mr_X f_shown ac a_clueOf) (hA : mr_A a_around) {post : Int32 → SX → Prop} (p : Bool) {x1 : Int32} (hp : (p = true ∧ x1 = 1) ∨ (p = false ∧ x1 = 0))
    (h0 : ∀ M F, ml_S mu_N (mu_v f_shown) (mu_k ac) p false (bt M) (bt F) → post 0 (f_shown, f_total, M, F, f_lastKind, f_listed, f_count, f_numbers, f_countedCell, f_countedMines, f_counted, a_around, a_clueOf, a_kindOf, a_cluesOf, a_sizes, a_clueList, a_missing, a_room, a_links, a_laterRoom, a_linkEnd, a_taken, a_most, a_countBefore, a_ways, a_minesIn))
    (h1 : ∀ M F, me_lo M → me_lo F → ml_S mu_N (mu_v f_shown) (mu_k ac) p true (bt M) (bt F) → post 1 (f_shown, f_total, M, F, f_lastKind, f_listed, f_count, f_numbers, f_countedCell, f_countedMines, f_counted, a_around, a_clueOf, a_kindOf, a_cluesOf, a_sizes, a_clueList, a_missing, a_room, a_links, a_laterRoom, a_linkEnd, a_taken, a_most, a_countBefore, a_ways, a_minesIn)) : wpX_applyRules post (f_shown, f_total, f_knownMined, f_knownFree, f_lastKind, f_listed, f_count, f_numbers, f_countedCell, f_countedMines, f_counted, a_around, a_clueOf, a_kindOf, a_cluesOf, a_sizes, a_clueList, a_missing, a_room, a_links, a_laterRoom, a_linkEnd, a_taken, a_most, a_countBefore, a_ways, a_minesIn) x1 := by
  refine loop_0 (σ := Int32 × Int32) (fun n i s => wX_applyRules_12 post x1 n (nI i) f_shown f_total s.1 s.2 f_lastKind f_listed f_count f_numbers f_countedCell f_countedMines f_counted a_around a_clueOf a_kindOf a_cluesOf a_sizes a_clueList a_missing a_room a_links a_laterRoom a_linkEnd a_taken a_most a_countBefore a_ways a_minesIn)
    (fun i s => mu_I f_shown ac p s.1 s.2 ∧ i ≤ mu_c s.1 s.2) 21 (0, 0) ⟨mu_I0 _ _ _, Nat.zero_le _⟩ (fun n s hs => ?_) (fun n i s hi hs hk => ?_)
  · have := mu_c20 (s.1 ||| s.2)
    have h2 := hs.2
    simp only [mu_c] at h2
    omega
  · obtain ⟨M, F⟩ := s
    obtain ⟨q1, q2⟩ := hs
    dsimp only at q1 q2
    have last : ∀ M' F', mu_I f_shown ac p M' F' → mu_Sub M F M' F' → (M' = M → F' = F → ml_S mu_N (mu_v f_shown) (mu_k ac) p true (bt M) (bt F)) → wX_applyRules_48 post (wX_applyRules_12 post x1 n) x1 (nI i) (M ||| F) f_shown f_total M' F' f_lastKind f_listed f_count f_numbers f_countedCell f_countedMines f_counted a_around a_clueOf a_kindOf a_cluesOf a_sizes a_clueList a_missing a_room a_links a_laterRoom a_linkEnd a_taken a_most a_countBefore a_ways a_minesIn := by
      intro M' F' g1 g2 g3
      refine br_c (fun z => ?_) (fun z => nm_r (nI_1 i) (hk (M', F') ⟨g1, ?_⟩))
      · obtain ⟨e1, e2⟩ := mu_eqor q1 g1 g2 z
        have := g3 e1 e2
        rw [← e1, ← e2] at this
        exact h1 _ _ g1.2.1 g1.2.2 this
      · have := mu_lt q1 g1 g2 z
        show i + 1 ≤ mu_c M' F'
        omega
    refine br_f (nI_nlt (a := 20) (by omega) (by omega)) (nm_e (mx_rule1 hC hX hA q1 (fun M' F' hb => br_t rfl (h0 _ _ (mu_bad hb))) (fun M' F' g1 g2 g3 => br_f mx_10 ?_)))
    rcases hp with ⟨rfl, rfl⟩ | ⟨rfl, rfl⟩
    · refine br_f mx_10 (mx_rule2 hC hX hA g1 (fun M2 F2 hb => br_t rfl (h0 _ _ (mu_bad hb))) (fun M2 F2 k1 k2 k3 => br_f mx_10 (last M2 F2 k1 (mu_SubT g2 k2) (fun e1 e2 => ?_))))
      have s1 : mu_Sub M' F' M F := by rw [e1, e2] at k2; exact k2
      obtain ⟨t1, t2⟩ := mu_SubA q1.2.1 q1.2.2 g1.2.1 g1.2.2 g2 s1
      have c1 := g3 t1 t2
      refine mu_fin q1 c1 (fun _ a b ha hb => ?_)
      by_cases ho : mu_o f_shown M F a = 0
      · exact mu_c2e c1 ha hb ho
      · have := k3 (e1.trans t1.symm) (e2.trans t2.symm) a ha (by rw [t1, t2]; exact ho) b hb
        rw [t1, t2] at this
        exact this
    · exact br_t rfl (last M' F' g1 g2 (fun e1 e2 => mu_fin q1 (g3 e1 e2) (fun z => by cases z)))
end
