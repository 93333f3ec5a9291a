/-! the reference's search -/
theorem my_cnt (t : Nat → Bool) : ∀ (l : List Nat), l.Nodup → (∀ e, e ∈ l → e < 20) → mb_cn (fun j => t j && decide (j ∈ l)) 20 = l.countP t
  | [], _, _ => by
    rw [mb_of0 (fun i _ => by simp)]
    rfl
  | e :: l, nd, h => by
    rw [List.nodup_cons] at nd
    have ih := my_cnt t l nd.2 (fun x hx => h x (by simp [hx]))
    rw [List.countP_cons, ← ih]
    by_cases z : t e = true
    · rw [if_pos z]
      refine mb_one (a := e) ?_ ?_ (h e (by simp)) (fun i _ hn => ?_)
      · simp [nd.1]
      · simp [z]
      · simp [hn]
    · rw [if_neg z, Nat.add_zero]
      refine mb_eq (fun i _ => ?_)
      by_cases y : i = e
      · subst y
        have : t i = false := by simpa using z
        simp [this]
      · simp [y]
/-- the reference's list of edge cells -/
def my_Ed (E : List Nat) (ec : Int32) (ae : Nat → Int32) : Prop := ec = nI E.length ∧ E.length ≤ 20 ∧ E.Nodup ∧ (∀ e, e ∈ E → e < 20) ∧ ∀ i e, E[i]? = some e → ae i = nI e
def my_ok (S : Int32) (ac : Nat → Int32) (M : Int32) (es : List Nat) : Prop := ∀ q, q < 20 → bt S q = true → (me_c (me_t q &&& M) : Int) ≤ mu_k ac q ∧ mu_k ac q ≤ (me_c (me_t q &&& M) : Int) + (my_n q es : Int)
section
variable {f_total f_edgeCount f_coveredCount f_known f_sureMines f_sureFree : Int32} {a_clues a_around a_edge a_found a_foundWith : Nat → Int32}
variable {S : Int32} {E : List Nat}
theorem my_can (hC : mr_C S a_clues) (hA : mr_A a_around) (hE : my_Ed E f_edgeCount a_edge) {M : Int32} (hM : me_lo M) {d : Nat} (hd : d ≤ E.length) {post : Int32 → Prop} (h1 : my_ok S a_clues M (E.drop d) → post 1)
    (h0 : ¬ my_ok S a_clues M (E.drop d) → post 0) : wpY_canBe post (f_total, f_edgeCount, f_coveredCount, f_known, f_sureMines, f_sureFree, a_clues, a_around, a_edge, a_found, a_foundWith) M (nI d) := by
  obtain ⟨rfl, hl, hn, h20, hae⟩ := hE
  refine pk_loop (σ := Int32) (fun n i x => wY_canBe_5 post M f_total (nI E.length) f_coveredCount f_known f_sureMines f_sureFree a_clues a_around a_edge a_found a_foundWith n x (nI i)) (fun i x => (me_lo x ∧ ∀ j, j < 20 → (bt x j = true ↔ ∃ t, d ≤ t ∧ t < i ∧ E[t]? = some j)) ∧ d ≤ i) E.length d 0 hd ⟨⟨mr_0l, fun j _ => ⟨fun z => (by rw [b_0] at z; cases z), fun ⟨t, h1, h2, _⟩ => (by omega)⟩⟩, Nat.le_refl d⟩ (fun n x hx => ?_) (fun n i x hi hx hk => ?_)
  · refine br_t (nI_le (Nat.le_refl _) (by omega)) ?_
    have ec : ∀ q, q < 20 → me_c (me_t q &&& x) = my_n q (E.drop d) := by
      intro q hq
      rw [my_n, ← my_cnt (bt (me_t q)) (E.drop d) (hn.sublist (List.drop_sublist d E)) (fun e he => h20 e (List.mem_of_mem_drop he))]
      refine mb_eq (fun j hj => ?_)
      rw [b_and]
      congr 1
      have iff1 := hx.1.2 j hj
      have iff2 : j ∈ E.drop d ↔ ∃ t, d ≤ t ∧ t < E.length ∧ E[t]? = some j := by
        rw [List.mem_iff_getElem?]
        constructor
        · rintro ⟨t, ht⟩
          rw [List.getElem?_drop] at ht
          exact ⟨d + t, by omega, (List.getElem?_eq_some_iff.mp ht).1, ht⟩
        · rintro ⟨t, h1, h2, h3⟩
          refine ⟨t - d, ?_⟩
          rw [List.getElem?_drop, show d + (t - d) = t by omega]
          exact h3
      cases hb : bt x j
      · symm
        rw [decide_eq_false_iff_not, iff2, ← iff1, hb]
        simp
      · symm
        rw [decide_eq_true_iff, iff2, ← iff1, hb]
    refine loop_0 (σ := Unit) (fun n i _ => wY_canBe_35 post M x f_total (nI E.length) f_coveredCount f_known f_sureMines f_sureFree a_clues a_around a_edge a_found a_foundWith n (nI i)) (fun i _ => ∀ q, q < i → bt S q = true → (me_c (me_t q &&& M) : Int) ≤ mu_k a_clues q ∧ mu_k a_clues q ≤ (me_c (me_t q &&& M) : Int) + (my_n q (E.drop d) : Int)) 20 () (fun q hq => by omega) (fun n s hs => ?_) (fun n i s hi hs hk => ?_)
    · exact br_t (nI_le (a := 20) (by omega) (by omega)) (h1 hs)
    · have vi := vp_in_nI hi (N := 20) (by omega)
      refine br_f (mx_20 hi) ⟨vi, ?_⟩
      rw [nI_clamp (by omega), hA i hi]
      refine my_bits (mr_andl (mr_tl hi) _) ⟨vi, ?_⟩
      have c1 := mu_c20 (me_t i &&& M)
      have c2 := mu_c20 (me_t i &&& x)
      cases hb : bt S i
      · refine br_t (mr_lt hC hi hb) (br_f mx_10 (nm_r (nI_1 i) (hk () (fun q hq hs' => ?_))))
        rcases Nat.lt_or_ge q i with y | y
        · exact hs q y hs'
        · have : q = i := by omega
          subst this
          rw [hb] at hs'; cases hs'
      · obtain ⟨k, hk8, ek⟩ := (hC.2 i hi).1 hb
        have km : mu_k a_clues i = (k : Int) := by rw [mu_k, ek, nI_toInt (by omega)]
        have bad : (k < me_c (me_t i &&& M) ∨ me_c (me_t i &&& M) + me_c (me_t i &&& x) < k) → post 0 := fun z => h0 (fun y => by
          have := y i hi hb
          rw [km, ← ec i hi] at this
          omega)
        refine br_f (mr_nlt hC hi hb) ⟨vi, ?_⟩
        rw [ek]
        refine pk_lt k (me_c (me_t i &&& M)) (fun z => br_t rfl (bad (Or.inl z))) (fun z => ⟨vi, ?_⟩)
        refine my_bits (mr_andl (mr_tl hi) _) ⟨vi, ?_⟩
        rw [nI_add]
        refine pk_lt (me_c (me_t i &&& M) + me_c (me_t i &&& x)) k (fun z => br_t rfl (bad (Or.inr z))) (fun z => br_f mx_10 (nm_r (nI_1 i) (hk () (fun q hq hs' => ?_))))
        rcases Nat.lt_or_ge q i with y | y
        · exact hs q y hs'
        · have : q = i := by omega
          subst this
          rw [km, ← ec q hi]
          omega
  · have hi' : E[i]? = some E[i] := List.getElem?_eq_getElem hi
    have e20 : E[i] < 20 := h20 _ (List.getElem_mem hi)
    refine br_f (nI_ge hi (by omega)) ⟨vp_in_nI (by omega) (by omega), nm_r (e' := x ||| my_bit E[i]) ?_ (nm_r (nI_1 i) (hk _ ⟨⟨mr_orl hx.1.1 (my_bitlo e20), fun j hj => ?_⟩, Nat.le_succ_of_le hx.2⟩))⟩
    · rw [nI_clamp (by omega), hae i _ hi']; rfl
    · rw [b_or, my_bitb (by omega), Bool.or_eq_true, hx.1.2 j hj, decide_eq_true_iff]
      constructor
      · rintro (⟨t, h1, h2, h3⟩ | h)
        · exact ⟨t, h1, by omega, h3⟩
        · exact ⟨i, hx.2, by omega, by rw [h]; exact hi'⟩
      · rintro ⟨t, h1, h2, h3⟩
        rcases Nat.lt_or_ge t i with y | y
        · exact Or.inl ⟨t, h1, y, h3⟩
        · have : t = i := by omega
          subst this
          rw [hi'] at h3
          exact Or.inr (Option.some.inj h3).symm
/-- one set noted -/
def my_fw (M : Int32) : List Nat → (Nat → Int32) → (Nat → Int32)
  | [], f => f
  | e :: es, f => my_fw M es (upd f (21 * e + me_c M) (f (21 * e + me_c M) + (if bt M e = true then 1 else 0)))
theorem my_fws (M : Int32) : ∀ (l : List Nat) (e : Nat) (f : Nat → Int32), my_fw M (l ++ [e]) f = upd (my_fw M l f) (21 * e + me_c M) (my_fw M l f (21 * e + me_c M) + (if bt M e = true then 1 else 0))
  | [], e, f => rfl
  | a :: l, e, f => by rw [List.cons_append, my_fw, my_fws M l e, my_fw]
theorem my_fwn {M : Int32} : ∀ (l : List Nat) (f : Nat → Int32) (c m : Nat), m < 21 → c ∉ l → my_fw M l f (21 * c + m) = f (21 * c + m)
  | [], f, c, m, _, _ => rfl
  | e :: l, f, c, m, hm, h => by
    simp only [List.mem_cons, not_or] at h
    have hc := mu_c20 M
    rw [my_fw, my_fwn l _ c m hm h.2, pk_un (by omega)]
theorem my_fwv {M : Int32} : ∀ (l : List Nat) (f : Nat → Int32) (c m : Nat), m < 21 → c ∈ l → l.Nodup → my_fw M l f (21 * c + m) = f (21 * c + m) + nI (if m = me_c M ∧ bt M c = true then 1 else 0)
  | [], f, c, m, _, h, _ => by simp at h
  | e :: l, f, c, m, hm, h, nd => by
    rw [List.nodup_cons] at nd
    have hc := mu_c20 M
    by_cases z : c = e
    · subst z
      rw [my_fw, my_fwn l _ c m hm nd.1]
      by_cases y : m = me_c M
      · subst y
        rw [pk_us]
        by_cases x : bt M c = true
        · simp only [x, and_self, if_true]; rfl
        · simp only [x, and_false, if_false]; rfl
      · rw [pk_un (by omega), if_neg (fun w => y w.1), nI_0, Int32.add_zero]
    · have hm' : c ∈ l := by
        rcases List.mem_cons.mp h with y | y
        · exact absurd y z
        · exact y
      rw [my_fw, my_fwv l _ c m hm hm' nd.2, pk_un (by omega)]
theorem my_note (hE : my_Ed E f_edgeCount a_edge) {M : Int32} (hM : me_lo M) {post : SY → Prop} (h : post (f_total, f_edgeCount, f_coveredCount, f_known, f_sureMines, f_sureFree, a_clues, a_around, a_edge, upd a_found (me_c M) (a_found (me_c M) + 1), my_fw M E a_foundWith)) : wpY_note post (f_total, f_edgeCount, f_coveredCount, f_known, f_sureMines, f_sureFree, a_clues, a_around, a_edge, a_found, a_foundWith) M := by
  obtain ⟨rfl, hl, hn, h20, hae⟩ := hE
  have hc := mu_c20 M
  unfold wpY_note
  refine my_bits hM ⟨vp_in_nI (by omega) (by omega), vp_in_nI (by omega) (by omega), ?_⟩
  rw [nI_clamp (by omega)]
  refine nm_e ?_
  refine loop_0 (σ := Nat → Int32) (fun n i f => wY_note_18 post M (nI (me_c M)) f_total (nI E.length) f_coveredCount f_known f_sureMines f_sureFree n (nI i) a_clues a_around a_edge (upd a_found (me_c M) (a_found (me_c M) + 1)) f) (fun i f => f = my_fw M (E.take i) a_foundWith) E.length a_foundWith rfl (fun n f hf => ?_) (fun n i f hi hf hk => ?_)
  · subst hf
    rw [List.take_length]
    exact br_t (nI_le (Nat.le_refl _) (by omega)) h
  · subst hf
    have hi' : E[i]? = some E[i] := List.getElem?_eq_getElem hi
    have e20 : E[i] < 20 := h20 _ (List.getElem_mem hi)
    have ix : (21 : Int32) * nI E[i] + nI (me_c M) = nI (21 * E[i] + me_c M) := by
      rw [show (21 : Int32) = nI 21 from rfl, pk_mul, nI_add]
    have vx : vp_in (nI (21 * E[i] + me_c M)) 420 := vp_in_nI (by omega) (by omega)
    have nx : my_fw M (E.take (i + 1)) a_foundWith = upd (my_fw M (E.take i) a_foundWith) (21 * E[i] + me_c M) (my_fw M (E.take i) a_foundWith (21 * E[i] + me_c M) + (if bt M E[i] = true then 1 else 0)) := by
      rw [← my_fws]
      congr 1
      exact List.take_succ_eq_append_getElem hi
    refine br_f (nI_ge hi (by omega)) ⟨vp_in_nI (by omega) (by omega), nm_r (e' := nI E[i]) (by rw [nI_clamp (by omega)]; exact hae i _ hi') ?_⟩
    rw [ix]
    cases hb : bt M E[i]
    · refine br_f (mx_t1' (by omega) hb) ⟨vx, vx, nm_e (nm_r (nI_1 i) (hk _ ?_))⟩
      rw [nx, hb, nI_clamp (by omega), if_neg (by simp), Int32.add_zero]
    · refine br_t (mx_t1 (by omega) hb) ⟨vx, vx, nm_e (nm_r (nI_1 i) (hk _ ?_))⟩
      rw [nx, hb, nI_clamp (by omega), if_pos rfl]
/-- the way back -/
def my_BK (post : SY → Prop) (f_total f_edgeCount f_coveredCount f_known f_sureMines f_sureFree : Int32) (a_clues a_around a_edge a_found a_foundWith : Nat → Int32) (M x2 : Int32) : Prop := ∃ n n65, wY_goThrough_65 post (wY_goThrough_6 post 1 n) 1 f_total f_edgeCount f_coveredCount f_known f_sureMines f_sureFree a_clues a_around a_edge a_found a_foundWith n65 M x2
theorem my_go (hS : me_lo S) (hC : mr_C S a_clues) (hA : mr_A a_around) (hE : my_Ed E f_edgeCount a_edge) (post : SY → Prop) : ∀ (es : List Nat) (d : Nat) (M : Int32) (fd fw : Nat → Int32), E.drop d = es → d ≤ E.length → me_lo M → (∀ e, e ∈ es → bt M e = false) →
    ∃ fd' fw' : Nat → Int32, (∀ m, m < 21 → fd' m = fd m + nI (my_A S (mu_k a_clues) es M m)) ∧ (∀ c, c ∈ E → ∀ m, m < 21 → fw' (21 * c + m) = fw (21 * c + m) + nI (my_D S (mu_k a_clues) c es M m)) ∧
      (my_BK post f_total f_edgeCount f_coveredCount f_known f_sureMines f_sureFree a_clues a_around a_edge fd' fw' M (nI d + (-1)) → ∃ n, wY_goThrough_6 post 1 n M (nI d) f_total f_edgeCount f_coveredCount f_known f_sureMines f_sureFree a_clues a_around a_edge fd fw) := by
  have hE' := hE
  obtain ⟨rfl, hl, hn, h20, hae⟩ := hE
  intro es
  induction es with
  | nil =>
    intro d M fd fw hes hd hM hf
    have hd' : d = E.length := by
      have := List.drop_eq_nil_iff.mp hes
      omega
    by_cases ok : my_ok S a_clues M (E.drop d)
    · have lf : ∀ q, q < 20 → bt S q = true → mu_k a_clues q = (me_c (me_t q &&& M) : Int) := by
        intro q hq hs
        have := ok q hq hs
        rw [hes] at this
        simp only [my_n, List.countP_nil] at this
        omega
      refine ⟨upd fd (me_c M) (fd (me_c M) + 1), my_fw M E fw, fun m hm => ?_, fun c hc m hm => ?_, fun ⟨n, n65, hb⟩ => ⟨n + 1, ?_⟩⟩
      · rw [my_A0 _ _ lf]
        by_cases z : m = me_c M
        · subst z; rw [pk_us, if_pos rfl]; rfl
        · rw [pk_un z, if_neg z, nI_0, Int32.add_zero]
      · rw [my_D0 _ _ _ lf]
        exact my_fwv E fw c m hm hc hn
      · refine br_f (nI_pos (by omega)) (br_f mx_10 (my_can hC hA hE' hM hd (fun _ => br_f mx_10 (br_f mx_10 (br_t (by rw [hd']) (my_note hE' hM (br_t rfl (nm_e ⟨n65, hb⟩)))))) (fun z => absurd ok z)))
    · have z0 : ∀ m, my_A S (mu_k a_clues) [] M m = 0 := by
        intro m
        have : ∃ q, q < 20 ∧ bt S q = true ∧ ¬ ((me_c (me_t q &&& M) : Int) ≤ mu_k a_clues q ∧ mu_k a_clues q ≤ (me_c (me_t q &&& M) : Int) + (my_n q (E.drop d) : Int)) := by
          apply Classical.byContradiction
          intro z
          refine ok (fun q hq hs => ?_)
          apply Classical.byContradiction
          intro y
          exact z ⟨q, hq, hs, y⟩
        obtain ⟨q, hq, hs, y⟩ := this
        rw [hes] at y
        exact my_Az _ hq hs (fun e he => by simp at he) (by omega) m
      refine ⟨fd, fw, fun m _ => by rw [z0 m, nI_0, Int32.add_zero], fun c _ m _ => by rw [my_Dz c (z0 m), nI_0, Int32.add_zero], fun ⟨n, n65, hb⟩ => ⟨n + 1, ?_⟩⟩
      exact br_f (nI_pos (by omega)) (br_f mx_10 (my_can hC hA hE' hM hd (fun z => absurd z ok) (fun _ => br_t rfl (br_t rfl (br_t rfl (nm_e ⟨n65, hb⟩))))))
  | cons e es ih =>
    intro d M fd fw hes hd hM hf
    have hd' : d < E.length := by
      rcases Nat.lt_or_ge d E.length with z | z
      · exact z
      · rw [List.drop_eq_nil_iff.mpr z] at hes; cases hes
    have hd2 := List.drop_eq_getElem_cons hd'
    rw [hes] at hd2
    have ee : e = E[d] := (List.cons.inj hd2).1
    have hes' : E.drop (d + 1) = es := (List.cons.inj hd2).2.symm
    have ei : E[d]? = some e := by rw [ee]; exact List.getElem?_eq_getElem hd'
    have e20 : e < 20 := by rw [ee]; exact h20 _ (List.getElem_mem hd')
    have nd : (e :: es).Nodup := by rw [← hes]; exact hn.sublist (List.drop_sublist d E)
    rw [List.nodup_cons] at nd
    have hMe : bt M e = false := hf e (by simp)
    by_cases ok : my_ok S a_clues M (E.drop d)
    · obtain ⟨fd1, fw1, a1, b1, c1⟩ := ih (d + 1) M fd fw hes' (by omega) hM (fun x hx => hf x (by simp [hx]))
      obtain ⟨fd2, fw2, a2, b2, c2⟩ := ih (d + 1) (M ||| my_bit e) fd1 fw1 hes' (by omega) (mr_orl hM (my_bitlo e20)) (fun x hx => by
        have hne : ¬ x = e := fun z => nd.1 (z ▸ hx)
        rw [b_or, hf x (by simp [hx]), my_bitb (by omega), decide_eq_false hne]; rfl)
      refine ⟨fd2, fw2, fun m hm => ?_, fun c hc m hm => ?_, fun hb => ?_⟩
      · rw [a2 m hm, a1 m hm, my_Ac hS _ _ _ e20 hMe, ← nI_add, Int32.add_assoc]
      · rw [b2 c hc m hm, b1 c hc m hm, my_Dc hS _ _ _ e20 hMe, ← nI_add, Int32.add_assoc]
      · have vd : vp_in (nI d) 20 := vp_in_nI (by omega) (by omega)
        have ed : a_edge (nI d).toNatClampNeg = nI e := by rw [nI_clamp (by omega)]; exact hae d e ei
        have hdm : nI (d + 1) + (-1) = nI d := pk_m1 d
        have back : my_BK post f_total (nI E.length) f_coveredCount f_known f_sureMines f_sureFree a_clues a_around a_edge fd2 fw2 (M ||| my_bit e) (nI (d + 1) + (-1)) := by
          obtain ⟨n, n65, hb⟩ := hb
          refine ⟨n, n65 + 1, ?_⟩
          rw [hdm]
          refine br_f (nI_pos (by omega)) ⟨vd, ?_⟩
          rw [ed]
          refine br_t (mx_t1 (by omega) (by rw [b_or, my_bitb (by omega)]; simp)) ⟨vd, nm_r (e' := M) ?_ (nm_e hb)⟩
          show (M ||| my_bit e) &&& (my_bit e ^^^ (-1)) = M
          refine b_ext (fun j hj => ?_)
          rw [b_and, b_or, mr_not _ hj, my_bitb (by omega)]
          by_cases z : j = e
          · subst z; simp [hMe]
          · simp [z]
        obtain ⟨n2, g2⟩ := c2 back
        have mid : my_BK post f_total (nI E.length) f_coveredCount f_known f_sureMines f_sureFree a_clues a_around a_edge fd1 fw1 M (nI (d + 1) + (-1)) := by
          refine ⟨n2, 1, ?_⟩
          rw [hdm]
          refine br_f (nI_pos (by omega)) ⟨vd, ?_⟩
          rw [ed]
          refine br_f (mx_t1' (by omega) hMe) (br_f (nI_pos (by omega)) ⟨vd, ?_⟩)
          rw [ed]
          exact nm_e (nm_r (nI_1 d) g2)
        obtain ⟨n1, g1⟩ := c1 mid
        refine ⟨n1 + 1, ?_⟩
        refine br_f (nI_pos (by omega)) (br_f mx_10 (my_can hC hA hE' hM hd (fun _ => br_f mx_10 (br_f mx_10 (br_f ?_ (br_f mx_10 (nm_r (nI_1 d) g1))))) (fun z => absurd ok z)))
        intro z
        have := (nI_eq (by omega) (by omega)).mp z
        omega
    · have z0 : ∀ m, my_A S (mu_k a_clues) (e :: es) M m = 0 := by
        intro m
        have : ∃ q, q < 20 ∧ bt S q = true ∧ ¬ ((me_c (me_t q &&& M) : Int) ≤ mu_k a_clues q ∧ mu_k a_clues q ≤ (me_c (me_t q &&& M) : Int) + (my_n q (E.drop d) : Int)) := by
          apply Classical.byContradiction
          intro z
          refine ok (fun q hq hs => ?_)
          apply Classical.byContradiction
          intro y
          exact z ⟨q, hq, hs, y⟩
        obtain ⟨q, hq, hs, y⟩ := this
        rw [hes] at y
        refine my_Az _ hq hs (fun x hx => ?_) (by omega) m
        rw [← hes] at hx
        exact h20 x (List.mem_of_mem_drop hx)
      refine ⟨fd, fw, fun m _ => by rw [z0 m, nI_0, Int32.add_zero], fun c _ m _ => by rw [my_Dz c (z0 m), nI_0, Int32.add_zero], fun ⟨n, n65, hb⟩ => ⟨n + 1, ?_⟩⟩
      exact br_f (nI_pos (by omega)) (br_f mx_10 (my_can hC hA hE' hM hd (fun z => absurd z ok) (fun _ => br_t rfl (br_t rfl (br_t rfl (nm_e ⟨n65, hb⟩))))))
/-- what the reference holds when its search is known -/
def mr_Y (S : Int32) (ac : Nat → Int32) (ec cc : Int32) (fd fw : Nat → Int32) : Prop := ec = nI (me_E S).length ∧ cc = nI ((me_E S).length + me_R S) ∧ (∀ m, m < 21 → fd m = nI (me_F S (mu_k ac) m)) ∧ (∀ c, c ∈ me_E S → ∀ m, m < 21 → fw (21 * c + m) = nI (me_Fc S (mu_k ac) c m))
theorem my_through (hS : me_lo S) (hC : mr_C S a_clues) (hA : mr_A a_around) (hE : my_Ed (me_E S) f_edgeCount a_edge) (hcc : f_coveredCount = nI ((me_E S).length + me_R S)) (hz : ∀ m, m < 21 → a_found m = 0) (hzw : ∀ k, k < 420 → a_foundWith k = 0) {post : SY → Prop}
    (h : ∀ fd fw, mr_Y S a_clues f_edgeCount f_coveredCount fd fw → post (f_total, f_edgeCount, f_coveredCount, f_known, f_sureMines, f_sureFree, a_clues, a_around, a_edge, fd, fw)) : wpY_goThrough post (f_total, f_edgeCount, f_coveredCount, f_known, f_sureMines, f_sureFree, a_clues, a_around, a_edge, a_found, a_foundWith) := by
  obtain ⟨fd, fw, h1, h2, h3⟩ := my_go hS hC hA hE post (me_E S) 0 0 a_found a_foundWith (by simp) (Nat.zero_le _) mr_0l (fun e _ => b_0 e)
  refine h3 ⟨1, 1, ?_⟩
  refine br_t (by decide) (br_t (by decide) (br_t (by decide) (h fd fw ⟨hE.1, hcc, fun m hm => ?_, fun c hc m hm => ?_⟩)))
  · rw [h1 m hm, hz m hm, my_A1, Int32.zero_add]
  · have := (me_E_mem.mp hc).1
    rw [h2 c hc m hm, hzw _ (by omega), my_D1 _ _ hc, Int32.zero_add]
theorem my_clear (hS : me_lo S) (hC : mr_C S a_clues) (hA : mr_A a_around) (hE : my_Ed (me_E S) f_edgeCount a_edge) (hcc : f_coveredCount = nI ((me_E S).length + me_R S)) {post : SY → Prop}
    (h : ∀ fd fw, mr_Y S a_clues f_edgeCount f_coveredCount fd fw → post (f_total, f_edgeCount, f_coveredCount, f_known, f_sureMines, f_sureFree, a_clues, a_around, a_edge, fd, fw)) : ∃ n, wY_findAll_74 post f_total f_edgeCount f_coveredCount f_known f_sureMines f_sureFree n 0 a_clues a_around a_edge a_found a_foundWith := by
  refine loop_0 (σ := (Nat → Int32) × (Nat → Int32)) (fun n i s => wY_findAll_74 post f_total f_edgeCount f_coveredCount f_known f_sureMines f_sureFree n (nI i) a_clues a_around a_edge s.1 s.2) (fun i s => (∀ m, m < 21 → m < i → s.1 m = 0) ∧ (∀ k, k < i → s.2 k = 0)) 420 (a_found, a_foundWith) ⟨fun m _ z => by omega, fun k z => by omega⟩ (fun n s hs => ?_) (fun n i s hi hs hk => ?_)
  · exact br_t (nI_le (a := 420) (by omega) (by omega)) (my_through hS hC hA hE hcc (fun m hm => hs.1 m hm (by omega)) (fun k hk => hs.2 k hk) h)
  · have er : nI i - nI i / 21 * 21 = nI (i % 21) := pk_rem (a := i) (d := 21) (by omega) (by omega) (by omega)
    refine br_f (nI_ge (b := 420) hi (by omega)) ⟨vp_in_nI hi (by omega), nm_r (e' := upd s.2 i 0) (by rw [nI_clamp (by omega)]) ⟨by decide, ?_⟩⟩
    rw [er]
    refine ⟨vp_in_nI (Nat.mod_lt _ (by omega)) (by omega), nm_r (e' := upd s.1 (i % 21) 0) (by rw [nI_clamp (by omega)]) (nm_r (nI_1 i) (hk (upd s.1 (i % 21) 0, upd s.2 i 0) ⟨fun m hm hmi => ?_, fun k hki => ?_⟩))⟩
    · dsimp only
      by_cases z : m = i % 21
      · subst z; exact pk_us
      · rw [pk_un z]
        exact hs.1 m hm (by omega)
    · dsimp only
      by_cases z : k = i
      · subst z; exact pk_us
      · rw [pk_un z]
        exact hs.2 k (by omega)
theorem my_findAll (hC : mr_C S a_clues) (hA : mr_A a_around) {post : SY → Prop} (hk : f_known = 0 ∨ mr_Y S a_clues f_edgeCount f_coveredCount a_found a_foundWith)
    (h : ∀ ec cc kn ae fd fw, kn ≠ 0 → mr_Y S a_clues ec cc fd fw → post (f_total, ec, cc, kn, f_sureMines, f_sureFree, a_clues, a_around, ae, fd, fw)) : wpY_findAll post (f_total, f_edgeCount, f_coveredCount, f_known, f_sureMines, f_sureFree, a_clues, a_around, a_edge, a_found, a_foundWith) := by
  by_cases z : f_known = 0
  · refine br_t z (my_cov hC (my_bits (mr_cvl S) ?_))
    have ecv : me_c (mr_cv S) = (me_E S).length + me_R S := by
      rw [me_ER]
      exact mb_eq (fun j hj => by rw [mr_cvb S (by omega), decide_eq_true hj]; rfl)
    rw [ecv]
    refine loop_0 (σ := Int32 × (Nat → Int32)) (fun n i s => wY_findAll_32 post f_total (nI ((me_E S).length + me_R S)) 1 f_sureMines f_sureFree n (nI i) s.1 a_clues a_around s.2 a_found a_foundWith) (fun i s => s.1 = nI ((List.range i).filter (me_ed S)).length ∧ ∀ t e, ((List.range i).filter (me_ed S))[t]? = some e → s.2 t = nI e) 20 (0, a_edge) ⟨rfl, fun t e he => by simp at he⟩ (fun n s hs => ?_) (fun n i s hi hs hk' => ?_)
    · refine br_t (nI_le (a := 20) (by omega) (by omega)) (my_clear hC.1 hC hA ⟨hs.1, ?_, me_E_nd S, fun e he => (me_E_mem.mp he).1, hs.2⟩ rfl (fun fd fw hY => h _ _ _ _ _ _ mx_10 hY))
      have := me_ER20 S
      omega
    · have hlen : ((List.range i).filter (me_ed S)).length ≤ i := by
        have := List.length_filter_le (me_ed S) (List.range i)
        simpa using this
      refine br_f (mx_20 hi) (my_edge hC hA hi (fun he => br_f mx_10 ⟨?_, nm_r (e' := upd s.2 ((List.range i).filter (me_ed S)).length (nI i)) (by rw [hs.1, nI_clamp (by omega)]) (nm_r (e' := nI (((List.range i).filter (me_ed S)).length + 1)) (by rw [hs.1, nI_1]) (nm_r (nI_1 i) (hk' (nI (((List.range i).filter (me_ed S)).length + 1), upd s.2 ((List.range i).filter (me_ed S)).length (nI i)) ⟨?_, fun t e ht => ?_⟩)))⟩) (fun he => br_t rfl (nm_r (nI_1 i) (hk' s ⟨?_, fun t e ht => ?_⟩))))
      · rw [hs.1]; exact vp_in_nI (by omega) (by omega)
      · rw [List.range_succ, List.filter_append, List.length_append]
        simp [he]
      · rw [List.range_succ, List.filter_append] at ht
        simp only [List.filter_cons, he, if_true, List.filter_nil] at ht
        dsimp only
        by_cases y : t = ((List.range i).filter (me_ed S)).length
        · subst y
          rw [List.getElem?_append_right (Nat.le_refl _)] at ht
          simp at ht
          rw [pk_us, ht]
        · rw [pk_un y]
          refine hs.2 t e ?_
          rcases Nat.lt_or_ge t ((List.range i).filter (me_ed S)).length with w | w
          · rw [List.getElem?_append_left w] at ht
            exact ht
          · rw [List.getElem?_append_right w] at ht
            have := (List.getElem?_eq_some_iff.mp ht).1
            simp at this
            omega
      · rw [List.range_succ, List.filter_append, List.length_append]
        simp [he]
        exact hs.1
      · rw [List.range_succ, List.filter_append] at ht
        simp only [List.filter_cons, he, List.filter_nil] at ht
        exact hs.2 t e (by simpa using ht)
  · exact br_f z (h _ _ _ _ _ _ z (hk.resolve_left z))
end
