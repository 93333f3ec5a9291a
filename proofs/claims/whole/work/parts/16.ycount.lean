/-! the reference's counts -/
def mr_T (t : Int32) : Prop := t = -1 ∨ ∃ n, n ≤ 20 ∧ t = nI n
theorem mr_Tn {n : Nat} (h : n ≤ 20) : mr_T (nI n) := Or.inr ⟨n, h, rfl⟩
theorem my_p2 : ∀ s, s < 21 → (1 : Int32) <<< (nI s &&& 31) = nI (2 ^ s) := by decide +kernel
def my_ov (T : Int32) (s : Nat) (m : Nat) : Nat := if T.toInt < 0 then 2 ^ s else mg_C s (T.toInt - m)
theorem mr_Rp {S : Int32} {c : Nat} (hc : c < 20) (hs : bt S c = false) (he : me_ed S c = false) : 0 < me_R S := by
  rcases Nat.eq_zero_or_pos (me_R S) with z | z
  · have := mb_zero z c hc
    simp only [me_ot, me_ed, hs] at this he
    simp at this he
    exact absurd he this
  · exact z
section
variable {f_total f_edgeCount f_coveredCount f_known f_sureMines f_sureFree : Int32} {a_clues a_around a_edge a_found a_foundWith : Nat → Int32}
variable {S : Int32}
theorem my_others (hT : mr_T f_total) {s m : Nat} (hs : s ≤ 20) (hm : m ≤ 21) {post : Int32 → Prop} (h : post (nI (my_ov f_total s m))) : wpY_others post (f_total, f_edgeCount, f_coveredCount, f_known, f_sureMines, f_sureFree, a_clues, a_around, a_edge, a_found, a_foundWith) (nI s) (nI m) := by
  unfold my_ov at h
  rcases hT with rfl | ⟨n, hn, rfl⟩
  · refine br_f (by decide) ?_
    rw [my_p2 s (by omega)]
    rw [if_pos (by decide)] at h
    exact h
  · rw [nI_toInt (by omega), if_neg (by omega)] at h
    refine br_t (nI_pos' (by omega)) (my_choices hs (pk_sub_toInt (by omega) (by omega)) h)
theorem my_count (hC : mr_C S a_clues) (hA : mr_A a_around) (hT : mr_T f_total) (hk : f_known = 0 ∨ mr_Y S a_clues f_edgeCount f_coveredCount a_found a_foundWith) {post : Int32 → SY → Prop}
    (h : ∀ ec cc kn ae fd fw, kn ≠ 0 → mr_Y S a_clues ec cc fd fw → post (nI (me_Cnt S (mu_k a_clues) f_total.toInt)) (f_total, ec, cc, kn, f_sureMines, f_sureFree, a_clues, a_around, ae, fd, fw)) : wpY_count post (f_total, f_edgeCount, f_coveredCount, f_known, f_sureMines, f_sureFree, a_clues, a_around, a_edge, a_found, a_foundWith) := by
  unfold wpY_count
  refine my_findAll hC hA hk (fun ec cc kn ae fd fw hkn hY => ?_)
  have hER := me_ER20 S
  have er : cc - ec = nI (me_R S) := by
    rw [hY.1, hY.2.1, pk_sub (by omega), Nat.add_sub_cancel_left]
  refine loop_0 (σ := Int32) (fun n i x => wY_count_8 post f_total ec cc kn f_sureMines f_sureFree a_clues a_around ae fd fw n x (nI i)) (fun i x => x = nI (mg_sum (fun m => me_F S (mu_k a_clues) m * my_ov f_total (me_R S) m) i)) 21 0 rfl (fun n x hx => ?_) (fun n i x hi hx hk' => ?_)
  · subst hx
    have e : mg_sum (fun m => me_F S (mu_k a_clues) m * my_ov f_total (me_R S) m) 21 = me_Cnt S (mu_k a_clues) f_total.toInt := by
      unfold my_ov
      by_cases z : f_total.toInt < 0
      · simp only [z, if_true]; exact me_Y0 S _ z
      · simp only [z, if_false]; rw [me_Y1, me_Cnt, if_neg z]
    refine br_t (nI_le (a := 21) (by omega) (by omega)) ?_
    rw [e]
    exact h _ _ _ _ _ _ hkn hY
  · subst hx
    refine br_f (nI_ge (b := 21) hi (by omega)) ⟨vp_in_nI hi (by omega), ?_⟩
    rw [er]
    refine my_others hT (by omega) (by omega) (nm_r ?_ (nm_r (nI_1 i) (hk' _ rfl)))
    rw [nI_clamp (by omega), hY.2.2.1 i hi, pk_mul, nI_add]
    rfl
theorem my_mined (hC : mr_C S a_clues) (hA : mr_A a_around) (hT : mr_T f_total) (hk : f_known = 0 ∨ mr_Y S a_clues f_edgeCount f_coveredCount a_found a_foundWith) {c : Nat} (hc : c < 20) {post : Int32 → SY → Prop}
    (h : ∀ ec cc kn ae fd fw, kn ≠ 0 → mr_Y S a_clues ec cc fd fw → post (if bt S c = true then 0 else nI (me_Min S (mu_k a_clues) f_total.toInt c)) (f_total, ec, cc, kn, f_sureMines, f_sureFree, a_clues, a_around, ae, fd, fw)) : wpY_countMined post (f_total, f_edgeCount, f_coveredCount, f_known, f_sureMines, f_sureFree, a_clues, a_around, a_edge, a_found, a_foundWith) (nI c) := by
  unfold wpY_countMined
  refine my_findAll hC hA hk (fun ec cc kn ae fd fw hkn hY => ?_)
  have hER := me_ER20 S
  have er : cc - ec = nI (me_R S) := by
    rw [hY.1, hY.2.1, pk_sub (by omega), Nat.add_sub_cancel_left]
  have h' := h _ _ _ ae _ _ hkn hY
  have vc := vp_in_nI hc (N := 20) (by omega)
  refine nm_r er ?_
  cases hs : bt S c
  · rw [hs, if_neg (by simp)] at h'
    cases he : me_ed S c
    · have hR := mr_Rp hc hs he
      refine loop_0 (σ := Int32) (fun n i x => wY_countMined_19 post (nI c) (nI (me_R S)) f_total ec cc kn f_sureMines f_sureFree a_clues a_around ae fd fw n x (nI i)) (fun i x => x = nI (mg_sum (fun m => me_F S (mu_k a_clues) m * my_ov f_total (me_R S - 1) (m + 1)) i)) 21 0 rfl (fun n x hx => ?_) (fun n i x hi hx hk' => ?_)
      · subst hx
        have e : mg_sum (fun m => me_F S (mu_k a_clues) m * my_ov f_total (me_R S - 1) (m + 1)) 21 = me_Min S (mu_k a_clues) f_total.toInt c := by
          unfold my_ov
          by_cases z : f_total.toInt < 0
          · simp only [z, if_true]; exact me_Y4 S _ z (by rw [he]; simp)
          · simp only [z, if_false]; exact me_Y5 S _ z (by rw [he]; simp)
        refine br_t (nI_le (a := 21) (by omega) (by omega)) ?_
        rw [e]
        exact h'
      · subst hx
        refine br_f (nI_ge (b := 21) hi (by omega)) ⟨vc, ?_⟩
        rw [nI_clamp (n := c) (by omega)]
        refine br_f (mr_nge hC hc hs) (my_edge hC hA hc (fun z => by rw [he] at z; cases z) (fun _ => br_t rfl ⟨vp_in_nI hi (by omega), ?_⟩))
        rw [nI_1, show nI (me_R S) - 1 = nI (me_R S - 1) from pk_sub (b := 1) hR]
        refine my_others hT (by omega) (by omega) (nm_r ?_ (nm_e (hk' _ rfl)))
        rw [nI_clamp (by omega), hY.2.2.1 i hi, pk_mul, nI_add]
        rfl
    · refine loop_0 (σ := Int32) (fun n i x => wY_countMined_19 post (nI c) (nI (me_R S)) f_total ec cc kn f_sureMines f_sureFree a_clues a_around ae fd fw n x (nI i)) (fun i x => x = nI (mg_sum (fun m => me_Fc S (mu_k a_clues) c m * my_ov f_total (me_R S) m) i)) 21 0 rfl (fun n x hx => ?_) (fun n i x hi hx hk' => ?_)
      · subst hx
        have e : mg_sum (fun m => me_Fc S (mu_k a_clues) c m * my_ov f_total (me_R S) m) 21 = me_Min S (mu_k a_clues) f_total.toInt c := by
          unfold my_ov
          by_cases z : f_total.toInt < 0
          · simp only [z, if_true]; exact me_Y2 S _ z hc he
          · simp only [z, if_false]; exact me_Y3 S _ z hc he
        refine br_t (nI_le (a := 21) (by omega) (by omega)) ?_
        rw [e]
        exact h'
      · subst hx
        refine br_f (nI_ge (b := 21) hi (by omega)) ⟨vc, ?_⟩
        rw [nI_clamp (n := c) (by omega)]
        have ix : (21 : Int32) * nI c + nI i = nI (21 * c + i) := by
          rw [show (21 : Int32) = nI 21 from rfl, pk_mul, nI_add]
        refine br_f (mr_nge hC hc hs) (my_edge hC hA hc (fun _ => br_f mx_10 ?_) (fun z => by rw [he] at z; cases z))
        rw [ix]
        refine ⟨vp_in_nI (by omega) (by omega), my_others hT (by omega) (by omega) (nm_r ?_ (nm_r (nI_1 i) (hk' _ rfl)))⟩
        rw [nI_clamp (by omega), hY.2.2.2 c (me_E_mem.mpr ⟨hc, he⟩) i hi, pk_mul, nI_add]
        rfl
  · rw [hs, if_pos rfl] at h'
    refine ⟨1, br_f (by decide) ⟨vc, ?_⟩⟩
    rw [nI_clamp (by omega)]
    exact br_t (mr_ge hC hc hs) h'
theorem my_with (hC : mr_C S a_clues) (hA : mr_A a_around) (hT : mr_T f_total) (hk : f_known = 0 ∨ mr_Y S a_clues f_edgeCount f_coveredCount a_found a_foundWith) {n : Nat} (hn : n ≤ 20) {post : Int32 → SY → Prop}
    (hY : mr_Y S a_clues f_edgeCount f_coveredCount a_found a_foundWith) (h : post (nI (me_Cnt S (mu_k a_clues) n)) (f_total, f_edgeCount, f_coveredCount, f_known, f_sureMines, f_sureFree, a_clues, a_around, a_edge, a_found, a_foundWith)) : ∃ k, wY_withMines_35 post (nI n) f_total f_edgeCount f_coveredCount f_known f_sureMines f_sureFree a_clues a_around a_edge a_found a_foundWith k 0 0 := by
  have hER := me_ER20 S
  have er : f_coveredCount - f_edgeCount = nI (me_R S) := by
    rw [hY.1, hY.2.1, pk_sub (by omega), Nat.add_sub_cancel_left]
  refine loop_0 (σ := Int32) (fun k i x => wY_withMines_35 post (nI n) f_total f_edgeCount f_coveredCount f_known f_sureMines f_sureFree a_clues a_around a_edge a_found a_foundWith k x (nI i)) (fun i x => x = nI (mg_sum (fun m => me_F S (mu_k a_clues) m * mg_C (me_R S) ((n : Int) - m)) i)) 21 0 rfl (fun k x hx => ?_) (fun k i x hi hx hk' => ?_)
  · subst hx
    have e : mg_sum (fun m => me_F S (mu_k a_clues) m * mg_C (me_R S) ((n : Int) - m)) 21 = me_Cnt S (mu_k a_clues) n := by
      rw [me_Y1, me_Cnt, if_neg (by omega)]
    refine br_t (nI_le (a := 21) (by omega) (by omega)) ?_
    rw [e]
    exact h
  · subst hx
    refine br_f (nI_ge (b := 21) hi (by omega)) ⟨vp_in_nI hi (by omega), ?_⟩
    rw [er]
    refine my_choices (k := (n : Int) - i) (by omega) (pk_sub_toInt (by omega) (by omega)) (nm_r ?_ (nm_r (nI_1 i) (hk' _ rfl)))
    rw [nI_clamp (by omega), hY.2.2.1 i hi, pk_mul, nI_add]
    rfl
end
/-! sets of cells by a property -/
def mr_mask (p : Nat → Bool) : Nat → Int32
  | 0 => 0
  | n + 1 => if p n = true then mr_mask p n ||| my_bit n else mr_mask p n
theorem mr_maskb (p : Nat → Bool) : ∀ (n : Nat), n ≤ 32 → ∀ j, bt (mr_mask p n) j = (decide (j < n) && p j)
  | 0, _, j => by rw [mr_mask, b_0]; simp
  | n + 1, hn, j => by
    have ih := mr_maskb p n (by omega) j
    rw [mr_mask]
    by_cases z : j = n
    · subst z
      by_cases h : p j = true
      · rw [if_pos h, b_or, my_bitb (by omega)]; simp [h]
      · rw [if_neg h, ih]; simp at h ⊢; simp [h]
    · have : decide (j < n + 1) = decide (j < n) := decide_eq_decide.mpr ⟨fun h => by omega, fun h => by omega⟩
      rw [this]
      split
      · rw [b_or, my_bitb (by omega), decide_eq_false z, Bool.or_false, ih]
      · exact ih
/-- the least of the covered cells with the fewest -/
def mr_bs (S : Int32) (f : Nat → Nat) : Nat → Option Nat
  | 0 => none
  | n + 1 => if bt S n = true then mr_bs S f n else
      match mr_bs S f n with
      | none => some n
      | some b => if f n < f b then some n else some b
theorem mr_bsl (S : Int32) (f : Nat → Nat) : ∀ (n b : Nat), mr_bs S f n = some b → b < n
  | 0, b, h => by cases h
  | n + 1, b, h => by
    rw [mr_bs] at h
    have ih := mr_bsl S f n
    split at h
    · have := ih b h; omega
    · split at h
      · cases h; omega
      · rename_i x hx
        split at h
        · cases h; omega
        · cases h; have := ih b hx; omega
def mr_bv : Option Nat → Int32
  | none => -2
  | some b => nI b
section
variable {f_total f_edgeCount f_coveredCount f_known f_sureMines f_sureFree : Int32} {a_clues a_around a_edge a_found a_foundWith : Nat → Int32}
variable {S : Int32}
theorem my_cells (hC : mr_C S a_clues) (hA : mr_A a_around) (hT : mr_T f_total) (hk : f_known = 0 ∨ mr_Y S a_clues f_edgeCount f_coveredCount a_found a_foundWith) {w : Nat} (hw : w ≤ 2 ^ 20) {post : Int32 → SY → Prop}
    (h : ∀ ec cc kn ae fd fw, (kn = 0 ∨ mr_Y S a_clues ec cc fd fw) → post (mr_mask (fun c => !bt S c && decide (me_Min S (mu_k a_clues) f_total.toInt c = w)) 20) (f_total, ec, cc, kn, f_sureMines, f_sureFree, a_clues, a_around, ae, fd, fw)) : wpY_cellsWith post (f_total, f_edgeCount, f_coveredCount, f_known, f_sureMines, f_sureFree, a_clues, a_around, a_edge, a_found, a_foundWith) (nI w) := by
  refine loop_0 (σ := Int32 × Int32 × Int32 × Int32 × (Nat → Int32) × (Nat → Int32) × (Nat → Int32)) (fun n i s => wY_cellsWith_4 post (nI w) n s.1 (nI i) f_total s.2.1 s.2.2.1 s.2.2.2.1 f_sureMines f_sureFree a_clues a_around s.2.2.2.2.1 s.2.2.2.2.2.1 s.2.2.2.2.2.2)
    (fun i s => s.1 = mr_mask (fun c => !bt S c && decide (me_Min S (mu_k a_clues) f_total.toInt c = w)) i ∧ (s.2.2.2.1 = 0 ∨ mr_Y S a_clues s.2.1 s.2.2.1 s.2.2.2.2.2.1 s.2.2.2.2.2.2)) 20 (0, f_edgeCount, f_coveredCount, f_known, a_edge, a_found, a_foundWith) ⟨rfl, hk⟩ (fun n s hs => ?_) (fun n i s hi hs hk' => ?_)
  · have := h s.2.1 s.2.2.1 s.2.2.2.1 s.2.2.2.2.1 s.2.2.2.2.2.1 s.2.2.2.2.2.2 hs.2
    rw [← hs.1] at this
    exact br_t (nI_le (a := 20) (by omega) (by omega)) this
  · obtain ⟨x, ec, cc, kn, ae, fd, fw⟩ := s
    obtain ⟨q1, q2⟩ := hs
    dsimp only at q1 q2
    refine br_f (mx_20 hi) ⟨vp_in_nI hi (by omega), ?_⟩
    rw [nI_clamp (by omega)]
    cases hs : bt S i
    · refine br_f (mr_nge hC hi hs) (my_mined hC hA hT q2 hi (fun ec' cc' kn' ae' fd' fw' hkn hY => ?_))
      rw [hs, if_neg (by simp)]
      have hb := me_Mb S (mu_k a_clues) f_total.toInt i hi
      refine pk_eq (me_Min S (mu_k a_clues) f_total.toInt i) w (fun z => nm_e (nm_r (nI_1 i) (hk' (_, ec', cc', kn', ae', fd', fw') ⟨?_, Or.inr hY⟩))) (fun z => nm_r (nI_1 i) (hk' (_, ec', cc', kn', ae', fd', fw') ⟨?_, Or.inr hY⟩)) rfl rfl (by omega) (by omega)
      · rw [mr_mask, if_pos (by simp [hs, z]), ← q1]; rfl
      · rw [mr_mask, if_neg (by simp [hs, z]), ← q1]
    · refine br_t (mr_ge hC hi hs) (nm_r (nI_1 i) (hk' (x, ec, cc, kn, ae, fd, fw) ⟨?_, q2⟩))
      rw [mr_mask, if_neg (by simp [hs]), ← q1]
theorem my_bestl (hC : mr_C S a_clues) (hA : mr_A a_around) (hT : mr_T f_total) (hk : f_known = 0 ∨ mr_Y S a_clues f_edgeCount f_coveredCount a_found a_foundWith) {post : Int32 → SY → Prop}
    (h : ∀ ec cc kn ae fd fw, (kn = 0 ∨ mr_Y S a_clues ec cc fd fw) → post (mr_bv (mr_bs S (me_Min S (mu_k a_clues) f_total.toInt) 20)) (f_total, ec, cc, kn, f_sureMines, f_sureFree, a_clues, a_around, ae, fd, fw)) : ∃ n, wY_best_17 post n (-2) 0 0 f_total f_edgeCount f_coveredCount f_known f_sureMines f_sureFree a_clues a_around a_edge a_found a_foundWith := by
  refine loop_0 (σ := Int32 × Int32 × Int32 × Int32 × Int32 × (Nat → Int32) × (Nat → Int32) × (Nat → Int32)) (fun n i s => wY_best_17 post n s.1 s.2.1 (nI i) f_total s.2.2.1 s.2.2.2.1 s.2.2.2.2.1 f_sureMines f_sureFree a_clues a_around s.2.2.2.2.2.1 s.2.2.2.2.2.2.1 s.2.2.2.2.2.2.2)
    (fun i s => s.1 = mr_bv (mr_bs S (me_Min S (mu_k a_clues) f_total.toInt) i) ∧ (∀ b, mr_bs S (me_Min S (mu_k a_clues) f_total.toInt) i = some b → s.2.1 = nI (me_Min S (mu_k a_clues) f_total.toInt b)) ∧ (s.2.2.2.2.1 = 0 ∨ mr_Y S a_clues s.2.2.1 s.2.2.2.1 s.2.2.2.2.2.2.1 s.2.2.2.2.2.2.2)) 20 (-2, 0, f_edgeCount, f_coveredCount, f_known, a_edge, a_found, a_foundWith) ⟨rfl, fun b hb => (by cases hb), hk⟩ (fun n s hs => ?_) (fun n i s hi hs hk' => ?_)
  · have := h s.2.2.1 s.2.2.2.1 s.2.2.2.2.1 s.2.2.2.2.2.1 s.2.2.2.2.2.2.1 s.2.2.2.2.2.2.2 hs.2.2
    rw [← hs.1] at this
    exact br_t (nI_le (a := 20) (by omega) (by omega)) this
  · obtain ⟨x, y, ec, cc, kn, ae, fd, fw⟩ := s
    obtain ⟨q1, q2, q3⟩ := hs
    dsimp only at q1 q2 q3
    refine br_f (mx_20 hi) ⟨vp_in_nI hi (by omega), ?_⟩
    rw [nI_clamp (by omega)]
    cases hs : bt S i
    · refine br_f (mr_nge hC hi hs) (my_mined hC hA hT q3 hi (fun ec' cc' kn' ae' fd' fw' hkn hY => ?_))
      rw [hs, if_neg (by simp)]
      have hb := me_Mb S (mu_k a_clues) f_total.toInt i hi
      cases hbs : mr_bs S (me_Min S (mu_k a_clues) f_total.toInt) i with
      | none =>
        rw [hbs] at q1
        have e : mr_bs S (me_Min S (mu_k a_clues) f_total.toInt) (i + 1) = some i := by rw [mr_bs, hs, if_neg (by simp), hbs]
        refine br_t q1 (nm_r (nI_1 i) (hk' (nI i, _, ec', cc', kn', ae', fd', fw') ⟨?_, fun b hb => ?_, Or.inr hY⟩))
        · rw [e]; rfl
        · rw [e] at hb; cases hb; rfl
      | some b =>
        rw [hbs] at q1
        have hbl := mr_bsl _ _ _ _ hbs
        have hbb := me_Mb S (mu_k a_clues) f_total.toInt b (by omega)
        have hy := q2 b hbs
        have ne : ¬ x = -2 := by
          rw [q1]
          intro z
          have : (nI b).toInt = (-2 : Int32).toInt := by rw [← z]; rfl
          rw [nI_toInt (by omega)] at this
          have h2 : (-2 : Int32).toInt = -2 := by decide
          omega
        refine br_f ne ?_
        rw [hy]
        refine pk_le (me_Min S (mu_k a_clues) f_total.toInt b) (me_Min S (mu_k a_clues) f_total.toInt i) (fun z => nm_r (nI_1 i) (hk' (x, nI (me_Min S (mu_k a_clues) f_total.toInt b), ec', cc', kn', ae', fd', fw') ⟨?_, fun b' hb' => ?_, Or.inr hY⟩)) (fun z => nm_r (nI_1 i) (hk' (nI i, nI (me_Min S (mu_k a_clues) f_total.toInt i), ec', cc', kn', ae', fd', fw') ⟨?_, fun b' hb' => ?_, Or.inr hY⟩)) rfl rfl (by omega) (by omega)
        · have e : mr_bs S (me_Min S (mu_k a_clues) f_total.toInt) (i + 1) = some b := by rw [mr_bs, hs, if_neg (by simp), hbs]; exact if_neg (by omega)
          rw [e]; exact q1
        · have e : mr_bs S (me_Min S (mu_k a_clues) f_total.toInt) (i + 1) = some b := by rw [mr_bs, hs, if_neg (by simp), hbs]; exact if_neg (by omega)
          rw [e] at hb'; cases hb'; rfl
        · have e : mr_bs S (me_Min S (mu_k a_clues) f_total.toInt) (i + 1) = some i := by rw [mr_bs, hs, if_neg (by simp), hbs]; exact if_pos (by omega)
          rw [e]; rfl
        · have e : mr_bs S (me_Min S (mu_k a_clues) f_total.toInt) (i + 1) = some i := by rw [mr_bs, hs, if_neg (by simp), hbs]; exact if_pos (by omega)
          rw [e] at hb'; cases hb'; rfl
    · have e : mr_bs S (me_Min S (mu_k a_clues) f_total.toInt) (i + 1) = mr_bs S (me_Min S (mu_k a_clues) f_total.toInt) i := by rw [mr_bs, hs, if_pos rfl]
      refine br_t (mr_ge hC hi hs) (nm_r (nI_1 i) (hk' (x, y, ec, cc, kn, ae, fd, fw) ⟨?_, fun b hb => ?_, q3⟩))
      · rw [e]; exact q1
      · rw [e] at hb; exact q2 b hb
/-- the numbers of cell w -/
noncomputable def mr_nb (S : Int32) (ac : Nat → Int32) (w : Nat) (T : Int) (k : Nat) : Bool := decide (0 < me_Cnt (S ||| my_bit w) (mu_k (upd ac w (nI k))) T)
theorem mr_Cw {S : Int32} {ac : Nat → Int32} (hC : mr_C S ac) {w k : Nat} (hw : w < 20) (hk : k ≤ 8) {ac' : Nat → Int32} (he : ∀ j, j < 20 → j ≠ w → ac' j = ac j) : mr_C (S ||| my_bit w) (upd ac' w (nI k)) := by
  refine ⟨mr_orl hC.1 (my_bitlo hw), fun j hj => ?_⟩
  rw [b_or, my_bitb (by omega)]
  by_cases z : j = w
  · subst z
    refine ⟨fun _ => ⟨k, hk, pk_us⟩, fun y => ?_⟩
    simp at y
  · rw [decide_eq_false z, Bool.or_false, pk_un z, he j hj z]
    exact hC.2 j hj
theorem mr_kc {S : Int32} {kl kl' : Nat → Int} (h : ∀ j, j < 20 → bt S j = true → kl j = kl' j) (hS : me_lo S) (T : Int) : me_w S kl T = me_w S kl' T := by
  funext j
  simp only [me_w]
  by_cases z : j = 20
  · simp [z]
  · simp only [z, if_false]
    by_cases y : bt S j = true
    · simp only [y, if_true]
      rcases Nat.lt_or_ge j 20 with x | x
      · exact h j x y
      · rw [hS j x] at y; cases y
    · simp only [y, if_false]
      rfl
theorem mr_Cc {S : Int32} {kl kl' : Nat → Int} (h : ∀ j, j < 20 → bt S j = true → kl j = kl' j) (hS : me_lo S) (T : Int) : me_Cnt S kl T = me_Cnt S kl' T := by
  unfold me_Cnt
  rw [mr_kc h hS 0, mr_kc h hS T]
theorem my_clues (hC : mr_C S a_clues) (hA : mr_A a_around) (hT : mr_T f_total) {w : Nat} (hw : w < 20) (hs : bt S w = false) {post : Int32 → SY → Prop}
    (h : ∀ ec cc ae fd fw, post (mr_mask (mr_nb S a_clues w f_total.toInt) 9) (f_total, ec, cc, 0, f_sureMines, f_sureFree, a_clues, a_around, ae, fd, fw)) : ∃ n, wY_clues_25 post (nI w) n 0 0 f_total f_edgeCount f_coveredCount f_known f_sureMines f_sureFree a_clues a_around a_edge a_found a_foundWith := by
  have vw := vp_in_nI hw (N := 20) (by omega)
  refine loop_0 (σ := Int32 × Int32 × Int32 × Int32 × (Nat → Int32) × (Nat → Int32) × (Nat → Int32) × (Nat → Int32)) (fun n i s => wY_clues_25 post (nI w) n s.1 (nI i) f_total s.2.1 s.2.2.1 s.2.2.2.1 f_sureMines f_sureFree s.2.2.2.2.2.2.2 a_around s.2.2.2.2.1 s.2.2.2.2.2.1 s.2.2.2.2.2.2.1)
    (fun i s => s.1 = mr_mask (mr_nb S a_clues w f_total.toInt) i ∧ (∀ j, j ≠ w → s.2.2.2.2.2.2.2 j = a_clues j)) 9 (0, f_edgeCount, f_coveredCount, f_known, a_edge, a_found, a_foundWith, a_clues) ⟨rfl, fun _ _ => rfl⟩ (fun n s hs' => ?_) (fun n i s hi hs' hk' => ?_)
  · obtain ⟨x, ec, cc, kn, ae, fd, fw, cl⟩ := s
    obtain ⟨q1, q2⟩ := hs'
    dsimp only at q1 q2
    refine br_t (nI_le (a := 9) (by omega) (by omega)) ⟨vw, nm_r (e' := a_clues) ?_ ?_⟩
    · rw [nI_clamp (by omega)]
      funext j
      by_cases z : j = w
      · subst z; rw [pk_us, (hC.2 j hw).2 hs]
      · rw [pk_un z]; exact q2 j z
    · dsimp only
      rw [q1]
      exact h _ _ _ _ _
  · obtain ⟨x, ec, cc, kn, ae, fd, fw, cl⟩ := s
    obtain ⟨q1, q2⟩ := hs'
    dsimp only at q1 q2
    refine br_f (nI_ge (b := 9) hi (by omega)) ⟨vw, nm_r (e' := upd cl w (nI i)) (by rw [nI_clamp (by omega)]) ?_⟩
    have hC' := mr_Cw hC hw (k := i) (by omega) (ac' := cl) (fun j _ z => q2 j z)
    have ecl : upd cl w (nI i) = upd a_clues w (nI i) := by
      funext j
      by_cases z : j = w
      · subst z; rw [pk_us, pk_us]
      · rw [pk_un z, pk_un z, q2 j z]
    refine my_count hC' hA hT (Or.inl rfl) (fun ec' cc' kn' ae' fd' fw' hkn hY => ?_)
    have hb := me_Cb (S ||| my_bit w) (mu_k (upd cl w (nI i))) f_total.toInt
    have key : mr_nb S a_clues w f_total.toInt i = decide (0 < me_Cnt (S ||| my_bit w) (mu_k (upd cl w (nI i))) f_total.toInt) := by rw [mr_nb, ecl]
    refine pk_le (me_Cnt (S ||| my_bit w) (mu_k (upd cl w (nI i))) f_total.toInt) 0 (fun z => nm_r (nI_1 i) (hk' (x, ec', cc', kn', ae', fd', fw', upd cl w (nI i)) ⟨?_, fun j z => ?_⟩)) (fun z => nm_e (nm_r (nI_1 i) (hk' (x ||| my_bit i, ec', cc', kn', ae', fd', fw', upd cl w (nI i)) ⟨?_, fun j z => ?_⟩))) rfl rfl (by omega) (by omega)
    · rw [mr_mask, key, decide_eq_false (by omega), if_neg (by simp)]; exact q1
    · dsimp only
      rw [pk_un z, q2 j z]
    · rw [mr_mask, key, decide_eq_true z, if_pos rfl, ← q1]
    · dsimp only
      rw [pk_un z, q2 j z]
end
