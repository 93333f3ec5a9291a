/-! the component has counted -/
theorem mw_m1 : (-1 : Int32).toInt = -1 := by decide
theorem mw_ne {w : Nat} (hw : w < 20) : ¬ nI w = -1 := by
  intro z
  have : (nI w).toInt = (-1 : Int32).toInt := by rw [← z]
  rw [nI_toInt (by omega), mw_m1] at this
  omega
theorem mw_mx (sn : Int32) : mk_m sn 0 = mc_mx sn := by
  funext c
  rw [mk_m, Int32.or_zero, mc_mx]
theorem mw_r0 : ∀ j, mq_r (mp_r none) j = 0 := fun j => by simp [mq_r, mp_r]
theorem mw_rc (c : Nat) : ∀ j, mq_r (mp_r (some c)) j = if j = c then 8 else 0 := fun j => by
  simp only [mq_r, mp_r]
  by_cases h : j = c
  · subst h; simp
  · rw [if_neg h, if_neg (fun z => h (Option.some.inj z).symm)]; rfl
section
variable {S : Int32} {ac : Nat → Int32} {lk : Int32} {ko co sz : Nat → Int32} {n : Nat} {z : Nat → Nat}
theorem mw_N (hC : mr_C S ac) (hF : mk_F S 0 lk ko co sz n z) {ct nb : Int32} {mi : Nat → Int32} (h1 : ∀ i, i < n → mi i = nI (2 ^ me_R S) * nI (mg_H (mc_L (bt (S ||| 0)) (mq_r (mp_r none))) i (mf_ks z co n) (mp_w S ac none (-1)))) (h2 : ct = 0 + nI (2 ^ me_R S) * nI (mg_K (mc_L (bt (S ||| 0)) (mq_r (mp_r none))) (mf_ks z co n) (mp_w S ac none (-1)))) :
    mr_XC S ac (-1) (-1) ct nb ko sz (upd mi n (ct * sz n / 2)) := by
  obtain ⟨f1, f2, f3, f4, f5, f6, f7, f8, f9⟩ := hF
  have eL : mc_L (bt (S ||| 0)) (mq_r (mp_r none)) = mg_L' (bt S) := mc_LN (fun j _ => by rw [Int32.or_zero]) (fun j _ _ => mw_r0 j) (hC.1 20 (by omega))
  rw [eL, mp_w0] at h2
  rw [eL, mp_w0] at h1
  rw [mw_mx] at f5 f4 f6
  rw [← mf_flat] at f5
  have hneg : (-1 : Int) < 0 := by omega
  have hR := me_ER20 S
  have hCb := me_Cb S (mu_k ac) (-1)
  rw [pk_mul, mc_X4 f5 (mu_k ac) hneg (-1), Int32.zero_add] at h2
  refine ⟨Or.inl rfl, Or.inl ⟨rfl, ?_, fun c hc hs => ?_⟩⟩
  · rw [mw_m1]; exact h2
  · rw [mw_m1]
    cases he : me_ed S c
    · have hRp := mr_Rp hc hs he
      have ho : me_ot S c = true := by
        simp [me_ed, hs] at he
        simp [me_ot, hs, he]
      obtain ⟨s, hsR⟩ : ∃ s, me_R S = s + 1 := ⟨me_R S - 1, by omega⟩
      have hx := mc_X6 f5 (mu_k ac) hneg (-1) (c := c) (by rw [he]; simp) hRp
      rw [mc_X4 f5 (mu_k ac) hneg (-1)] at hx
      refine ⟨n, s, by omega, by omega, f9 c hc ho, ?_, ?_⟩
      · rw [f8, hsR]
      · have hb : me_Cnt S (mu_k ac) (-1) * me_R S ≤ 2 ^ 20 * 20 := Nat.mul_le_mul hCb (by omega)
        rw [pk_us, h2, f8, pk_mul, show (2 : Int32) = nI 2 from rfl, pk_div (by omega) (by omega) (by omega), hx, hsR]
    · obtain ⟨t, t1, t2, t3⟩ := f6 c hc he
      obtain ⟨s, hs1⟩ : ∃ s, z t = s + 1 := ⟨z t - 1, by have := (f3 t t1).2; omega⟩
      have hx := mc_X5 f5 (mu_k ac) hneg (-1) hc he (i := t) (s := s) (by rw [mf_get _ _ t1, hs1, t3])
      have zl := mf_zle (z := z) (m := co) t1
      rw [mf_flat] at f5
      have ll := f5.length_eq
      rw [List.length_map] at ll
      refine ⟨t, s, by omega, by omega, t2, ?_, ?_⟩
      · rw [(f3 t t1).1, hs1]
      · rw [pk_un (by omega), h1 t t1, pk_mul, hx]
theorem mw_T (hC : mr_C S ac) (hF : mk_F S me_b lk ko co sz n z) {t : Nat} (ht : t ≤ 20) {ct nb : Int32} {mi : Nat → Int32} (h1 : ∀ i, i < n + 1 → mi i = 1 * nI (mg_H (mc_L (bt (S ||| me_b)) (mq_r (mp_r none))) i (mf_ks (mp_z n (me_R S) z) co (n + 1)) (mp_w S ac none t))) (h2 : ct = 0 + 1 * nI (mg_K (mc_L (bt (S ||| me_b)) (mq_r (mp_r none))) (mf_ks (mp_z n (me_R S) z) co (n + 1)) (mp_w S ac none t))) :
    mr_XC S ac (-1) (nI t) ct nb ko sz mi := by
  obtain ⟨f1, f2, f3, f4, f5, f6, f7, f8, f9⟩ := hF
  have eL : mc_L (bt (S ||| me_b)) (mq_r (mp_r none)) = mg_L (bt S) := mc_LT (fun j _ => by rw [b_or, me_bb]) (fun j _ _ => mw_r0 j) (hC.1 20 (by omega))
  have eK : mf_ks (mp_z n (me_R S) z) co (n + 1) = mf_ks (mp_z n (me_R S) z) co n ++ [(me_R S, me_b)] := by rw [mf_ks_s, mp_zn, f7]
  rw [eL, mp_w0, eK] at h2
  rw [eL, mp_w0, eK] at h1
  have f5' : List.Perm (mg_flat (mf_ks (mp_z n (me_R S) z) co n)) ((me_E S).map (me_mk S)) := by
    rw [mf_flat, mp_ks]; exact f5
  have hnn : ¬ (t : Int) < 0 := by omega
  have hR := me_ER20 S
  have hT : (nI t).toInt = (t : Int) := nI_toInt (by omega)
  rw [mc_X1 f5' (mu_k ac) hnn, Int32.one_mul, Int32.zero_add] at h2
  refine ⟨mr_Tn ht, Or.inl ⟨rfl, ?_, fun c hc hs => ?_⟩⟩
  · rw [hT]; exact h2
  · rw [hT]
    cases he : me_ed S c
    · have hRp := mr_Rp hc hs he
      have ho : me_ot S c = true := by
        simp [me_ed, hs] at he
        simp [me_ot, hs, he]
      obtain ⟨s, hsR⟩ : ∃ s, me_R S = s + 1 := ⟨me_R S - 1, by omega⟩
      have hx := mc_X3 f5' (mu_k ac) hnn (c := c) (by rw [he]; simp) hRp
      rw [mf_len] at hx
      refine ⟨n, s, by omega, by omega, f9 c hc ho, ?_, ?_⟩
      · rw [f8, hsR]
      · rw [h1 n (by omega), Int32.one_mul, hx, hsR]
    · obtain ⟨q, t1, t2, t3⟩ := f6 c hc he
      obtain ⟨s, hs1⟩ : ∃ s, z q = s + 1 := ⟨z q - 1, by have := (f3 q t1).2; omega⟩
      have hx := mc_X2 f5' (mu_k ac) hnn hc he (i := q) (s := s) (by rw [mf_get _ _ t1, mp_zt t1, hs1, t3]; rfl)
      have zl := mf_zle (z := z) (m := co) t1
      have ll := f5.length_eq
      rw [List.length_map] at ll
      refine ⟨q, s, by omega, by omega, t2, ?_, ?_⟩
      · rw [(f3 q t1).1, hs1]
      · rw [h1 q (by omega), Int32.one_mul, hx]
/-- watched -/
theorem mw_nbs {w : Nat} {nb : Int32} {T : Int} {f : Nat → Nat → Nat} (h : mq_N (some w) 0 nb f) (hf : ∀ b, b ≤ 8 → (0 < f w b ↔ 0 < me_Cnt (S ||| my_bit w) (mu_k (upd ac w (nI b))) T)) : nb = mr_mask (mr_nb S ac w T) 9 := by
  refine b_ext (fun b hb => ?_)
  rw [h w rfl b hb, mr_maskb _ 9 (by omega), b_0, Bool.false_or]
  by_cases y : b ≤ 8
  · rw [decide_eq_true y, decide_eq_true (show b < 9 by omega), mr_nb]
    simp only [Bool.true_and]
    exact decide_eq_decide.mpr (hf b y)
  · rw [decide_eq_false y, decide_eq_false (show ¬ b < 9 by omega)]; rfl
theorem mw_WN (hC : mr_C S ac) {w : Nat} (hw : w < 20) (hs : bt S w = false) (hF : mk_F (S ||| my_bit w) 0 lk ko co sz n z) {ct nb : Int32} {mi : Nat → Int32} (h : mq_N (some w) 0 nb (fun c b => mg_K (mc_Lb (bt ((S ||| my_bit w) ||| 0)) (mq_r (mp_r (some w))) c b) (mf_ks z co n) (mp_w S ac (some w) (-1)))) :
    mr_XC S ac (nI w) (-1) ct nb ko sz mi := by
  obtain ⟨f1, f2, f3, f4, f5, f6, f7, f8, f9⟩ := hF
  rw [mw_mx] at f5
  rw [← mf_flat] at f5
  have hneg : (-1 : Int) < 0 := by omega
  have hsn : me_lo (S ||| my_bit w) := mr_orl hC.1 (my_bitlo hw)
  have hcS : bt (S ||| my_bit w) w = true := by rw [b_or, my_bitb (by omega)]; simp
  refine ⟨Or.inl rfl, Or.inr ⟨w, hw, hs, rfl, ?_⟩⟩
  rw [mw_m1]
  refine mw_nbs h (fun b hb => ?_)
  rw [mc_LbN hw hcS hb (fun j _ => by rw [Int32.or_zero]) (fun j _ _ => mw_rc w j) (hsn 20 (by omega))]
  have hx := mc_W2 f5 (mu_k (upd ac w (nI b))) hneg (-1) hw hcS (mp_ww hw hs (-1) hb)
  rw [← hx]
  have hp : 0 < 2 ^ me_R (S ||| my_bit w) := Nat.two_pow_pos _
  exact ⟨fun y => Nat.mul_pos hp y, fun y => Nat.pos_of_mul_pos_left y⟩
theorem mw_WT (hC : mr_C S ac) {w : Nat} (hw : w < 20) (hs : bt S w = false) (hF : mk_F (S ||| my_bit w) me_b lk ko co sz n z) {t : Nat} (ht : t ≤ 20) {ct nb : Int32} {mi : Nat → Int32} (h : mq_N (some w) 0 nb (fun c b => mg_K (mc_Lb (bt ((S ||| my_bit w) ||| me_b)) (mq_r (mp_r (some w))) c b) (mf_ks (mp_z n (me_R (S ||| my_bit w)) z) co (n + 1)) (mp_w S ac (some w) t))) :
    mr_XC S ac (nI w) (nI t) ct nb ko sz mi := by
  obtain ⟨f1, f2, f3, f4, f5, f6, f7, f8, f9⟩ := hF
  have eK : mf_ks (mp_z n (me_R (S ||| my_bit w)) z) co (n + 1) = mf_ks (mp_z n (me_R (S ||| my_bit w)) z) co n ++ [(me_R (S ||| my_bit w), me_b)] := by rw [mf_ks_s, mp_zn, f7]
  have f5' : List.Perm (mg_flat (mf_ks (mp_z n (me_R (S ||| my_bit w)) z) co n)) ((me_E (S ||| my_bit w)).map (me_mk (S ||| my_bit w))) := by
    rw [mf_flat, mp_ks]; exact f5
  have hnn : ¬ (t : Int) < 0 := by omega
  have hsn : me_lo (S ||| my_bit w) := mr_orl hC.1 (my_bitlo hw)
  have hcS : bt (S ||| my_bit w) w = true := by rw [b_or, my_bitb (by omega)]; simp
  refine ⟨mr_Tn ht, Or.inr ⟨w, hw, hs, rfl, ?_⟩⟩
  rw [nI_toInt (by omega)]
  refine mw_nbs h (fun b hb => ?_)
  rw [mc_LbT hw hcS hb (fun j _ => by rw [b_or, me_bb]) (fun j _ _ => mw_rc w j) (hsn 20 (by omega)), eK]
  rw [mc_W1 f5' (mu_k (upd ac w (nI b))) hnn hw hcS (mp_ww hw hs t hb)]
end
section
variable {f_shown f_total f_knownMined f_knownFree f_lastKind f_listed f_count f_numbers f_countedCell f_countedMines f_counted : Int32} {a_around a_clueOf a_kindOf a_cluesOf a_sizes a_clueList a_missing a_room a_links a_laterRoom a_linkEnd a_taken a_most a_countBefore a_ways a_minesIn : Nat → Int32}
variable {ac : Nat → Int32}
theorem mw_24 (hC : mr_C f_shown ac) (hX : mr_X f_shown ac a_clueOf) (hA : mr_A a_around) {cell mines : Int32} (hcell : cell = -1 ∨ ∃ w, w < 20 ∧ bt f_shown w = false ∧ cell = nI w) (hm : mr_T mines) {post : SX → Prop}
    (h : ∀ (f_lastKind1 f_listed1 f_count1 f_numbers1 f_countedCell1 f_countedMines1 f_counted1 : Int32) (a_kindOf1 a_cluesOf1 a_sizes1 a_clueList1 a_missing1 a_room1 a_links1 a_laterRoom1 a_linkEnd1 a_taken1 a_most1 a_countBefore1 a_ways1 a_minesIn1 : Nat → Int32), f_counted1 = 1 → mr_XC f_shown ac f_countedCell1 f_countedMines1 f_count1 f_numbers1 a_kindOf1 a_sizes1 a_minesIn1 → f_countedCell1 = cell → f_countedMines1 = mines → post (f_shown, f_total, f_knownMined, f_knownFree, f_lastKind1, f_listed1, f_count1, f_numbers1, f_countedCell1, f_countedMines1, f_counted1, a_around, a_clueOf, a_kindOf1, a_cluesOf1, a_sizes1, a_clueList1, a_missing1, a_room1, a_links1, a_laterRoom1, a_linkEnd1, a_taken1, a_most1, a_countBefore1, a_ways1, a_minesIn1)) : wX_countWith_24 post cell mines f_shown f_total f_knownMined f_knownFree f_lastKind f_listed f_count f_numbers f_countedCell f_countedMines f_counted a_around a_clueOf a_kindOf a_cluesOf a_sizes a_clueList a_missing a_room a_links a_laterRoom a_linkEnd a_taken a_most a_countBefore a_ways a_minesIn := by
  unfold wX_countWith_24
  obtain ⟨sn, wt, hsnl, hsn, hwt⟩ : ∃ (sn : Int32) (wt : Option Nat), me_lo sn ∧ ((cell = -1 ∧ sn = f_shown) ∨ ∃ w, w < 20 ∧ cell = nI w ∧ sn = f_shown ||| my_bit w) ∧ ((cell = -1 ∧ wt = none ∧ sn = f_shown) ∨ ∃ c, c < 20 ∧ cell = nI c ∧ wt = some c ∧ bt f_shown c = false ∧ sn = f_shown ||| my_bit c) := by
    rcases hcell with e | ⟨w, hw, hs, e⟩
    · exact ⟨f_shown, none, hC.1, Or.inl ⟨e, rfl⟩, Or.inl ⟨e, rfl, rfl⟩⟩
    · exact ⟨f_shown ||| my_bit w, some w, mr_orl hC.1 (my_bitlo hw), Or.inr ⟨w, hw, e, rfl⟩, Or.inr ⟨w, hw, e, rfl, hs, rfl⟩⟩
  have shn : ∀ j, bt f_shown j = true → ¬ wt = some j := by
    intro j hj y
    rcases hwt with ⟨_, q, _⟩ | ⟨c, _, _, q, r, _⟩
    · rw [q] at y; cases y
    · rw [q] at y; cases y; rw [r] at hj; cases hj
  have hm1 : ∀ (T : Int) (j : Nat), j < 20 → bt f_shown j = true → nI (mp_w f_shown ac wt T j).toNat = a_clueOf j ∧ nI (mp_r wt j) = 0 := by
    intro T j hj hs
    obtain ⟨m, hm8, e⟩ := (hC.2 j hj).1 hs
    have e2 : mp_w f_shown ac wt T j = (m : Int) := by
      simp only [mp_w, show ¬ j = 20 by omega, if_false]
      rw [if_neg (shn j hs), if_pos hs, mu_k, e, nI_toInt (by omega)]
    rw [e2, mp_r, if_neg (shn j hs), (hX j hj).1 hs, e]
    exact ⟨rfl, rfl⟩
  have hw8 : ∀ (T : Int) (c : Nat), c < 20 → wt = some c → nI (mp_w f_shown ac wt T c).toNat = 8 ∧ nI (mp_r wt c) = 8 := by
    intro T c hc hcw
    have e2 : mp_w f_shown ac wt T c = 8 := by
      simp only [mp_w, show ¬ c = 20 by omega, if_false]
      rw [if_pos hcw]
    rw [e2, mp_r, if_pos hcw]
    exact ⟨rfl, rfl⟩
  have hwl : ∀ T : Int, (cell = -1 ∧ wt = none) ∨ ∃ c, c < 20 ∧ cell = nI c ∧ wt = some c ∧ bt f_shown c = false ∧ nI (mp_w f_shown ac wt T c).toNat = 8 ∧ nI (mp_r wt c) = 8 := by
    intro T
    rcases hwt with ⟨e, q, _⟩ | ⟨c, hc, e, q, r, _⟩
    · exact Or.inl ⟨e, q⟩
    · obtain ⟨g1, g2⟩ := hw8 T c hc q
      exact Or.inr ⟨c, hc, e, q, r, g1, g2⟩
  rcases hm with rfl | ⟨t, ht, rfl⟩
  · refine mx_kinds hA hC.1 hsn (Or.inl ⟨rfl, rfl⟩) (fun lk ko co sz n z hF => ?_)
    have hF' := hF
    obtain ⟨f1, f2, f3, f4, f5, f6, f7, f8, f9⟩ := hF'
    have hR := me_ER20 sn
    have vl : vp_in lk 21 := by rw [f1]; exact vp_in_nI (by omega) (by omega)
    have cl : lk.toNatClampNeg = n := by rw [f1]; exact nI_clamp (by omega)
    refine mx_clues hC.1 (mv := fun j => nI (mp_w f_shown ac wt (-1) j).toNat) (rv := fun j => nI (mp_r wt j)) (fun j hj hs => hm1 (-1) j hj hs) (hwl (-1)) (t := false) (Or.inl ⟨rfl, rfl⟩) (fun ls cl' ms rm hL => br_t rfl ⟨vl, nm_r (e' := upd a_ways 0 (nI (2 ^ me_R sn))) (by rw [cl, f8, my_p2 _ (by omega)]) ?_⟩)
    have goal := mp_sN (f_total := f_total) (f_knownMined := f_knownMined) (f_knownFree := f_knownFree) (f_count := 0) (f_numbers := 0) (f_countedCell := cell) (f_countedMines := -1) (f_counted := 1) (a_around := a_around) (a_links := a_links) (a_laterRoom := a_laterRoom) (a_linkEnd := a_linkEnd) (a_taken := a_taken) (a_most := a_most) (a_countBefore := a_countBefore) (a_ways := upd a_ways 0 (nI (2 ^ me_R sn))) (a_minesIn := a_minesIn) hC hX hsnl hwt hF hL
      (post := fun u => match u with | (f_shownq, f_totalq, f_knownMinedq, f_knownFreeq, f_lastKindq, f_listedq, f_countq, f_numbersq, f_countedCellq, f_countedMinesq, f_countedq, a_aroundq, a_clueOfq, a_kindOfq, a_cluesOfq, a_sizesq, a_clueListq, a_missingq, a_roomq, a_linksq, a_laterRoomq, a_linkEndq, a_takenq, a_mostq, a_countBeforeq, a_waysq, a_minesInq) => (vp_in f_lastKindq 21 ∧ (¬ (2 : Int32) = 0 ∧ (vp_in f_lastKindq 21 ∧ ∀ mi : Nat → Int32, mi = upd a_minesInq f_lastKindq.toNatClampNeg ((f_countq * (a_sizesq f_lastKindq.toNatClampNeg)) / 2) → post (f_shownq, f_totalq, f_knownMinedq, f_knownFreeq, f_lastKindq, f_listedq, f_countq, f_numbersq, f_countedCellq, f_countedMinesq, f_countedq, a_aroundq, a_clueOfq, a_kindOfq, a_cluesOfq, a_sizesq, a_clueListq, a_missingq, a_roomq, a_linksq, a_laterRoomq, a_linkEndq, a_takenq, a_mostq, a_countBeforeq, a_waysq, mi))))) ?_
    · rw [← f1] at goal
      exact goal
    · intro rm' lk' lr' le' ct' nb' ms' tk' mo' cb' wy' mi' g1 g2 g3
      refine ⟨vl, by decide, vl, nm_r (e' := upd mi' n (ct' * sz n / 2)) (by rw [cl]) (h _ _ _ _ _ _ _ _ _ _ _ _ _ _ _ _ _ _ _ _ _ rfl ?_ rfl rfl)⟩
      rw [pk_us] at g1 g2
      rcases hwt with ⟨e, q, r⟩ | ⟨c, hc, e, q, r, s⟩
      · subst e q r
        exact mw_N hC hF g1 g2
      · subst e q s
        exact mw_WN hC hc r hF g3
  · have hne : ¬ nI t = -1 := by
      intro y
      have : (nI t).toInt = (-1 : Int32).toInt := by rw [← y]
      rw [nI_toInt (by omega), mw_m1] at this
      omega
    refine mx_kinds hA hC.1 hsn (Or.inr ⟨hne, rfl⟩) (fun lk ko co sz n z hF => ?_)
    have hF' := hF
    obtain ⟨f1, f2, f3, f4, f5, f6, f7, f8, f9⟩ := hF'
    refine mx_clues hC.1 (mv := fun j => nI (mp_w f_shown ac wt t j).toNat) (rv := fun j => nI (mp_r wt j)) (fun j hj hs => hm1 t j hj hs) (hwl t) (t := true) (Or.inr ⟨hne, rfl, ?_, ?_⟩) (fun ls cl' ms rm hL => br_f hne (nm_e ?_))
    · simp [mp_w]
    · have : ¬ wt = some 20 := by
        intro y
        rcases hwt with ⟨_, q, _⟩ | ⟨c, hc, _, q, _, _⟩
        · rw [q] at y; cases y
        · rw [q] at y; cases y; omega
      rw [mp_r, if_neg this]; rfl
    have goal := mp_sT (f_total := f_total) (f_knownMined := f_knownMined) (f_knownFree := f_knownFree) (f_count := 0) (f_numbers := 0) (f_countedCell := cell) (f_countedMines := nI t) (f_counted := 1) (a_around := a_around) (a_links := a_links) (a_laterRoom := a_laterRoom) (a_linkEnd := a_linkEnd) (a_taken := a_taken) (a_most := a_most) (a_countBefore := a_countBefore) (a_ways := upd a_ways 0 1) (a_minesIn := a_minesIn) hC hX hsnl hwt hF ht hL
      (post := fun u => match u with | (f_shownq, f_totalq, f_knownMinedq, f_knownFreeq, f_lastKindq, f_listedq, f_countq, f_numbersq, f_countedCellq, f_countedMinesq, f_countedq, a_aroundq, a_clueOfq, a_kindOfq, a_cluesOfq, a_sizesq, a_clueListq, a_missingq, a_roomq, a_linksq, a_laterRoomq, a_linkEndq, a_takenq, a_mostq, a_countBeforeq, a_waysq, a_minesInq) => post (f_shownq, f_totalq, f_knownMinedq, f_knownFreeq, f_lastKindq, f_listedq, f_countq, f_numbersq, f_countedCellq, f_countedMinesq, f_countedq, a_aroundq, a_clueOfq, a_kindOfq, a_cluesOfq, a_sizesq, a_clueListq, a_missingq, a_roomq, a_linksq, a_laterRoomq, a_linkEndq, a_takenq, a_mostq, a_countBeforeq, a_waysq, a_minesInq)) ?_
    · rw [← nI_1, ← f1] at goal
      exact goal
    · intro rm' lk' lr' le' ct' nb' ms' tk' mo' cb' wy' mi' g1 g2 g3
      refine h _ _ _ _ _ _ _ _ _ _ _ _ _ _ _ _ _ _ _ _ _ rfl ?_ rfl rfl
      rw [pk_us] at g1 g2
      rcases hwt with ⟨e, q, r⟩ | ⟨c, hc, e, q, r, s⟩
      · subst e q r
        exact mw_T hC hF ht g1 g2
      · subst e q s
        exact mw_WT hC hc r hF ht g3
theorem mw_count (hC : mr_C f_shown ac) (hX : mr_X f_shown ac a_clueOf) (hA : mr_A a_around) (hcache : f_counted = 0 ∨ mr_XC f_shown ac f_countedCell f_countedMines f_count f_numbers a_kindOf a_sizes a_minesIn) {cell mines : Int32} (hcell : cell = -1 ∨ ∃ w, w < 20 ∧ bt f_shown w = false ∧ cell = nI w) (hm : mr_T mines) {post : SX → Prop}
    (h : ∀ (f_lastKind1 f_listed1 f_count1 f_numbers1 f_countedCell1 f_countedMines1 f_counted1 : Int32) (a_kindOf1 a_cluesOf1 a_sizes1 a_clueList1 a_missing1 a_room1 a_links1 a_laterRoom1 a_linkEnd1 a_taken1 a_most1 a_countBefore1 a_ways1 a_minesIn1 : Nat → Int32), (f_counted1 = 0 ∨ mr_XC f_shown ac f_countedCell1 f_countedMines1 f_count1 f_numbers1 a_kindOf1 a_sizes1 a_minesIn1) → mr_XC f_shown ac cell mines f_count1 f_numbers1 a_kindOf1 a_sizes1 a_minesIn1 → post (f_shown, f_total, f_knownMined, f_knownFree, f_lastKind1, f_listed1, f_count1, f_numbers1, f_countedCell1, f_countedMines1, f_counted1, a_around, a_clueOf, a_kindOf1, a_cluesOf1, a_sizes1, a_clueList1, a_missing1, a_room1, a_links1, a_laterRoom1, a_linkEnd1, a_taken1, a_most1, a_countBefore1, a_ways1, a_minesIn1)) : wpX_countWith post (f_shown, f_total, f_knownMined, f_knownFree, f_lastKind, f_listed, f_count, f_numbers, f_countedCell, f_countedMines, f_counted, a_around, a_clueOf, a_kindOf, a_cluesOf, a_sizes, a_clueList, a_missing, a_room, a_links, a_laterRoom, a_linkEnd, a_taken, a_most, a_countBefore, a_ways, a_minesIn) cell mines := by
  have main : wX_countWith_24 post cell mines f_shown f_total f_knownMined f_knownFree f_lastKind f_listed f_count f_numbers f_countedCell f_countedMines f_counted a_around a_clueOf a_kindOf a_cluesOf a_sizes a_clueList a_missing a_room a_links a_laterRoom a_linkEnd a_taken a_most a_countBefore a_ways a_minesIn := mw_24 hC hX hA hcell hm (by
    intro a1 a2 a3 a4 a5 a6 a7 a8 a9 b1 b2 b3 b4 b5 b6 b7 b8 b9 c1 c2 c3 hc hxc e1 e2
    refine h _ _ _ _ _ _ _ _ _ _ _ _ _ _ _ _ _ _ _ _ _ (Or.inr hxc) ?_
    rw [← e1, ← e2]
    exact hxc)
  by_cases y : f_counted = 0
  · exact br_t y main
  · have hx := hcache.resolve_left y
    refine br_f y (br_c (fun e1 => br_c (fun e2 => ?_) (fun _ => main)) (fun _ => main))
    refine h _ _ _ _ _ _ _ _ _ _ _ _ _ _ _ _ _ _ _ _ _ (Or.inr hx) ?_
    rw [e1, e2]
    exact hx
end
