/-! the reference's tree of sets of edge cells -/
def my_bit (e : Nat) : Int32 := (1 : Int32) <<< (nI e &&& 31)
theorem my_bitb {e : Nat} (he : e < 32) (j : Nat) : bt (my_bit e) j = decide (j = e) := by
  rcases Nat.lt_or_ge j 32 with h | h
  · exact (by decide +kernel : ∀ e, e < 32 → ∀ j, j < 32 → bt (my_bit e) j = decide (j = e)) e he j h
  · rw [b_big h, decide_eq_false (by omega)]
theorem my_bitlo {e : Nat} (he : e < 20) : me_lo (my_bit e) := fun j hj => by rw [my_bitb (by omega), decide_eq_false (by omega)]
theorem my_cadd {x : Int32} {e : Nat} (he : e < 20) (hx : bt x e = false) : me_c (x ||| my_bit e) = me_c x + 1 := by
  refine mb_one hx ?_ he (fun i _ hn => ?_)
  · rw [b_or, my_bitb (by omega)]; simp
  · rw [b_or, my_bitb (by omega), decide_eq_false hn, Bool.or_false]
theorem my_cand {t x : Int32} {e : Nat} (he : e < 20) (hx : bt x e = false) : me_c (t &&& (x ||| my_bit e)) = me_c (t &&& x) + (if bt t e = true then 1 else 0) := by
  by_cases h : bt t e = true
  · rw [if_pos h]
    refine mb_one (p := bt (t &&& x)) ?_ ?_ he (fun i _ hn => ?_)
    · rw [b_and, hx, Bool.and_false]
    · rw [b_and, b_or, my_bitb (by omega), h]; simp
    · rw [b_and, b_and, b_or, my_bitb (by omega), decide_eq_false hn, Bool.or_false]
  · rw [if_neg h, Nat.add_zero]
    refine mb_eq (fun i _ => ?_)
    rw [b_and, b_and, b_or, my_bitb (by omega)]
    by_cases z : i = e
    · subst z
      have : bt t i = false := by simpa using h
      rw [this]; simp
    · rw [decide_eq_false z, Bool.or_false]
def my_w (S : Int32) (kl : Nat → Int) (M : Int32) (m : Int) : Nat → Int := fun j => if j = 20 then m - (me_c M : Int) else if bt S j = true then kl j - (me_c (me_t j &&& M) : Int) else 0
theorem my_c0 : me_c 0 = 0 := mb_of0 (fun i _ => b_0 i)
theorem my_w0 (S : Int32) (kl : Nat → Int) (m : Int) : my_w S kl 0 m = me_w S kl m := by
  funext j
  simp only [my_w, me_w, Int32.and_zero, my_c0]
  by_cases h : j = 20 <;> simp [h]
theorem my_wadd {S : Int32} (hS : me_lo S) (kl : Nat → Int) {M : Int32} (m : Int) {e : Nat} (he : e < 20) (hM : bt M e = false) : my_w S kl (M ||| my_bit e) m = mg_sub (my_w S kl M m) (me_mk S e) := by
  funext j
  simp only [my_w, mg_sub]
  by_cases h : j = 20
  · subst h
    rw [me_mk20, my_cadd he hM]
    simp; omega
  · rw [if_neg h, if_neg h]
    rcases Nat.lt_or_ge j 20 with hj | hj
    · rw [me_mkb S hj, my_cand he hM, me_btS he hj]
      cases hb : bt S j
      · simp
      · cases ht : bt (me_t j) e <;> simp <;> omega
    · rw [hS j hj]
      have : bt (me_mk S e) j = false := by
        rw [me_mk, b_or, b_and, me_bb, me_btH he hj, decide_eq_false h]; rfl
      rw [this]; simp
theorem my_high {L : (Nat → Int) → Nat} {j : Nat} {r : Int} (h : ∀ w : Nat → Int, r < w j → L w = 0) : ∀ (l : List Int32) (w : Nat → Int), r + ((l.countP (fun m => bt m j) : Nat) : Int) < w j → mg_G L l w = 0
  | [], w, hw => h w (by simpa using hw)
  | m :: l, w, hw => by
    rw [List.countP_cons] at hw
    have e : r + ((l.countP (fun m => bt m j) : Nat) : Int) < mg_sub w m j := by
      simp only [mg_sub]
      cases hb : bt m j <;> simp [hb] at hw ⊢ <;> omega
    have e2 : r + ((l.countP (fun m => bt m j) : Nat) : Int) < w j := by
      cases hb : bt m j <;> simp [hb] at hw <;> omega
    simp only [mg_G]
    rw [my_high h l w e2, my_high h l _ e]
def my_B (L : (Nat → Int) → Nat) (f : Nat → Int32) (c : Nat) : List Nat → Bool → (Nat → Int) → Nat
  | [], q, w => if q = true then L w else 0
  | e :: es, q, w => my_B L f c es q w + my_B L f c es (q || decide (e = c)) (mg_sub w (f e))
theorem my_Bt (L : (Nat → Int) → Nat) (f : Nat → Int32) (c : Nat) : ∀ (es : List Nat) (w : Nat → Int), my_B L f c es true w = mg_G L (es.map f) w
  | [], w => rfl
  | e :: es, w => by rw [my_B, List.map_cons, mg_G, Bool.true_or, my_Bt L f c es, my_Bt L f c es]
theorem my_Bn (L : (Nat → Int) → Nat) (f : Nat → Int32) (c : Nat) : ∀ (es : List Nat) (w : Nat → Int), c ∉ es → my_B L f c es false w = 0
  | [], w, _ => rfl
  | e :: es, w, h => by
    simp only [List.mem_cons, not_or] at h
    rw [my_B, Bool.false_or, decide_eq_false (fun z => h.1 z.symm), my_Bn L f c es _ h.2, my_Bn L f c es _ h.2]
theorem my_Bf (L : (Nat → Int) → Nat) (f : Nat → Int32) (c : Nat) : ∀ (es : List Nat) (w : Nat → Int), c ∈ es → es.Nodup → my_B L f c es false w = mg_G L ((es.erase c).map f) (mg_sub w (f c))
  | [], w, h, _ => by simp at h
  | e :: es, w, h, nd => by
    rw [List.nodup_cons] at nd
    by_cases z : e = c
    · subst z
      rw [my_B, my_Bn L f e es _ nd.1, decide_eq_true rfl, Bool.false_or, my_Bt, List.erase_cons_head]; omega
    · have hm : c ∈ es := by
        rcases List.mem_cons.mp h with y | y
        · exact absurd y.symm z
        · exact y
      rw [my_B, decide_eq_false z, Bool.false_or, my_Bf L f c es _ hm nd.2, my_Bf L f c es _ hm nd.2, List.erase_cons_tail (by simpa using z), List.map_cons, mg_G, mg_comm]
theorem my_Bz (f : Nat → Int32) (c : Nat) {j : Nat} {L : (Nat → Int) → Nat} : ∀ (es : List Nat) (q : Bool) (w : Nat → Int), mg_G L (es.map f) w = 0 → my_B L f c es q w = 0
  | [], q, w, h => by
    simp only [List.map_nil, mg_G] at h
    rw [my_B, h]; simp
  | e :: es, q, w, h => by
    rw [List.map_cons, mg_G] at h
    rw [my_B, my_Bz (j := j) f c es q w (by omega), my_Bz (j := j) f c es _ _ (by omega)]
/-! one node of the tree -/
noncomputable def my_A (S : Int32) (kl : Nat → Int) (es : List Nat) (M : Int32) (m : Nat) : Nat := mg_G (mg_L (bt S)) (es.map (me_mk S)) (my_w S kl M m)
noncomputable def my_D (S : Int32) (kl : Nat → Int) (c : Nat) (es : List Nat) (M : Int32) (m : Nat) : Nat := my_B (mg_L (bt S)) (me_mk S) c es (bt M c) (my_w S kl M m)
theorem my_Ac {S : Int32} (hS : me_lo S) (kl : Nat → Int) {e : Nat} (es : List Nat) {M : Int32} (m : Nat) (he : e < 20) (hM : bt M e = false) : my_A S kl (e :: es) M m = my_A S kl es M m + my_A S kl es (M ||| my_bit e) m := by
  simp only [my_A, List.map_cons, mg_G]
  rw [my_wadd hS kl m he hM]
theorem my_Dc {S : Int32} (hS : me_lo S) (kl : Nat → Int) {c e : Nat} (es : List Nat) {M : Int32} (m : Nat) (he : e < 20) (hM : bt M e = false) : my_D S kl c (e :: es) M m = my_D S kl c es M m + my_D S kl c es (M ||| my_bit e) m := by
  simp only [my_D, my_B]
  rw [my_wadd hS kl m he hM, b_or, my_bitb (by omega)]
  congr 2
  by_cases z : e = c
  · simp [z]
  · rw [decide_eq_false z, decide_eq_false (fun y => z y.symm)]
/-- the leaf -/
theorem my_A0 {S : Int32} (kl : Nat → Int) {M : Int32} (m : Nat) (h : ∀ d, d < 20 → bt S d = true → kl d = (me_c (me_t d &&& M) : Int)) : my_A S kl [] M m = if m = me_c M then 1 else 0 := by
  simp only [my_A, List.map_nil, mg_G, mg_L]
  by_cases z : m = me_c M
  · rw [if_pos z]
    refine mg_i_t ⟨fun j hj hs => ?_, ?_⟩
    · have := h j hj hs
      simp only [my_w, show j ≠ 20 by omega, if_false, hs, if_true]; omega
    · simp only [my_w, if_true]; omega
  · rw [if_neg z]
    refine mg_i_f (fun y => ?_)
    have := y.2
    simp only [my_w, if_true] at this; omega
theorem my_D0 {S : Int32} (kl : Nat → Int) {M : Int32} (c m : Nat) (h : ∀ d, d < 20 → bt S d = true → kl d = (me_c (me_t d &&& M) : Int)) : my_D S kl c [] M m = if m = me_c M ∧ bt M c = true then 1 else 0 := by
  have e := my_A0 kl m h
  simp only [my_A, List.map_nil, mg_G] at e
  simp only [my_D, my_B]
  rw [e]
  by_cases z : bt M c = true <;> simp [z]
/-- the number of cells of es beside d -/
def my_n (d : Nat) (es : List Nat) : Nat := es.countP (fun e => bt (me_t d) e)
theorem my_nA {S : Int32} {d : Nat} (hd : d < 20) (hs : bt S d = true) : ∀ (es : List Nat), (∀ e, e ∈ es → e < 20) → (es.map (me_mk S)).countP (fun m => bt m d) = my_n d es
  | [], _ => rfl
  | e :: es, h => by
    rw [List.map_cons, List.countP_cons, my_nA hd hs es (fun x hx => h x (by simp [hx])), my_n, my_n, List.countP_cons, me_mkb S hd, hs, Bool.and_true, me_btS (h e (by simp)) hd]
/-- what can't be any more -/
theorem my_Az {S : Int32} (kl : Nat → Int) {es : List Nat} {M : Int32} {d : Nat} (hd : d < 20) (hs : bt S d = true) (hes : ∀ e, e ∈ es → e < 20) (h : kl d < (me_c (me_t d &&& M) : Int) ∨ (me_c (me_t d &&& M) : Int) + (my_n d es : Int) < kl d) (m : Nat) : my_A S kl es M m = 0 := by
  have e : my_w S kl M m d = kl d - (me_c (me_t d &&& M) : Int) := by simp only [my_w, show d ≠ 20 by omega, if_false, hs, if_true]
  rcases h with h | h
  · refine mg_neg (j := d) (fun w hw => mg_i_f (fun z => ?_)) _ _ (by rw [e]; omega)
    have := z.1 d hd hs; omega
  · refine my_high (j := d) (r := 0) (fun w hw => mg_i_f (fun z => ?_)) _ _ ?_
    · have := z.1 d hd hs; omega
    · rw [e, my_nA hd hs es hes]; omega
theorem my_Dz {S : Int32} {kl : Nat → Int} {es : List Nat} {M : Int32} {m : Nat} (c : Nat) (h : my_A S kl es M m = 0) : my_D S kl c es M m = 0 := my_Bz (j := 0) _ _ _ _ _ h
/-- the root -/
theorem my_A1 (S : Int32) (kl : Nat → Int) (m : Nat) : my_A S kl (me_E S) 0 m = me_F S kl m := by rw [my_A, my_w0, me_F]
theorem my_D1 (S : Int32) (kl : Nat → Int) {c : Nat} (hc : c ∈ me_E S) (m : Nat) : my_D S kl c (me_E S) 0 m = me_Fc S kl c m := by
  rw [my_D, my_w0, me_Fc, b_0, my_Bf _ _ _ _ _ hc (me_E_nd S)]
