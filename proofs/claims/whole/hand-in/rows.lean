section
theorem pk_us {f : Nat → Int32} {k : Nat} {x : Int32} : upd f k x k = x := if_pos rfl
theorem pk_un {f : Nat → Int32} {k j : Nat} {x : Int32} (h : j ≠ k) : upd f k x j = f j := if_neg h
theorem pk_sub {a b : Nat} (h : b ≤ a) : nI a - nI b = nI (a - b) := by
  obtain ⟨c, rfl⟩ : ∃ c, a = c + b := ⟨a - b, by omega⟩
  rw [← nI_add, Int32.add_sub_cancel, Nat.add_sub_cancel]
theorem pk_m1 (n : Nat) : nI (n + 1) + (-1) = nI n := by
  rw [← nI_1, Int32.add_assoc, show (1 : Int32) + (-1) = 0 from rfl, Int32.add_zero]
theorem pk_mul (a b : Nat) : nI a * nI b = nI (a * b) := (Int32.ofNat_mul a b).symm
theorem pk_div {a d : Nat} (ha : a < 2 ^ 31) (h0 : 0 < d) (hd : d < 2 ^ 31) : nI a / nI d = nI (a / d) := by
  apply Int32.toInt_inj.mp
  rw [lg_idiv_nonneg (by rw [nI_toInt ha]; omega) (by rw [nI_toInt hd]; omega), nI_toInt ha, nI_toInt hd, nI_toInt (Nat.lt_of_le_of_lt (Nat.div_le_self a d) ha)]
  first | rfl | exact (Int.natCast_ediv _ _).symm
theorem pk_rem {a d : Nat} (ha : a < 2 ^ 31) (h0 : 0 < d) (hd : d < 2 ^ 31) : nI a - nI a / nI d * nI d = nI (a % d) := by
  rw [pk_div ha h0 hd, pk_mul, pk_sub (Nat.div_mul_le_self a d)]
  exact congrArg nI (by have := Nat.div_add_mod' a d; omega)
theorem pk_sub_toInt {a b : Nat} (ha : a < 2 ^ 30) (hb : b < 2 ^ 30) : (nI a - nI b).toInt = (a : Int) - b := by
  rw [Int32.toInt_sub, nI_toInt (by omega), nI_toInt (by omega)]
  exact Int.bmod_eq_of_le (by omega) (by omega)
theorem pk_sneg {a b : Nat} (hb : b < 2 ^ 30) (h : a < b) : nI a - nI b < 0 := by
  rw [Int32.lt_iff_toInt_lt, pk_sub_toInt (by omega) hb, show (0 : Int32).toInt = 0 from by decide]
  omega
theorem pk_ix (x : Int32) {n : Nat} (hn : n < 2 ^ 31) : x < 0 ∨ nI n ≤ x ∨ ∃ j : Nat, j < n ∧ x = nI j := by
  by_cases h : x < 0
  · exact Or.inl h
  · obtain ⟨j, hj, rfl⟩ := nI_of h
    by_cases h2 : j < n
    · exact Or.inr (Or.inr ⟨j, h2, rfl⟩)
    · exact Or.inr (Or.inl (nI_le (by omega) hj))
theorem pk_le {x y : Int32} {A B : Prop} (a b : Nat) (f : a ≤ b → A) (g : b < a → B) (hx : x = nI a := by rfl) (hy : y = nI b := by rfl) (ha : a < 2 ^ 31 := by omega) (hb : b < 2 ^ 31 := by omega) : (x ≤ y → A) ∧ (¬ x ≤ y → B) := by
  subst hx hy
  rw [nI_leI ha hb]
  exact ⟨f, fun z => g (by omega)⟩
theorem pk_lt {x y : Int32} {A B : Prop} (a b : Nat) (f : a < b → A) (g : b ≤ a → B) (hx : x = nI a := by rfl) (hy : y = nI b := by rfl) (ha : a < 2 ^ 31 := by omega) (hb : b < 2 ^ 31 := by omega) : (x < y → A) ∧ (¬ x < y → B) := by
  subst hx hy
  rw [nI_ltI ha hb]
  exact ⟨f, fun z => g (by omega)⟩
theorem pk_eq {x y : Int32} {A B : Prop} (a b : Nat) (f : a = b → A) (g : a ≠ b → B) (hx : x = nI a := by rfl) (hy : y = nI b := by rfl) (ha : a < 2 ^ 31 := by omega) (hb : b < 2 ^ 31 := by omega) : (x = y → A) ∧ (¬ x = y → B) := by
  subst hx hy
  rw [nI_eq ha hb]
  exact ⟨f, g⟩
theorem pk_in {x : Int32} (n N : Nat) (h : n < N) (hx : x = nI n := by rfl) (hN : N < 2 ^ 31 := by omega) : vp_in x N := by
  subst hx
  exact vp_in_nI h hN
theorem pk_cl {x : Int32} (n : Nat) (hx : x = nI n := by rfl) (h : n < 2 ^ 31 := by omega) : x.toNatClampNeg = n := by
  subst hx
  exact nI_clamp h
theorem pk_tn {n : Nat} (h : n < 2 ^ 32) : (nI n).toBitVec.toNat = n := Nat.mod_eq_of_lt h
theorem pk_and (x : Int32) {m : Int32} (k : Nat) (hm : m.toBitVec.toNat = 2 ^ k - 1) : x &&& m = nI (x.toBitVec.toNat % 2 ^ k) := by
  apply Int32.toBitVec_inj.mp
  apply BitVec.eq_of_toNat_eq
  rw [Int32.toBitVec_and, BitVec.toNat_and, hm, Nat.and_two_pow_sub_one_eq_mod]
  show _ = (BitVec.ofNat 32 _).toNat
  rw [BitVec.toNat_ofNat]
  exact (Nat.mod_eq_of_lt (Nat.lt_of_le_of_lt (Nat.mod_le _ _) x.toBitVec.isLt)).symm
theorem pk_andN {n : Nat} (h : n < 2 ^ 32) {m : Int32} (k : Nat) (hm : m.toBitVec.toNat = 2 ^ k - 1) : nI n &&& m = nI (n % 2 ^ k) := by
  rw [pk_and _ k hm, pk_tn h]
theorem pk_andE (x : Int32) {m : Int32} (k : Nat) (hm : m.toBitVec.toNat = 2 ^ k - 1) : ∃ j : Nat, j < 2 ^ k ∧ x &&& m = nI j := ⟨_, Nat.mod_lt _ (Nat.two_pow_pos k), pk_and x k hm⟩
theorem pk_shl (a s : Int32) (k : Nat) (hs : (s.toBitVec.smod 32).toNat = k) : (a <<< s).toBitVec.toNat = a.toBitVec.toNat * 2 ^ k % 2 ^ 32 := by
  show (a.toBitVec <<< (s.toBitVec.smod 32).toNat).toNat = _
  rw [hs, BitVec.toNat_shiftLeft, Nat.shiftLeft_eq]
theorem pk_shlN {n : Nat} (s : Int32) (k : Nat) (hs : (s.toBitVec.smod 32).toNat = k) (h : n * 2 ^ k < 2 ^ 32) : nI n <<< s = nI (n * 2 ^ k) := by
  apply Int32.toBitVec_inj.mp
  apply BitVec.eq_of_toNat_eq
  have hn : n < 2 ^ 32 := Nat.lt_of_le_of_lt (Nat.le_mul_of_pos_right n (Nat.two_pow_pos k)) h
  rw [pk_shl _ _ k hs, pk_tn hn, pk_tn h, Nat.mod_eq_of_lt h]
theorem pk_shr (a s : Int32) (k : Nat) (hs : (s.toBitVec.smod 32).toNat = k) : (a >>> s).toInt = a.toInt >>> k := by
  show (a.toBitVec.sshiftRight (s.toBitVec.smod 32).toNat).toInt = _
  rw [hs, BitVec.toInt_sshiftRight]
  rfl
theorem pk_shrN {n : Nat} (h : n < 2 ^ 31) (s : Int32) (k : Nat) (hs : (s.toBitVec.smod 32).toNat = k) : nI n >>> s = nI (n / 2 ^ k) := by
  apply Int32.toInt_inj.mp
  have h2 : n / 2 ^ k ≤ n := Nat.div_le_self _ _
  rw [pk_shr _ _ k hs, nI_toInt h, nI_toInt (by omega), Int.shiftRight_eq_div_pow]
  rfl
theorem pk_ushr (x s : Int32) (k : Nat) (hs : ((s.toUInt32 &&& Int32.toUInt32 31).toBitVec % 32).toNat = k) : (x.toUInt32 >>> (s.toUInt32 &&& Int32.toUInt32 31)).toInt32.toBitVec.toNat = x.toBitVec.toNat / 2 ^ k := by
  have e : (x.toUInt32 >>> (s.toUInt32 &&& Int32.toUInt32 31)).toInt32.toBitVec = x.toBitVec >>> k := by
    rw [← hs]
    exact UInt32.toBitVec_shiftRight _ _
  rw [e, BitVec.toNat_ushiftRight, Nat.shiftRight_eq_div_pow]
theorem pk_ushrN {n : Nat} (hn : n < 2 ^ 32) (s : Int32) (k : Nat) (hs : ((s.toUInt32 &&& Int32.toUInt32 31).toBitVec % 32).toNat = k) : ((nI n).toUInt32 >>> (s.toUInt32 &&& Int32.toUInt32 31)).toInt32 = nI (n / 2 ^ k) := by
  apply Int32.toBitVec_inj.mp
  apply BitVec.eq_of_toNat_eq
  rw [pk_ushr _ s k hs, pk_tn hn, pk_tn (Nat.lt_of_le_of_lt (Nat.div_le_self _ _) hn)]
theorem pk_lT {n : Nat} (h : n < 2 ^ 63) : (lN n).toInt = (n : Int) := lg_ofNat_toInt h
theorem pk_lLT {a b : Nat} (ha : a < 2 ^ 63) (hb : b < 2 ^ 63) : lN a < lN b ↔ a < b := by
  rw [Int64.lt_iff_toInt_lt, pk_lT ha, pk_lT hb]; omega
theorem pk_lLE {a b : Nat} (ha : a < 2 ^ 63) (hb : b < 2 ^ 63) : lN a ≤ lN b ↔ a ≤ b := by
  rw [Int64.le_iff_toInt_le, pk_lT ha, pk_lT hb]; omega
theorem pk_lEQ {a b : Nat} (ha : a < 2 ^ 63) (hb : b < 2 ^ 63) : lN a = lN b ↔ a = b := by
  rw [← Int64.toInt_inj, pk_lT ha, pk_lT hb]; omega
theorem pk_lOf {x : Int64} (h : ¬ x < 0) : ∃ k : Nat, k < 2 ^ 63 ∧ x = lN k := by
  rw [Int64.lt_iff_toInt_lt] at h
  have h0 : (0 : Int64).toInt = 0 := by decide
  have hx := Int64.toInt_lt x
  refine ⟨x.toInt.toNat, by omega, Int64.toInt_inj.mp ?_⟩
  rw [pk_lT (by omega)]
  omega
theorem pk_lDiv {a b : Nat} (ha : a < 2 ^ 63) (h0 : 0 < b) (hb : b < 2 ^ 63) : lN a / lN b = lN (a / b) := by
  apply Int64.toInt_inj.mp
  rw [lg_ldiv_nonneg (by rw [pk_lT ha]; omega) (by rw [pk_lT hb]; omega), pk_lT ha, pk_lT hb, pk_lT (Nat.lt_of_le_of_lt (Nat.div_le_self a b) ha)]
  rfl
theorem pk_lRem {a b : Nat} (ha : a < 2 ^ 63) (h0 : 0 < b) (hb : b < 2 ^ 63) : lN a - lN a / lN b * lN b = lN (a % b) := by
  rw [pk_lDiv ha h0 hb, lN_mul, lN_sub (Nat.div_mul_le_self a b)]
  exact congrArg lN (by have := Nat.div_add_mod' a b; omega)
theorem pk_loop {σ : Type} (W : Nat → Nat → σ → Prop) (I : Nat → σ → Prop) (e i0 : Nat) (s : σ) (hi : i0 ≤ e) (h0 : I i0 s) (hx : ∀ n s, I e s → W (n + 1) e s)
    (hs : ∀ n i s, i < e → I i s → (∀ s', I (i + 1) s' → W n (i + 1) s') → W (n + 1) i s) : ∃ n, W n i0 s :=
  ⟨e + 1, loop_i W I e hx hs (e + 1) i0 s hi (by omega) h0⟩
theorem pk_loopD {σ : Type} (W : Nat → Nat → σ → Prop) (I : Nat → σ → Prop) (hx : ∀ n s, I 0 s → W (n + 1) 0 s)
    (hs : ∀ n i s, I (i + 1) s → (∀ s', I i s' → W n i s') → W (n + 1) (i + 1) s) : ∀ (e : Nat) (s : σ), I e s → W (e + 1) e s := by
  intro e
  induction e with
  | zero => exact fun s h => hx 0 s h
  | succ e ih => exact fun s h => hs (e + 1) e s h (fun s' h' => ih s' h')
def bt (x : Int32) (i : Nat) : Bool := x.toBitVec.getLsbD i
theorem b_ext {x y : Int32} (h : ∀ i, i < 32 → bt x i = bt y i) : x = y := Int32.toBitVec_inj.mp (BitVec.eq_of_getLsbD_eq (fun i hi => h i hi))
theorem b_or (x y : Int32) (i : Nat) : bt (x ||| y) i = (bt x i || bt y i) := by unfold bt; rw [Int32.toBitVec_or, BitVec.getLsbD_or]
theorem b_and (x y : Int32) (i : Nat) : bt (x &&& y) i = (bt x i && bt y i) := by unfold bt; rw [Int32.toBitVec_and, BitVec.getLsbD_and]
theorem b_xor (x y : Int32) (i : Nat) : bt (x ^^^ y) i = (bt x i ^^ bt y i) := by unfold bt; rw [Int32.toBitVec_xor, BitVec.getLsbD_xor]
theorem b_big {x : Int32} {i : Nat} (h : 32 ≤ i) : bt x i = false := BitVec.getLsbD_of_ge _ _ h
theorem b_255 (i : Nat) : bt 255 i = decide (i < 8) := by
  rcases Nat.lt_or_ge i 32 with h | h
  · exact (by decide +kernel : ∀ i, i < 32 → bt 255 i = decide (i < 8)) i h
  · rw [b_big h, decide_eq_false (by omega)]
theorem b_65535 (i : Nat) : bt 65535 i = decide (i < 16) := by
  rcases Nat.lt_or_ge i 32 with h | h
  · exact (by decide +kernel : ∀ i, i < 32 → bt 65535 i = decide (i < 16)) i h
  · rw [b_big h, decide_eq_false (by omega)]
theorem b_m1 : ∀ i, i < 32 → bt (-1) i = true := by decide +kernel
theorem b_0 (i : Nat) : bt 0 i = false := BitVec.getLsbD_zero
theorem s_l : ∀ n, n < 32 → ((nI n &&& 31).toBitVec.smod 32).toNat = n := by decide +kernel
theorem s_u : ∀ n, n < 32 → (((nI n).toUInt32 &&& Int32.toUInt32 31).toBitVec % 32).toNat = n := by decide +kernel
theorem b_shl (n : Nat) (hn : n < 32) (x : Int32) {i : Nat} (hi : i < 32) : bt (x <<< (nI n &&& 31)) i = (decide (n ≤ i) && bt x (i - n)) := by
  unfold bt
  rw [Int32.toBitVec_shiftLeft]
  show (x.toBitVec <<< ((nI n &&& 31).toBitVec.smod 32).toNat).getLsbD i = _
  rw [s_l n hn, BitVec.getLsbD_shiftLeft]
  rcases Nat.lt_or_ge i n with h | h
  · simp [h, Nat.not_le.mpr h]
  · simp [hi, h, Nat.not_lt.mpr h]
theorem b_ushr (n : Nat) (hn : n < 32) (x : Int32) (i : Nat) : bt ((x.toUInt32 >>> ((nI n).toUInt32 &&& Int32.toUInt32 31)).toInt32) i = bt x (n + i) := by
  show (x.toUInt32 >>> ((nI n).toUInt32 &&& Int32.toUInt32 31)).toBitVec.getLsbD i = x.toUInt32.toBitVec.getLsbD (n + i)
  rw [UInt32.toBitVec_shiftRight]
  show (x.toUInt32.toBitVec >>> (((nI n).toUInt32 &&& Int32.toUInt32 31).toBitVec % 32).toNat).getLsbD i = _
  rw [s_u n hn, BitVec.getLsbD_ushiftRight]
theorem b_sshr (n : Nat) (hn : n < 32) (x : Int32) {i : Nat} (hi : i < 32) : bt (x >>> (nI n &&& 31)) i = if n + i < 32 then bt x (n + i) else bt x 31 := by
  unfold bt
  rw [Int32.toBitVec_shiftRight]
  show (x.toBitVec.sshiftRight ((nI n &&& 31).toBitVec.smod 32).toNat).getLsbD i = _
  rw [s_l n hn, BitVec.getLsbD_sshiftRight, BitVec.msb_eq_getLsbD_last]
  simp [hi]
theorem b_shl8 (x : Int32) {i : Nat} (hi : i < 32) : bt (x <<< ((8 : Int32) &&& 31)) i = (decide (8 ≤ i) && bt x (i - 8)) := b_shl 8 (by omega) x hi
theorem b_shl16 (x : Int32) {i : Nat} (hi : i < 32) : bt (x <<< ((16 : Int32) &&& 31)) i = (decide (16 ≤ i) && bt x (i - 16)) := b_shl 16 (by omega) x hi
theorem b_shl24 (x : Int32) {i : Nat} (hi : i < 32) : bt (x <<< ((24 : Int32) &&& 31)) i = (decide (24 ≤ i) && bt x (i - 24)) := b_shl 24 (by omega) x hi
theorem b_sshr8 (x : Int32) {i : Nat} (hi : i < 32) : bt (x >>> ((8 : Int32) &&& 31)) i = if 8 + i < 32 then bt x (8 + i) else bt x 31 := b_sshr 8 (by omega) x hi
theorem nx_and (a b : Nat) : nI a &&& nI b = nI (a &&& b) := by
  apply Int32.toBitVec_inj.1
  show BitVec.ofNat 32 a &&& BitVec.ofNat 32 b = BitVec.ofNat 32 (a &&& b)
  apply BitVec.eq_of_getLsbD_eq
  intro i hi
  simp [hi]
theorem nx_xor (a b : Nat) : nI a ^^^ nI b = nI (a ^^^ b) := by
  apply Int32.toBitVec_inj.1
  show BitVec.ofNat 32 a ^^^ BitVec.ofNat 32 b = BitVec.ofNat 32 (a ^^^ b)
  apply BitVec.eq_of_getLsbD_eq
  intro i hi
  simp [hi]
end
section
/-! counting bits -/
def mb_cn (p : Nat → Bool) : Nat → Nat
  | 0 => 0
  | n + 1 => mb_cn p n + (p n).toNat
theorem mb_tn (b : Bool) : b.toNat ≤ 1 := by cases b <;> decide
theorem mb_le (p : Nat → Bool) : ∀ n, mb_cn p n ≤ n
  | 0 => Nat.le_refl _
  | n + 1 => by have := mb_le p n; have := mb_tn (p n); simp only [mb_cn]; omega
theorem mb_eq {p q : Nat → Bool} : ∀ {n : Nat}, (∀ i, i < n → p i = q i) → mb_cn p n = mb_cn q n
  | 0, _ => rfl
  | n + 1, h => by simp only [mb_cn]; rw [mb_eq (n := n) (fun i hi => h i (by omega)), h n (by omega)]
theorem mb_split (p q : Nat → Bool) : ∀ n, mb_cn p n = mb_cn (fun i => p i && q i) n + mb_cn (fun i => p i && !q i) n
  | 0 => rfl
  | n + 1 => by
    have h := mb_split p q n
    simp only [mb_cn]
    cases p n <;> cases q n <;> simp <;> omega
theorem mb_mono {p q : Nat → Bool} : ∀ {n : Nat}, (∀ i, i < n → p i = true → q i = true) → mb_cn p n ≤ mb_cn q n
  | 0, _ => Nat.le_refl _
  | n + 1, h => by
    have a := mb_mono (p := p) (q := q) (n := n) (fun i hi => h i (by omega))
    have b := h n (by omega)
    simp only [mb_cn]
    cases hp : p n
    · simp; omega
    · rw [b hp]; omega
theorem mb_zero {p : Nat → Bool} : ∀ {n : Nat}, mb_cn p n = 0 → ∀ i, i < n → p i = false
  | 0, _, i, hi => by omega
  | n + 1, h, i, hi => by
    simp only [mb_cn] at h
    rcases Nat.lt_or_ge i n with z | z
    · exact mb_zero (n := n) (by omega) i z
    · have e : i = n := by omega
      subst e
      cases hp : p i
      · rfl
      · rw [hp] at h; simp at h
theorem mb_of0 {p : Nat → Bool} {n : Nat} (h : ∀ i, i < n → p i = false) : mb_cn p n = 0 := by
  rw [mb_eq (q := fun _ => false) h]
  induction n with
  | zero => rfl
  | succ n ih => simp only [mb_cn]; rw [ih (fun i hi => h i (by omega))]; rfl
theorem mb_one {p q : Nat → Bool} {a : Nat} (hp : p a = false) (hq : q a = true) : ∀ {n : Nat}, a < n → (∀ i, i < n → i ≠ a → q i = p i) → mb_cn q n = mb_cn p n + 1
  | 0, h, _ => by omega
  | n + 1, h, e => by
    simp only [mb_cn]
    rcases Nat.lt_or_ge a n with z | z
    · rw [mb_one hp hq z (fun i hi => e i (by omega)), e n (by omega) (by omega)]; omega
    · have y : a = n := by omega
      subst y
      rw [hp, hq, mb_eq (p := q) (q := p) (fun i hi => e i (by omega) (by omega))]; rfl
theorem mb_lt {p q : Nat → Bool} {a n : Nat} (ha : a < n) (hp : p a = false) (hq : q a = true) (h : ∀ i, i < n → p i = true → q i = true) : mb_cn p n < mb_cn q n := by
  have e1 := mb_one (p := p) (q := fun i => if i = a then true else p i) hp (if_pos rfl) ha (fun i _ hn => if_neg hn)
  have e2 := mb_mono (p := fun i => if i = a then true else p i) (q := q) (n := n) (fun i hi => by
    by_cases z : i = a
    · intro _; rw [z]; exact hq
    · simp only [z, if_false]; exact h i hi)
  omega
theorem mb_full {p : Nat → Bool} : ∀ {n : Nat}, n ≤ mb_cn p n → ∀ i, i < n → p i = true := by
  intro n h i hi
  cases hp : p i
  · have := mb_lt (q := fun _ => true) hi hp rfl (fun _ _ _ => rfl)
    have := mb_le (fun _ => true) n
    omega
  · rfl
theorem mb_filter (p : Nat → Bool) : ∀ n, mb_cn p n = ((List.range n).filter p).length
  | 0 => rfl
  | n + 1 => by
    simp only [mb_cn]
    rw [List.range_succ, List.filter_append, List.length_append, mb_filter p n]
    cases h : p n <;> simp [h]
/-! the number of set bits of n below 2^k -/
def mb_pb : Nat → Nat → Nat
  | 0, _ => 0
  | k + 1, n => n % 2 + mb_pb k (n / 2)
theorem mb_front (p : Nat → Bool) : ∀ n, mb_cn p (n + 1) = (p 0).toNat + mb_cn (fun i => p (i + 1)) n
  | 0 => by simp [mb_cn]
  | n + 1 => by
    have h := mb_front p n
    simp only [mb_cn] at h ⊢
    omega
theorem mb_pbcn : ∀ k n, mb_cn n.testBit k = mb_pb k n
  | 0, _ => rfl
  | k + 1, n => by
    rw [mb_front, mb_pb, ← mb_pbcn k (n / 2)]
    have e1 : (n.testBit 0).toNat = n % 2 := by
      rw [Nat.testBit_zero]
      rcases Nat.mod_two_eq_zero_or_one n with h | h <;> simp [h]
    rw [e1]
    congr 1
    exact mb_eq (fun i _ => Nat.testBit_succ n i)
theorem mb_and (k b d : Nat) {a c : Nat} (ha : a < 2 ^ k) (hc : c < 2 ^ k) : (2 ^ k * b + a) &&& (2 ^ k * d + c) = 2 ^ k * (b &&& d) + (a &&& c) := by
  apply Nat.eq_of_testBit_eq
  intro j
  rw [Nat.testBit_and, Nat.testBit_two_pow_mul_add _ ha, Nat.testBit_two_pow_mul_add _ hc, Nat.testBit_two_pow_mul_add _ (Nat.lt_of_le_of_lt Nat.and_le_left ha)]
  split <;> simp
def mb_M1 : Nat → Nat
  | 0 => 0
  | k + 1 => 4 * mb_M1 k + 1
def mb_M2 : Nat → Nat
  | 0 => 0
  | k + 1 => 16 * mb_M2 k + 3
def mb_M3 : Nat → Nat
  | 0 => 0
  | k + 1 => 256 * mb_M3 k + 15
def mb_T1 : Nat → Nat → Nat
  | 0, _ => 0
  | k + 1, n => n % 2 + n / 2 % 2 + 4 * mb_T1 k (n / 4)
def mb_T2 : Nat → Nat → Nat
  | 0, _ => 0
  | k + 1, n => n % 4 + n / 4 % 4 + 16 * mb_T2 k (n / 16)
def mb_T3 : Nat → Nat → Nat
  | 0, _ => 0
  | k + 1, n => n % 16 + n / 16 % 16 + 256 * mb_T3 k (n / 256)
theorem mb_t1 : ∀ k n, (n &&& mb_M1 k) + ((n / 2) &&& mb_M1 k) = mb_T1 k n
  | 0, n => by simp [mb_M1, mb_T1]
  | k + 1, n => by
    have ih := mb_t1 k (n / 4)
    have e1 := mb_and 2 (n / 4) (mb_M1 k) (a := n % 4) (c := 1) (by omega) (by omega)
    have e2 := mb_and 2 (n / 2 / 4) (mb_M1 k) (a := n / 2 % 4) (c := 1) (by omega) (by omega)
    have f1 : n % 4 &&& 1 = n % 4 % 2 := Nat.and_two_pow_sub_one_eq_mod _ 1
    have f2 : n / 2 % 4 &&& 1 = n / 2 % 4 % 2 := Nat.and_two_pow_sub_one_eq_mod _ 1
    have g1 : 2 ^ 2 * (n / 4) + n % 4 = n := by omega
    have g2 : 2 ^ 2 * (n / 2 / 4) + n / 2 % 4 = n / 2 := by omega
    have g3 : n / 2 / 4 = n / 4 / 2 := by omega
    have g4 : 2 ^ 2 * mb_M1 k + 1 = mb_M1 (k + 1) := rfl
    rw [g1, g4, f1] at e1
    rw [g2, g4, f2, g3] at e2
    rw [e1, e2]
    simp only [mb_T1]
    omega
theorem mb_t2 : ∀ k n, (n &&& mb_M2 k) + ((n / 4) &&& mb_M2 k) = mb_T2 k n
  | 0, n => by simp [mb_M2, mb_T2]
  | k + 1, n => by
    have ih := mb_t2 k (n / 16)
    have e1 := mb_and 4 (n / 16) (mb_M2 k) (a := n % 16) (c := 3) (by omega) (by omega)
    have e2 := mb_and 4 (n / 4 / 16) (mb_M2 k) (a := n / 4 % 16) (c := 3) (by omega) (by omega)
    have f1 : n % 16 &&& 3 = n % 16 % 4 := Nat.and_two_pow_sub_one_eq_mod _ 2
    have f2 : n / 4 % 16 &&& 3 = n / 4 % 16 % 4 := Nat.and_two_pow_sub_one_eq_mod _ 2
    have g1 : 2 ^ 4 * (n / 16) + n % 16 = n := by omega
    have g2 : 2 ^ 4 * (n / 4 / 16) + n / 4 % 16 = n / 4 := by omega
    have g3 : n / 4 / 16 = n / 16 / 4 := by omega
    have g4 : 2 ^ 4 * mb_M2 k + 3 = mb_M2 (k + 1) := rfl
    rw [g1, g4, f1] at e1
    rw [g2, g4, f2, g3] at e2
    rw [e1, e2]
    simp only [mb_T2]
    omega
theorem mb_t3 : ∀ k n, (n &&& mb_M3 k) + ((n / 16) &&& mb_M3 k) = mb_T3 k n
  | 0, n => by simp [mb_M3, mb_T3]
  | k + 1, n => by
    have ih := mb_t3 k (n / 256)
    have e1 := mb_and 8 (n / 256) (mb_M3 k) (a := n % 256) (c := 15) (by omega) (by omega)
    have e2 := mb_and 8 (n / 16 / 256) (mb_M3 k) (a := n / 16 % 256) (c := 15) (by omega) (by omega)
    have f1 : n % 256 &&& 15 = n % 256 % 16 := Nat.and_two_pow_sub_one_eq_mod _ 4
    have f2 : n / 16 % 256 &&& 15 = n / 16 % 256 % 16 := Nat.and_two_pow_sub_one_eq_mod _ 4
    have g1 : 2 ^ 8 * (n / 256) + n % 256 = n := by omega
    have g2 : 2 ^ 8 * (n / 16 / 256) + n / 16 % 256 = n / 16 := by omega
    have g3 : n / 16 / 256 = n / 256 / 16 := by omega
    have g4 : 2 ^ 8 * mb_M3 k + 15 = mb_M3 (k + 1) := rfl
    rw [g1, g4, f1] at e1
    rw [g2, g4, f2, g3] at e2
    rw [e1, e2]
    simp only [mb_T3]
    omega
theorem mb_pb8 (k n : Nat) : mb_pb (k + 8) n = n % 2 + n / 2 % 2 + (n / 4 % 2 + n / 4 / 2 % 2) + (n / 4 / 4 % 2 + n / 4 / 4 / 2 % 2) + (n / 4 / 4 / 4 % 2 + n / 4 / 4 / 4 / 2 % 2) + mb_pb k (n / 256) := by
  simp only [mb_pb]
  have h : n / 2 / 2 / 2 / 2 / 2 / 2 / 2 / 2 = n / 256 := by omega
  rw [h]
  omega
theorem mb_stage (n j1 j2 j3 : Nat) : mb_T3 (j3 + 1) (mb_T2 (j2 + 2) (mb_T1 (j1 + 4) n)) = mb_pb 8 n + 256 * mb_T3 j3 (mb_T2 j2 (mb_T1 j1 (n / 256))) := by
  have hp := mb_pb8 0 n
  simp only [mb_pb.eq_1 (n / 256), Nat.zero_add, Nat.add_zero] at hp
  rw [hp]
  have h1 : mb_T1 (j1 + 4) n = (n % 2 + n / 2 % 2) + 4 * (n / 4 % 2 + n / 4 / 2 % 2) + 16 * (n / 4 / 4 % 2 + n / 4 / 4 / 2 % 2) + 64 * (n / 4 / 4 / 4 % 2 + n / 4 / 4 / 4 / 2 % 2) + 256 * mb_T1 j1 (n / 256) := by
    simp only [mb_T1]
    have h : n / 4 / 4 / 4 / 4 = n / 256 := by omega
    rw [h]; omega
  rw [h1]
  have b0 : n % 2 + n / 2 % 2 ≤ 2 := by omega
  have b1 : n / 4 % 2 + n / 4 / 2 % 2 ≤ 2 := by omega
  have b2 : n / 4 / 4 % 2 + n / 4 / 4 / 2 % 2 ≤ 2 := by omega
  have b3 : n / 4 / 4 / 4 % 2 + n / 4 / 4 / 4 / 2 % 2 ≤ 2 := by omega
  generalize n % 2 + n / 2 % 2 = p0 at *
  generalize n / 4 % 2 + n / 4 / 2 % 2 = p1 at *
  generalize n / 4 / 4 % 2 + n / 4 / 4 / 2 % 2 = p2 at *
  generalize n / 4 / 4 / 4 % 2 + n / 4 / 4 / 4 / 2 % 2 = p3 at *
  generalize mb_T1 j1 (n / 256) = r
  have h2 : mb_T2 (j2 + 2) (p0 + 4 * p1 + 16 * p2 + 64 * p3 + 256 * r) = (p0 + p1) + 16 * (p2 + p3) + 256 * mb_T2 j2 r := by
    simp only [mb_T2]
    have h : (p0 + 4 * p1 + 16 * p2 + 64 * p3 + 256 * r) / 16 / 16 = r := by omega
    rw [h]; omega
  rw [h2]
  generalize mb_T2 j2 r = r2
  simp only [mb_T3]
  have h : (p0 + p1 + 16 * (p2 + p3) + 256 * r2) / 256 = r2 := by omega
  rw [h]; omega
theorem mb_pb_le : ∀ k n, mb_pb k n ≤ k
  | 0, _ => Nat.le_refl _
  | k + 1, n => by have := mb_pb_le k (n / 2); simp only [mb_pb]; omega
theorem mb_pb0 : ∀ k, mb_pb k 0 = 0
  | 0 => rfl
  | k + 1 => by rw [mb_pb, Nat.zero_mod, Nat.zero_div, mb_pb0 k]
theorem mb_pb_app : ∀ a b n, mb_pb (a + b) n = mb_pb a n + mb_pb b (n / 2 ^ a)
  | 0, b, n => by simp [mb_pb]
  | a + 1, b, n => by
    rw [Nat.add_right_comm]
    simp only [mb_pb]
    rw [mb_pb_app a b (n / 2), Nat.div_div_eq_div_mul, Nat.pow_succ, Nat.mul_comm (2 ^ a) 2]
    omega
theorem mb_pb20 (n : Nat) : mb_pb 20 n = mb_pb 8 n + mb_pb 8 (n / 256) + mb_pb 4 (n / 65536) := by
  have h1 : mb_pb 20 n = mb_pb 8 n + mb_pb 12 (n / 256) := mb_pb_app 8 12 n
  have h2 : mb_pb 12 (n / 256) = mb_pb 8 (n / 256) + mb_pb 4 (n / 256 / 256) := mb_pb_app 8 4 (n / 256)
  have e : n / 256 / 256 = n / 65536 := by omega
  rw [h1, h2, e, Nat.add_assoc]
theorem mb_T30 (x : Nat) : mb_T3 0 x = 0 := by rw [mb_T3]
theorem mb_X (n : Nat) (h : n < 2 ^ 20) : mb_T3 4 (mb_T2 8 (mb_T1 16 n)) = mb_pb 8 n + 256 * mb_pb 8 (n / 256) + 65536 * mb_pb 4 (n / 65536) := by
  have s1 := mb_stage n 12 6 3
  have s2 := mb_stage (n / 256) 8 4 2
  have s3 := mb_stage (n / 256 / 256) 4 2 1
  have s4 := mb_stage (n / 256 / 256 / 256) 0 0 0
  have e1 : n / 256 / 256 = n / 65536 := by omega
  have e2 : n / 65536 / 256 = 0 := by omega
  have e4 : n / 65536 / 16 = 0 := by omega
  have e3 : mb_pb 8 (n / 65536) = mb_pb 4 (n / 65536) + mb_pb 4 (n / 65536 / 16) := mb_pb_app 4 4 (n / 65536)
  rw [e4, mb_pb0] at e3
  rw [e1, e2] at s4
  rw [e1, e2] at s3
  rw [e1] at s2
  rw [mb_T30, mb_pb0] at s4
  generalize mb_pb 8 n = x0 at *
  generalize mb_pb 8 (n / 256) = x1 at *
  generalize mb_pb 8 (n / 65536) = x2 at *
  generalize mb_pb 4 (n / 65536) = x3 at *
  have t1 : mb_T3 4 (mb_T2 8 (mb_T1 16 n)) = x0 + 256 * mb_T3 3 (mb_T2 6 (mb_T1 12 (n / 256))) := s1
  have t2 : mb_T3 3 (mb_T2 6 (mb_T1 12 (n / 256))) = x1 + 256 * mb_T3 2 (mb_T2 4 (mb_T1 8 (n / 65536))) := s2
  have t3 : mb_T3 2 (mb_T2 4 (mb_T1 8 (n / 65536))) = x2 + 256 * mb_T3 1 (mb_T2 2 (mb_T1 4 0)) := s3
  have t4 : mb_T3 1 (mb_T2 2 (mb_T1 4 0)) = 0 + 256 * 0 := s4
  rw [t1, t2, t3, t4, e3]
  omega
theorem mb_Y0 (m : Nat) (h : m < 16) : mb_T3 1 (mb_T2 1 (mb_T1 2 m)) = mb_pb 4 m := (by decide +kernel : ∀ m, m < 16 → mb_T3 1 (mb_T2 1 (mb_T1 2 m)) = mb_pb 4 m) m h
theorem mb_Y (n : Nat) (h : n < 2 ^ 20) : mb_T3 3 (mb_T2 5 (mb_T1 10 n)) = mb_pb 8 n + 256 * mb_pb 8 (n / 256) + 65536 * mb_pb 4 (n / 65536) := by
  have s1 : mb_T3 3 (mb_T2 5 (mb_T1 10 n)) = mb_pb 8 n + 256 * mb_T3 2 (mb_T2 3 (mb_T1 6 (n / 256))) := mb_stage n 6 3 2
  have s2 : mb_T3 2 (mb_T2 3 (mb_T1 6 (n / 256))) = mb_pb 8 (n / 256) + 256 * mb_T3 1 (mb_T2 1 (mb_T1 2 (n / 256 / 256))) := mb_stage (n / 256) 2 1 1
  have e1 : n / 256 / 256 = n / 65536 := by omega
  have e4 : n / 65536 < 16 := by omega
  rw [e1, mb_Y0 _ e4] at s2
  rw [s1, s2]
  generalize mb_pb 8 n = x0
  generalize mb_pb 8 (n / 256) = x1
  generalize mb_pb 4 (n / 65536) = x3
  omega
end
section
/-! subsets of a list of cells (each a mask of the clues that count it) against needs -/
noncomputable def mg_i (P : Prop) : Nat := @ite Nat P (Classical.propDecidable P) 1 0
theorem mg_i_t {P : Prop} (h : P) : mg_i P = 1 := by unfold mg_i; rw [if_pos h]
theorem mg_i_f {P : Prop} (h : ¬ P) : mg_i P = 0 := by unfold mg_i; rw [if_neg h]
theorem mg_i_le (P : Prop) : mg_i P ≤ 1 := by
  rcases Classical.em P with h | h
  · rw [mg_i_t h]; omega
  · rw [mg_i_f h]; omega
theorem mg_i_eq {P Q : Prop} (h : P ↔ Q) : mg_i P = mg_i Q := by rw [propext h]
theorem mg_i_pos {P : Prop} : 0 < mg_i P ↔ P := by
  rcases Classical.em P with h | h
  · rw [mg_i_t h]; exact ⟨fun _ => h, fun _ => by omega⟩
  · rw [mg_i_f h]; exact ⟨fun z => absurd z (by omega), fun z => absurd z h⟩
def mg_sub (w : Nat → Int) (m : Int32) : Nat → Int := fun j => w j - (if bt m j = true then 1 else 0)
def mg_subn (w : Nat → Int) (t : Nat) (m : Int32) : Nat → Int := fun j => w j - (if bt m j = true then (t : Int) else 0)
def mg_G (L : (Nat → Int) → Nat) : List Int32 → (Nat → Int) → Nat
  | [], w => L w
  | m :: ms, w => mg_G L ms w + mg_G L ms (mg_sub w m)
theorem mg_comm (w : Nat → Int) (a b : Int32) : mg_sub (mg_sub w a) b = mg_sub (mg_sub w b) a := by
  funext j
  simp only [mg_sub]
  omega
theorem mg_perm {L : (Nat → Int) → Nat} {l1 l2 : List Int32} (h : List.Perm l1 l2) : ∀ w, mg_G L l1 w = mg_G L l2 w := by
  induction h with
  | nil => intro w; rfl
  | cons x _ ih => intro w; simp only [mg_G]; rw [ih, ih]
  | swap x y l =>
    intro w
    simp only [mg_G]
    rw [mg_comm w y x]
    omega
  | trans _ _ ih1 ih2 => intro w; rw [ih1, ih2]
theorem mg_app (L : (Nat → Int) → Nat) : ∀ (a b : List Int32) (w : Nat → Int), mg_G L (a ++ b) w = mg_G (mg_G L b) a w
  | [], _, _ => rfl
  | m :: a, b, w => by simp only [List.cons_append, mg_G]; rw [mg_app L a b, mg_app L a b]
theorem mg_bound {L : (Nat → Int) → Nat} (h : ∀ w, L w ≤ 1) : ∀ (l : List Int32) (w : Nat → Int), mg_G L l w ≤ 2 ^ l.length
  | [], w => by simpa [mg_G] using h w
  | m :: l, w => by
    have a := mg_bound h l w
    have b := mg_bound h l (mg_sub w m)
    simp only [mg_G, List.length_cons, Nat.pow_succ]
    omega
theorem mg_neg {L : (Nat → Int) → Nat} {j : Nat} (h : ∀ w : Nat → Int, w j < 0 → L w = 0) : ∀ (l : List Int32) (w : Nat → Int), w j < 0 → mg_G L l w = 0
  | [], w, hw => h w hw
  | m :: l, w, hw => by
    have e : mg_sub w m j < 0 := by simp only [mg_sub]; split <;> omega
    simp only [mg_G]
    rw [mg_neg h l w hw, mg_neg h l _ e]
theorem mg_high {L : (Nat → Int) → Nat} {j : Nat} {r : Int} (h : ∀ w : Nat → Int, r < w j → L w = 0) : ∀ (l : List Int32) (w : Nat → Int), r + (l.length : Int) < w j → mg_G L l w = 0
  | [], w, hw => h w (by simpa using hw)
  | m :: l, w, hw => by
    rw [List.length_cons] at hw
    have e : r + (l.length : Int) < mg_sub w m j := by simp only [mg_sub]; split <;> omega
    simp only [mg_G]
    rw [mg_high h l w (by omega), mg_high h l _ e]
/-! sums and choices -/
def mg_sum (f : Nat → Nat) : Nat → Nat
  | 0 => 0
  | n + 1 => mg_sum f n + f n
theorem mg_sum_eq {f g : Nat → Nat} : ∀ {n : Nat}, (∀ i, i < n → f i = g i) → mg_sum f n = mg_sum g n
  | 0, _ => rfl
  | n + 1, h => by simp only [mg_sum]; rw [mg_sum_eq (n := n) (fun i hi => h i (by omega)), h n (by omega)]
theorem mg_sum_z {f : Nat → Nat} : ∀ {n : Nat}, (∀ i, i < n → f i = 0) → mg_sum f n = 0
  | 0, _ => rfl
  | n + 1, h => by simp only [mg_sum]; rw [mg_sum_z (n := n) (fun i hi => h i (by omega)), h n (by omega)]
theorem mg_sum_add (f g : Nat → Nat) : ∀ n, mg_sum (fun i => f i + g i) n = mg_sum f n + mg_sum g n
  | 0 => rfl
  | n + 1 => by simp only [mg_sum]; rw [mg_sum_add f g n]; omega
theorem mg_sum_mul (f : Nat → Nat) (c : Nat) : ∀ n, mg_sum (fun i => c * f i) n = c * mg_sum f n
  | 0 => rfl
  | n + 1 => by simp only [mg_sum]; rw [mg_sum_mul f c n, Nat.mul_add]
theorem mg_sum_f (f : Nat → Nat) : ∀ n, mg_sum f (n + 1) = f 0 + mg_sum (fun i => f (i + 1)) n
  | 0 => by simp [mg_sum]
  | n + 1 => by
    have h := mg_sum_f f n
    simp only [mg_sum] at h ⊢
    omega
theorem mg_sum_tail {f : Nat → Nat} {a : Nat} : ∀ {n : Nat}, a ≤ n → (∀ i, a ≤ i → i < n → f i = 0) → mg_sum f n = mg_sum f a
  | 0, ha, _ => by rw [show a = 0 by omega]
  | n + 1, ha, h => by
    rcases Nat.lt_or_ge n a with z | z
    · rw [show a = n + 1 by omega]
    · simp only [mg_sum]
      rw [mg_sum_tail z (fun i h1 h2 => h i h1 (by omega)), h n z (by omega), Nat.add_zero]
theorem mg_sum_pt {f : Nat → Nat} {a : Nat} : ∀ {n : Nat}, a < n → (∀ i, i < n → i ≠ a → f i = 0) → mg_sum f n = f a
  | 0, ha, _ => by omega
  | n + 1, ha, h => by
    simp only [mg_sum]
    rcases Nat.lt_or_ge a n with z | z
    · rw [mg_sum_pt z (fun i h1 h2 => h i (by omega) h2), h n (by omega) (by omega)]; omega
    · have e : a = n := by omega
      subst e
      rw [mg_sum_z (fun i hi => h i (by omega) (by omega))]; omega
theorem mg_sum_pos {f : Nat → Nat} : ∀ {n : Nat}, 0 < mg_sum f n ↔ ∃ i, i < n ∧ 0 < f i
  | 0 => ⟨fun h => absurd h (by simp [mg_sum]), fun ⟨i, h, _⟩ => by omega⟩
  | n + 1 => by
    have ih := mg_sum_pos (f := f) (n := n)
    simp only [mg_sum]
    constructor
    · intro h
      rcases Nat.eq_zero_or_pos (mg_sum f n) with z | z
      · exact ⟨n, by omega, by omega⟩
      · obtain ⟨i, h1, h2⟩ := ih.mp z
        exact ⟨i, by omega, h2⟩
    · rintro ⟨i, h1, h2⟩
      rcases Nat.lt_or_ge i n with z | z
      · have := ih.mpr ⟨i, z, h2⟩; omega
      · have e : i = n := by omega
        subst e; omega
def mg_ch : Nat → Nat → Nat
  | _, 0 => 1
  | 0, _ + 1 => 0
  | n + 1, k + 1 => mg_ch n k + mg_ch n (k + 1)
theorem mg_ch0 (n : Nat) : mg_ch n 0 = 1 := by cases n <;> rfl
theorem mg_chz : ∀ {n k : Nat}, n < k → mg_ch n k = 0
  | 0, k + 1, _ => rfl
  | n + 1, k + 1, h => by simp only [mg_ch]; rw [mg_chz (n := n) (k := k) (by omega), mg_chz (n := n) (k := k + 1) (by omega)]
  | _, 0, h => by omega
theorem mg_chp : ∀ {n k : Nat}, k ≤ n → 0 < mg_ch n k
  | n, 0, _ => by rw [mg_ch0]; omega
  | 0, k + 1, h => by omega
  | n + 1, k + 1, h => by simp only [mg_ch]; have := mg_chp (n := n) (k := k) (by omega); omega
theorem mg_abs : ∀ n k, (k + 1) * mg_ch (n + 1) (k + 1) = (n + 1) * mg_ch n k
  | 0, 0 => rfl
  | 0, k + 1 => by simp [mg_ch]
  | n + 1, 0 => by
    have h := mg_abs n 0
    have e : mg_ch (n + 1 + 1) (0 + 1) = mg_ch (n + 1) 0 + mg_ch (n + 1) (0 + 1) := rfl
    rw [e]
    simp only [mg_ch0] at h ⊢
    omega
  | n + 1, k + 1 => by
    have h1 := mg_abs n k
    have h2 := mg_abs n (k + 1)
    rw [mg_ch, Nat.mul_add, h2]
    have h3 : (k + 1 + 1) * mg_ch (n + 1) (k + 1) = (k + 1) * mg_ch (n + 1) (k + 1) + mg_ch (n + 1) (k + 1) := by rw [Nat.add_mul, Nat.one_mul]
    rw [h3, h1]
    have h4 : (n + 1 + 1) * mg_ch (n + 1) (k + 1) = (n + 1) * mg_ch (n + 1) (k + 1) + mg_ch (n + 1) (k + 1) := by rw [Nat.add_mul, Nat.one_mul]
    rw [h4]
    have h5 : (n + 1) * mg_ch (n + 1) (k + 1) = (n + 1) * mg_ch n k + (n + 1) * mg_ch n (k + 1) := by rw [mg_ch, Nat.mul_add]
    omega
/-- the step of the loop: ch n (k + 1) * (k + 1) = ch n k * (n - k) -/
theorem mg_chs : ∀ n k, (k + 1) * mg_ch n (k + 1) = (n - k) * mg_ch n k
  | 0, k => by simp [mg_ch]
  | n + 1, k => by
    rw [mg_abs]
    cases k with
    | zero => simp [mg_ch0]
    | succ k =>
      have h := mg_chs n k
      rw [mg_ch, Nat.mul_add]
      have e : n + 1 - (k + 1) = n - k := by omega
      rw [e, ← h]
      rcases Nat.lt_or_ge n k with z | z
      · rw [mg_chz (n := n) (k := k + 1) (by omega)]; simp
      · rw [← Nat.add_mul, show k + 1 + (n - k) = n + 1 by omega]
theorem mg_chb : ∀ n k, mg_ch n k ≤ 2 ^ n
  | n, 0 => by rw [mg_ch0]; exact Nat.one_le_two_pow
  | 0, k + 1 => by simp [mg_ch]
  | n + 1, k + 1 => by
    have := mg_chb n k
    have := mg_chb n (k + 1)
    simp only [mg_ch, Nat.pow_succ]; omega
theorem mg_pas (f : Nat → Nat) (s : Nat) : mg_sum (fun t => mg_ch (s + 1) t * f t) (s + 1 + 1) = mg_sum (fun t => mg_ch s t * f t) (s + 1) + mg_sum (fun t => mg_ch s t * f (t + 1)) (s + 1) := by
  rw [mg_sum_f]
  have e1 : mg_sum (fun i => mg_ch (s + 1) (i + 1) * f (i + 1)) (s + 1) = mg_sum (fun i => mg_ch s i * f (i + 1) + mg_ch s (i + 1) * f (i + 1)) (s + 1) :=
    mg_sum_eq (fun i _ => by rw [mg_ch, Nat.add_mul])
  rw [e1, mg_sum_add]
  have e2 := mg_sum_f (fun t => mg_ch s t * f t) (s + 1)
  have e3 : mg_sum (fun t => mg_ch s t * f t) (s + 1 + 1) = mg_sum (fun t => mg_ch s t * f t) (s + 1) := by
    rw [mg_sum, mg_chz (n := s) (k := s + 1) (by omega)]; omega
  simp only [mg_ch0] at e2 ⊢
  omega
theorem mg_subn0 (w : Nat → Int) (m : Int32) : mg_subn w 0 m = w := by funext j; simp [mg_subn]
theorem mg_subn1 (w : Nat → Int) (t : Nat) (m : Int32) : mg_subn (mg_sub w m) t m = mg_subn w (t + 1) m := by
  funext j
  simp only [mg_subn, mg_sub]
  split <;> omega
theorem mg_subnc (w : Nat → Int) (t : Nat) (m n : Int32) : mg_subn (mg_sub w n) t m = mg_sub (mg_subn w t m) n := by
  funext j
  simp only [mg_subn, mg_sub]
  omega
theorem mg_subna (w : Nat → Int) (t s : Nat) (m : Int32) : mg_subn (mg_subn w t m) s m = mg_subn w (t + s) m := by
  funext j
  simp only [mg_subn]
  split <;> omega
theorem mg_bin (L : (Nat → Int) → Nat) (m : Int32) : ∀ (s : Nat) (w : Nat → Int), mg_G L (List.replicate s m) w = mg_sum (fun t => mg_ch s t * L (mg_subn w t m)) (s + 1)
  | 0, w => by simp [mg_sum, mg_G, mg_ch0, mg_subn0]
  | s + 1, w => by
    rw [List.replicate_succ, mg_G, mg_bin L m s w, mg_bin L m s (mg_sub w m), mg_pas (fun t => L (mg_subn w t m)) s]
    congr 1
    exact mg_sum_eq (fun t _ => by rw [mg_subn1])
/-! kinds: (size, mask) -/
def mg_flat : List (Nat × Int32) → List Int32
  | [] => []
  | k :: ks => List.replicate k.1 k.2 ++ mg_flat ks
def mg_K (L : (Nat → Int) → Nat) : List (Nat × Int32) → (Nat → Int) → Nat
  | [], w => L w
  | k :: ks, w => mg_sum (fun t => mg_ch k.1 t * mg_K L ks (mg_subn w t k.2)) (k.1 + 1)
def mg_H (L : (Nat → Int) → Nat) : Nat → List (Nat × Int32) → (Nat → Int) → Nat
  | _, [], _ => 0
  | 0, k :: ks, w => mg_sum (fun t => t * (mg_ch k.1 t * mg_K L ks (mg_subn w t k.2))) (k.1 + 1)
  | i + 1, k :: ks, w => mg_sum (fun t => mg_ch k.1 t * mg_H L i ks (mg_subn w t k.2)) (k.1 + 1)
def mg_dec : Nat → List (Nat × Int32) → List (Nat × Int32)
  | _, [] => []
  | 0, k :: ks => (k.1 - 1, k.2) :: ks
  | i + 1, k :: ks => k :: mg_dec i ks
theorem mg_KG (L : (Nat → Int) → Nat) : ∀ (ks : List (Nat × Int32)) (w : Nat → Int), mg_K L ks w = mg_G L (mg_flat ks) w
  | [], _ => rfl
  | k :: ks, w => by
    rw [mg_K, mg_flat, mg_app, mg_bin]
    exact mg_sum_eq (fun t _ => by rw [mg_KG L ks])
theorem mg_HK (L : (Nat → Int) → Nat) : ∀ (i : Nat) (ks : List (Nat × Int32)) (s : Nat) (m : Int32) (w : Nat → Int), ks[i]? = some (s, m) → mg_H L i ks w = s * mg_K L (mg_dec i ks) (mg_sub w m)
  | i, [], s, m, w, h => by simp at h
  | 0, k :: ks, s, m, w, h => by
    simp at h
    subst h
    rw [mg_H, mg_dec, mg_K]
    cases s with
    | zero => simp [mg_sum]
    | succ s =>
      rw [mg_sum_f]
      simp only [Nat.add_sub_cancel, Nat.zero_mul, Nat.zero_add]
      rw [← mg_sum_mul]
      exact mg_sum_eq (fun t _ => by rw [← Nat.mul_assoc, mg_abs, mg_subn1, Nat.mul_assoc])
  | i + 1, k :: ks, s, m, w, h => by
    simp at h
    rw [mg_H, mg_dec, mg_K, ← mg_sum_mul]
    exact mg_sum_eq (fun t _ => by rw [mg_HK L i ks s m _ h, mg_subnc, Nat.mul_left_comm])
theorem mg_decp : ∀ (i : Nat) (ks : List (Nat × Int32)) (s : Nat) (m : Int32), ks[i]? = some (s + 1, m) → List.Perm (m :: mg_flat (mg_dec i ks)) (mg_flat ks)
  | i, [], s, m, h => by simp at h
  | 0, k :: ks, s, m, h => by
    simp at h
    subst h
    rw [mg_dec, mg_flat, mg_flat]
    simp only [Nat.add_sub_cancel]
    rw [List.replicate_succ, List.cons_append]
  | i + 1, k :: ks, s, m, h => by
    simp at h
    rw [mg_dec, mg_flat, mg_flat]
    exact (List.perm_middle.symm).trans ((mg_decp i ks s m h).append_left _)
def mg_cap (j : Nat) : List (Nat × Int32) → Nat
  | [] => 0
  | k :: ks => (if bt k.2 j = true then k.1 else 0) + mg_cap j ks
theorem mg_Kneg {L : (Nat → Int) → Nat} {j : Nat} (h : ∀ w : Nat → Int, w j < 0 → L w = 0) (ks : List (Nat × Int32)) (w : Nat → Int) (hw : w j < 0) : mg_K L ks w = 0 := by
  rw [mg_KG]; exact mg_neg h _ _ hw
theorem mg_Khigh {L : (Nat → Int) → Nat} {j : Nat} {r : Int} (h : ∀ w : Nat → Int, r < w j → L w = 0) : ∀ (ks : List (Nat × Int32)) (w : Nat → Int), r + (mg_cap j ks : Int) < w j → mg_K L ks w = 0
  | [], w, hw => h w (by simpa [mg_cap] using hw)
  | k :: ks, w, hw => by
    rw [mg_K]
    refine mg_sum_z (fun t ht => ?_)
    rw [mg_cap] at hw
    have e : r + (mg_cap j ks : Int) < mg_subn w t k.2 j := by
      simp only [mg_subn]
      by_cases hb : bt k.2 j = true
      · rw [if_pos hb] at hw ⊢; omega
      · rw [if_neg hb] at hw ⊢; omega
    rw [mg_Khigh h ks _ e, Nat.mul_zero]
theorem mg_Hneg {L : (Nat → Int) → Nat} {j : Nat} (h : ∀ w : Nat → Int, w j < 0 → L w = 0) : ∀ (i : Nat) (ks : List (Nat × Int32)) (w : Nat → Int), w j < 0 → mg_H L i ks w = 0
  | i, [], w, hw => by rw [mg_H]
  | 0, k :: ks, w, hw => by
    rw [mg_H]
    refine mg_sum_z (fun t ht => ?_)
    have e : mg_subn w t k.2 j < 0 := by simp only [mg_subn]; split <;> omega
    rw [mg_Kneg h ks _ e, Nat.mul_zero, Nat.mul_zero]
  | i + 1, k :: ks, w, hw => by
    rw [mg_H]
    refine mg_sum_z (fun t ht => ?_)
    have e : mg_subn w t k.2 j < 0 := by simp only [mg_subn]; split <;> omega
    rw [mg_Hneg h i ks _ e, Nat.mul_zero]
theorem mg_Hhigh {L : (Nat → Int) → Nat} {j : Nat} {r : Int} (h : ∀ w : Nat → Int, r < w j → L w = 0) : ∀ (i : Nat) (ks : List (Nat × Int32)) (w : Nat → Int), r + (mg_cap j ks : Int) < w j → mg_H L i ks w = 0
  | i, [], w, hw => by rw [mg_H]
  | 0, k :: ks, w, hw => by
    rw [mg_H]
    refine mg_sum_z (fun t ht => ?_)
    rw [mg_cap] at hw
    have e : r + (mg_cap j ks : Int) < mg_subn w t k.2 j := by
      simp only [mg_subn]
      by_cases hb : bt k.2 j = true
      · rw [if_pos hb] at hw ⊢; omega
      · rw [if_neg hb] at hw ⊢; omega
    rw [mg_Khigh h ks _ e, Nat.mul_zero, Nat.mul_zero]
  | i + 1, k :: ks, w, hw => by
    rw [mg_H]
    refine mg_sum_z (fun t ht => ?_)
    rw [mg_cap] at hw
    have e : r + (mg_cap j ks : Int) < mg_subn w t k.2 j := by
      simp only [mg_subn]
      by_cases hb : bt k.2 j = true
      · rw [if_pos hb] at hw ⊢; omega
      · rw [if_neg hb] at hw ⊢; omega
    rw [mg_Hhigh h i ks _ e, Nat.mul_zero]
/-! the total as clue 20 -/
def mg_set (w : Nat → Int) (t : Int) : Nat → Int := fun j => if j = 20 then t else w j
theorem mg_set_sub {w : Nat → Int} {t : Int} {m : Int32} (hm : bt m 20 = true) : mg_sub (mg_set w t) m = mg_set (mg_sub w m) (t - 1) := by
  funext j
  simp only [mg_sub, mg_set]
  by_cases h : j = 20
  · subst h; simp [hm]
  · simp [h]
/-- leaves: all clues of sh met -/
noncomputable def mg_L' (sh : Nat → Bool) (w : Nat → Int) : Nat := mg_i (∀ j, j < 20 → sh j = true → w j = 0)
/-- and the total too -/
noncomputable def mg_L (sh : Nat → Bool) (w : Nat → Int) : Nat := mg_i ((∀ j, j < 20 → sh j = true → w j = 0) ∧ w 20 = 0)
theorem mg_L_20 (sh : Nat → Bool) (w : Nat → Int) (t : Int) : mg_L sh (mg_set w t) = if t = 0 then mg_L' sh w else 0 := by
  unfold mg_L mg_L'
  by_cases h : t = 0
  · rw [if_pos h]
    apply mg_i_eq
    constructor
    · intro z j hj hs
      have := z.1 j hj hs
      simpa [mg_set, show j ≠ 20 by omega] using this
    · intro z
      refine ⟨fun j hj hs => ?_, by simp [mg_set, h]⟩
      have := z j hj hs
      simpa [mg_set, show j ≠ 20 by omega] using this
  · rw [if_neg h]
    apply mg_i_f
    intro z
    exact h (by simpa [mg_set] using z.2)
theorem mg_nt (sh : Nat → Bool) : ∀ (es : List Int32) (w : Nat → Int) (a : Nat), (∀ m, m ∈ es → bt m 20 = true) → a + es.length ≤ 20 → mg_sum (fun m => mg_G (mg_L sh) es (mg_set w ((m : Int) - a))) 21 = mg_G (mg_L' sh) es w
  | [], w, a, _, h => by
    simp only [mg_G]
    rw [mg_sum_pt (a := a) (by simp at h; omega)]
    · rw [mg_L_20, if_pos (by omega)]
    · intro i _ hn
      rw [mg_L_20, if_neg (by omega)]
  | e :: es, w, a, hm, h => by
    simp only [List.length_cons] at h
    have he : bt e 20 = true := hm e (by simp)
    have h1 := mg_nt sh es w a (fun m hm' => hm m (by simp [hm'])) (by omega)
    have h2 := mg_nt sh es (mg_sub w e) (a + 1) (fun m hm' => hm m (by simp [hm'])) (by omega)
    simp only [mg_G]
    rw [mg_sum_add, h1, ← h2]
    congr 1
    refine mg_sum_eq (fun m _ => ?_)
    rw [mg_set_sub he]
    congr 2
    omega
/-- the masks' bit 20 is nothing to the leaves without a total -/
theorem mg_b20 (sh : Nat → Bool) : ∀ (es fs : List Int32) (w w' : Nat → Int), es.length = fs.length → (∀ (i : Nat) (h1 : i < es.length) (h2 : i < fs.length) (j : Nat), j < 20 → bt es[i] j = bt fs[i] j) → (∀ j, j < 20 → w j = w' j) → mg_G (mg_L' sh) es w = mg_G (mg_L' sh) fs w'
  | [], [], w, w', _, _, hw => by
    simp only [mg_G, mg_L']
    apply mg_i_eq
    exact ⟨fun z j hj hs => by rw [← hw j hj]; exact z j hj hs, fun z j hj hs => by rw [hw j hj]; exact z j hj hs⟩
  | [], _ :: _, _, _, h, _, _ => by simp at h
  | _ :: _, [], _, _, h, _, _ => by simp at h
  | e :: es, f :: fs, w, w', h, hb, hw => by
    simp only [List.length_cons] at h
    have hb' : ∀ (i : Nat) (h1 : i < es.length) (h2 : i < fs.length) (j : Nat), j < 20 → bt es[i] j = bt fs[i] j := fun i h1 h2 j hj => by
      have := hb (i + 1) (by simp; omega) (by simp; omega) j hj
      simpa using this
    have h0 : ∀ j, j < 20 → bt e j = bt f j := fun j hj => by
      have := hb 0 (by simp) (by simp) j hj
      simpa using this
    simp only [mg_G]
    rw [mg_b20 sh es fs w w' (by omega) hb' hw, mg_b20 sh es fs (mg_sub w e) (mg_sub w' f) (by omega) hb' (fun j hj => by simp only [mg_sub]; rw [h0 j hj, hw j hj])]
def mg_C (r : Nat) (k : Int) : Nat := if k < 0 then 0 else mg_ch r k.toNat
theorem mg_Cs (r : Nat) (k : Int) : mg_C (r + 1) k = mg_C r k + mg_C r (k - 1) := by
  unfold mg_C
  by_cases h : k < 0
  · rw [if_pos h, if_pos h, if_pos (by omega)]
  · by_cases h0 : k = 0
    · subst h0; simp [mg_ch0]
    · rw [if_neg h, if_neg h, if_neg (by omega)]
      obtain ⟨n, hn⟩ : ∃ n : Nat, k = n + 1 := ⟨(k - 1).toNat, by omega⟩
      subst hn
      rw [show ((n : Int) + 1).toNat = n + 1 by omega, show ((n : Int) + 1 - 1).toNat = n by omega, mg_ch]
      omega
theorem mg_wt (sh : Nat → Bool) (b : Int32) (hb : ∀ j, bt b j = decide (j = 20)) (es : List Int32) (w : Nat → Int) (a : Nat) (ha : a + es.length ≤ 20) : ∀ (r : Nat) (T : Int),
    mg_sum (fun m => mg_G (mg_L sh) es (mg_set w ((m : Int) - a)) * mg_C r (T - m)) 21 = mg_G (mg_L sh) (List.replicate r b ++ es) (mg_set w (T - a))
  | 0, T => by
    have hC : ∀ k : Int, mg_C 0 k = if k = 0 then 1 else 0 := by
      intro k
      unfold mg_C
      by_cases h : k < 0
      · rw [if_pos h, if_neg (by omega)]
      · rw [if_neg h]
        by_cases h0 : k = 0
        · subst h0; simp [mg_ch0]
        · rw [if_neg h0, mg_chz (by omega)]
    simp only [List.replicate_zero, List.nil_append]
    by_cases h1 : 0 ≤ T ∧ T ≤ 20
    · rw [mg_sum_pt (a := T.toNat) (by omega)]
      · rw [hC, if_pos (by omega), Nat.mul_one]
        congr 2
        omega
      · intro i _ hn
        rw [hC, if_neg (by omega), Nat.mul_zero]
    · rw [mg_sum_z (fun i hi => by rw [hC, if_neg (by omega), Nat.mul_zero])]
      symm
      by_cases h2 : T < 0
      · refine mg_neg (j := 20) (fun w hw => mg_i_f (fun z => by omega)) _ _ ?_
        simp [mg_set]; omega
      · refine mg_high (j := 20) (r := 0) (fun w hw => mg_i_f (fun z => by omega)) _ _ ?_
        simp [mg_set]; omega
  | r + 1, T => by
    have h1 := mg_wt sh b hb es w a ha r T
    have h2 := mg_wt sh b hb es w a ha r (T - 1)
    rw [List.replicate_succ, List.cons_append, mg_G, mg_set_sub (by rw [hb]; rfl)]
    have e : mg_sub w b = fun j => if j = 20 then w 20 - 1 else w j := by
      funext j
      simp only [mg_sub, hb]
      by_cases z : j = 20 <;> simp [z]
    have e2 : mg_set (mg_sub w b) (T - a - 1) = mg_set w (T - 1 - a) := by
      funext j
      simp only [mg_set, e]
      by_cases z : j = 20
      · simp [z]; omega
      · simp [z]
    rw [e2, ← h1, ← h2, ← mg_sum_add]
    refine mg_sum_eq (fun m _ => ?_)
    rw [mg_Cs, Nat.mul_add, show T - 1 - (m : Int) = T - m - 1 by omega]
end
section
/-! the rules: what is decided by any run of them lies in every state that is closed under them and without a clash -/
theorem ml_core {Z M F : Nat → Bool} {l l' : Int} (hd : ∀ x, x < 20 → ¬ (M x = true ∧ F x = true)) (e : l' = l - (mb_cn (fun x => Z x && M x) 20 : Int)) (h0 : 0 ≤ l') (h1 : l' ≤ (mb_cn (fun x => Z x && !M x && !F x) 20 : Int))
    (hc : l' = 0 ∨ l' = (mb_cn (fun x => Z x && !M x && !F x) 20 : Int) → mb_cn (fun x => Z x && !M x && !F x) 20 = 0) :
    0 ≤ l ∧ l ≤ (mb_cn Z 20 : Int) ∧ (l = 0 → ∀ x, x < 20 → Z x = true → F x = true) ∧ (l = (mb_cn Z 20 : Int) → ∀ x, x < 20 → Z x = true → M x = true) := by
  have s1 := mb_split Z M 20
  have s2 := mb_split (fun x => Z x && !M x) F 20
  have s3 : mb_cn (fun x => Z x && !M x && F x) 20 = mb_cn (fun x => Z x && F x) 20 := mb_eq (fun x hx => by
    have := hd x hx
    cases hM : M x <;> cases hF : F x <;> simp [hM, hF] at this ⊢)
  have key : mb_cn (fun x => Z x && !M x && !F x) 20 = 0 → ∀ x, x < 20 → Z x = true → M x = true ∨ F x = true := by
    intro hz x hx hZ
    have h := mb_zero hz x hx
    cases hM : M x <;> cases hF : F x <;> simp [hZ, hM, hF] at h ⊢
  refine ⟨by omega, by omega, fun hl x hx hZ => ?_, fun hl x hx hZ => ?_⟩
  · have a0 : mb_cn (fun x => Z x && M x) 20 = 0 := by omega
    have g0 := hc (Or.inl (by omega))
    have h := mb_zero a0 x hx
    rcases key g0 x hx hZ with z | z
    · simp [hZ, z] at h
    · exact z
  · have g0 := hc (Or.inr (by omega))
    have b0 : mb_cn (fun x => Z x && F x) 20 = 0 := by omega
    have h := mb_zero b0 x hx
    rcases key g0 x hx hZ with z | z
    · exact z
    · simp [hZ, z] at h
def ml_op (N : Nat → Nat → Bool) (cov M F : Nat → Bool) (d : Nat) : Nat → Bool := fun x => N d x && cov x && !M x && !F x
def ml_ot (N : Nat → Nat → Bool) (cov M F : Nat → Bool) (a b : Nat) : Nat → Bool := fun x => ml_op N cov M F b x && !ml_op N cov M F a x
def ml_lf (N : Nat → Nat → Bool) (kl : Nat → Int) (M : Nat → Bool) (d : Nat) : Int := kl d - (mb_cn (fun x => N d x && M x) 20 : Int)
def ml_Wf (cov M F : Nat → Bool) : Prop := ∀ x, x < 20 → ¬ (M x = true ∧ F x = true) ∧ (M x = true → cov x = true) ∧ (F x = true → cov x = true)
def ml_Sub (M F M' F' : Nat → Bool) : Prop := ∀ x, x < 20 → (M x = true → M' x = true) ∧ (F x = true → F' x = true)
/-- one set of undecided cells with so many mines among them is settled -/
def ml_ok (l : Int) (z : Nat) : Prop := 0 ≤ l ∧ l ≤ (z : Int) ∧ (l = 0 ∨ l = (z : Int) → z = 0)
def ml_c1 (N : Nat → Nat → Bool) (cov : Nat → Bool) (kl : Nat → Int) (M F : Nat → Bool) (d : Nat) : Prop := cov d = false → ml_ok (ml_lf N kl M d) (mb_cn (ml_op N cov M F d) 20)
def ml_inc (N : Nat → Nat → Bool) (cov M F : Nat → Bool) (a b : Nat) : Prop := ∀ x, x < 20 → ml_op N cov M F a x = true → ml_op N cov M F b x = true
def ml_c2 (N : Nat → Nat → Bool) (cov : Nat → Bool) (kl : Nat → Int) (M F : Nat → Bool) (a b : Nat) : Prop := a ≠ b → cov a = false → cov b = false → ml_inc N cov M F a b → ml_ok (ml_lf N kl M b - ml_lf N kl M a) (mb_cn (ml_ot N cov M F a b) 20)
def ml_Good (N : Nat → Nat → Bool) (cov : Nat → Bool) (kl : Nat → Int) (p : Bool) (M F : Nat → Bool) : Prop :=
  ml_Wf cov M F ∧ (∀ d, d < 20 → ml_c1 N cov kl M F d) ∧ (p = true → ∀ a b, a < 20 → b < 20 → ml_c2 N cov kl M F a b)
section
variable {N : Nat → Nat → Bool} {cov : Nat → Bool} {kl : Nat → Int} {p : Bool} {M F M' F' : Nat → Bool}
theorem ml_lo (w : ml_Wf cov M' F') (s : ml_Sub M F M' F') (d : Nat) : mb_cn (fun x => N d x && M' x) 20 = mb_cn (fun x => N d x && M x) 20 + mb_cn (fun x => ml_op N cov M F d x && M' x) 20 := by
  rw [mb_split (fun x => N d x && M' x) M 20]
  congr 1
  · refine mb_eq (fun x hx => ?_)
    have h := (s x hx).1
    cases hM : M x
    · simp
    · rw [h hM]; simp
  · refine mb_eq (fun x hx => ?_)
    obtain ⟨h1, h2⟩ := s x hx
    obtain ⟨w1, w2, w3⟩ := w x hx
    simp only [ml_op]
    cases hM : M x <;> cases hM' : M' x <;> cases hF : F x <;> cases hc : cov x <;> simp [hM, hM', hF, hc] at * <;> simp_all
theorem ml_op' (s : ml_Sub M F M' F') (d x : Nat) (hx : x < 20) : ml_op N cov M' F' d x = (ml_op N cov M F d x && !M' x && !F' x) := by
  obtain ⟨h1, h2⟩ := s x hx
  simp only [ml_op]
  cases hM : M x <;> cases hM' : M' x <;> cases hF : F x <;> cases hF' : F' x <;> simp [hM, hM', hF, hF'] at *
theorem ml_r1 (g : ml_Good N cov kl p M' F') (s : ml_Sub M F M' F') {d : Nat} (hd : d < 20) (hs : cov d = false) :
    0 ≤ ml_lf N kl M d ∧ ml_lf N kl M d ≤ (mb_cn (ml_op N cov M F d) 20 : Int) ∧ (ml_lf N kl M d = 0 → ∀ x, x < 20 → ml_op N cov M F d x = true → F' x = true) ∧ (ml_lf N kl M d = (mb_cn (ml_op N cov M F d) 20 : Int) → ∀ x, x < 20 → ml_op N cov M F d x = true → M' x = true) := by
  obtain ⟨c1, c2, c3⟩ := g.2.1 d hd hs
  have e := ml_lo (N := N) g.1 s d
  have eo : mb_cn (ml_op N cov M' F' d) 20 = mb_cn (fun x => ml_op N cov M F d x && !M' x && !F' x) 20 := mb_eq (fun x hx => ml_op' s d x hx)
  rw [eo] at c2 c3
  refine ml_core (M := M') (F := F') (l' := ml_lf N kl M' d) (fun x hx => (g.1 x hx).1) ?_ c1 c2 c3
  simp only [ml_lf]
  omega
theorem ml_r2 (g : ml_Good N cov kl true M' F') (s : ml_Sub M F M' F') {a b : Nat} (ha : a < 20) (hb : b < 20) (hne : a ≠ b) (hsa : cov a = false) (hsb : cov b = false) (hi : ml_inc N cov M F a b) :
    0 ≤ ml_lf N kl M b - ml_lf N kl M a ∧ ml_lf N kl M b - ml_lf N kl M a ≤ (mb_cn (ml_ot N cov M F a b) 20 : Int) ∧ (ml_lf N kl M b - ml_lf N kl M a = 0 → ∀ x, x < 20 → ml_ot N cov M F a b x = true → F' x = true) ∧ (ml_lf N kl M b - ml_lf N kl M a = (mb_cn (ml_ot N cov M F a b) 20 : Int) → ∀ x, x < 20 → ml_ot N cov M F a b x = true → M' x = true) := by
  have hi' : ml_inc N cov M' F' a b := by
    intro x hx h
    rw [ml_op' s a x hx] at h
    rw [ml_op' s b x hx]
    simp only [Bool.and_eq_true] at h ⊢
    exact ⟨⟨hi x hx h.1.1, h.1.2⟩, h.2⟩
  obtain ⟨c1, c2, c3⟩ := g.2.2 rfl a b ha hb hne hsa hsb hi'
  have ea := ml_lo (N := N) g.1 s a
  have eb := ml_lo (N := N) g.1 s b
  have eo : mb_cn (ml_ot N cov M' F' a b) 20 = mb_cn (fun x => ml_ot N cov M F a b x && !M' x && !F' x) 20 := mb_eq (fun x hx => by
    simp only [ml_ot]
    rw [ml_op' s a x hx, ml_op' s b x hx]
    cases ml_op N cov M F a x <;> cases ml_op N cov M F b x <;> cases M' x <;> cases F' x <;> rfl)
  rw [eo] at c2 c3
  refine ml_core (M := M') (F := F') (l' := ml_lf N kl M' b - ml_lf N kl M' a) (fun x hx => (g.1 x hx).1) ?_ c1 c2 c3
  have sp := mb_split (fun x => ml_op N cov M F b x && M' x) (ml_op N cov M F a) 20
  have e1 : mb_cn (fun x => ml_op N cov M F b x && M' x && ml_op N cov M F a x) 20 = mb_cn (fun x => ml_op N cov M F a x && M' x) 20 := mb_eq (fun x hx => by
    have := hi x hx
    cases h1 : ml_op N cov M F a x
    · simp
    · rw [this h1]; simp)
  have e2 : mb_cn (fun x => ml_op N cov M F b x && M' x && !ml_op N cov M F a x) 20 = mb_cn (fun x => ml_ot N cov M F a b x && M' x) 20 := mb_eq (fun x hx => by
    simp only [ml_ot]
    cases ml_op N cov M F a x <;> cases ml_op N cov M F b x <;> cases M' x <;> rfl)
  simp only [ml_lf]
  omega
/-- what holds while rules are applied -/
def ml_I (N : Nat → Nat → Bool) (cov : Nat → Bool) (kl : Nat → Int) (p : Bool) (M F : Nat → Bool) : Prop := ml_Wf cov M F ∧ ∀ M' F', ml_Good N cov kl p M' F' → ml_Sub M F M' F'
theorem ml_set (h : ml_I N cov kl p M F) {Z : Nat → Bool} {l : Int} (hZ : ∀ x, x < 20 → Z x = true → cov x = true ∧ M x = false ∧ F x = false)
    (hr : ∀ M' F', ml_Good N cov kl p M' F' → ml_Sub M F M' F' → 0 ≤ l ∧ l ≤ (mb_cn Z 20 : Int) ∧ (l = 0 → ∀ x, x < 20 → Z x = true → F' x = true) ∧ (l = (mb_cn Z 20 : Int) → ∀ x, x < 20 → Z x = true → M' x = true)) :
    (l < 0 ∨ (mb_cn Z 20 : Int) < l → ∀ M' F', ¬ ml_Good N cov kl p M' F') ∧ (l = 0 → ∀ F2 : Nat → Bool, (∀ x, x < 20 → F2 x = (F x || Z x)) → ml_I N cov kl p M F2) ∧ (l = (mb_cn Z 20 : Int) → ∀ M2 : Nat → Bool, (∀ x, x < 20 → M2 x = (M x || Z x)) → ml_I N cov kl p M2 F) := by
  refine ⟨fun hl M' F' g => ?_, fun hl F2 e => ⟨fun x hx => ?_, fun M' F' g x hx => ?_⟩, fun hl M2 e => ⟨fun x hx => ?_, fun M' F' g x hx => ?_⟩⟩
  · obtain ⟨a, b, -⟩ := hr M' F' g (h.2 M' F' g)
    omega
  · obtain ⟨w1, w2, w3⟩ := h.1 x hx
    have hz := hZ x hx
    rw [e x hx]
    cases hzx : Z x
    · simpa using ⟨by simpa using w1, w2, w3⟩
    · obtain ⟨z1, z2, z3⟩ := hz hzx
      simp [z1, z2]
  · have s := h.2 M' F' g
    refine ⟨(s x hx).1, fun hf => ?_⟩
    rw [e x hx] at hf
    cases hF : F x
    · rw [hF, Bool.false_or] at hf
      exact (hr M' F' g s).2.2.1 hl x hx hf
    · exact (s x hx).2 hF
  · obtain ⟨w1, w2, w3⟩ := h.1 x hx
    have hz := hZ x hx
    rw [e x hx]
    cases hzx : Z x
    · simpa using ⟨by simpa using w1, w2, w3⟩
    · obtain ⟨z1, z2, z3⟩ := hz hzx
      simp [z1, z3]
  · have s := h.2 M' F' g
    refine ⟨fun hf => ?_, (s x hx).2⟩
    rw [e x hx] at hf
    cases hM : M x
    · rw [hM, Bool.false_or] at hf
      exact (hr M' F' g s).2.2.2 hl x hx hf
    · exact (s x hx).1 hM
end
/-- the one answer -/
def ml_S (N : Nat → Nat → Bool) (cov : Nat → Bool) (kl : Nat → Int) (p r : Bool) (M F : Nat → Bool) : Prop :=
  (r = true → ml_Good N cov kl p M F ∧ ∀ M' F', ml_Good N cov kl p M' F' → ml_Sub M F M' F') ∧ (r = false → ∀ M' F', ¬ ml_Good N cov kl p M' F')
theorem ml_uniq {N : Nat → Nat → Bool} {cov : Nat → Bool} {kl : Nat → Int} {p r r' : Bool} {M F M' F' : Nat → Bool} (h : ml_S N cov kl p r M F) (h' : ml_S N cov kl p r' M' F') : r = r' ∧ (r = true → ∀ x, x < 20 → M x = M' x ∧ F x = F' x) := by
  cases r <;> cases r'
  · exact ⟨rfl, fun z => by cases z⟩
  · exact absurd (h'.1 rfl).1 (h.2 rfl M' F')
  · exact absurd (h.1 rfl).1 (h'.2 rfl M F)
  · refine ⟨rfl, fun _ x hx => ?_⟩
    obtain ⟨g, s⟩ := h.1 rfl
    obtain ⟨g', s'⟩ := h'.1 rfl
    obtain ⟨a1, a2⟩ := s M' F' g' x hx
    obtain ⟨b1, b2⟩ := s' M F g x hx
    constructor
    · cases hM : M x <;> cases hM' : M' x <;> simp [hM, hM'] at a1 b1 ⊢
    · cases hM : F x <;> cases hM' : F' x <;> simp [hM, hM'] at a2 b2 ⊢
theorem ml_wf0 (cov : Nat → Bool) : ml_Wf cov (fun _ => false) (fun _ => false) := fun _ _ => ⟨by simp, by simp, by simp⟩
end
section
/-! the field -/
def me_tab : List Nat := [98, 229, 458, 916, 776, 3139, 7335, 14670, 29340, 24856, 100448, 234720, 469440, 938880, 795392, 68608, 171008, 342016, 684032, 286720]
def me_t (c : Nat) : Int32 := nI (me_tab.getD c 0)
def me_nr (c d : Nat) : Bool := decide (c ≠ d ∧ c / 5 ≤ d / 5 + 1 ∧ d / 5 ≤ c / 5 + 1 ∧ c % 5 ≤ d % 5 + 1 ∧ d % 5 ≤ c % 5 + 1)
theorem me_bt : ∀ c, c < 20 → ∀ d, d < 32 → bt (me_t c) d = (decide (d < 20) && me_nr c d) := by decide +kernel
theorem me_sym (c d : Nat) : me_nr c d = me_nr d c := decide_eq_decide.mpr ⟨fun h => ⟨fun z => h.1 z.symm, h.2.2.1, h.2.1, h.2.2.2.2, h.2.2.2.1⟩, fun h => ⟨fun z => h.1 z.symm, h.2.2.1, h.2.1, h.2.2.2.2, h.2.2.2.1⟩⟩
theorem me_btS {c d : Nat} (hc : c < 20) (hd : d < 20) : bt (me_t c) d = bt (me_t d) c := by
  rw [me_bt c hc d (by omega), me_bt d hd c (by omega), me_sym, decide_eq_true hc, decide_eq_true hd]
theorem me_btH {c d : Nat} (hc : c < 20) (hd : 20 ≤ d) : bt (me_t c) d = false := by
  rcases Nat.lt_or_ge d 32 with h | h
  · rw [me_bt c hc d h, decide_eq_false (by omega)]; rfl
  · exact b_big h
theorem me_self {c : Nat} (hc : c < 20) : bt (me_t c) c = false := by
  rw [me_bt c hc c (by omega)]
  simp [me_nr]
theorem me_le8 : ∀ c, c < 20 → mb_cn (bt (me_t c)) 20 ≤ 8 := by decide +kernel
def me_b : Int32 := nI 1048576
theorem me_bb (j : Nat) : bt me_b j = decide (j = 20) := by
  rcases Nat.lt_or_ge j 32 with h | h
  · exact (by decide +kernel : ∀ j, j < 32 → bt me_b j = decide (j = 20)) j h
  · rw [b_big h, decide_eq_false (by omega)]
/-- a mask of cells alone -/
def me_lo (x : Int32) : Prop := ∀ j, 20 ≤ j → bt x j = false
theorem me_ext {x y : Int32} (hx : me_lo x) (hy : me_lo y) (h : ∀ j, j < 20 → bt x j = bt y j) : x = y := b_ext (fun i _ => by
  rcases Nat.lt_or_ge i 20 with z | z
  · exact h i z
  · rw [hx i z, hy i z])
theorem me_loN {x : Int32} (h : me_lo x) : ∃ n, n < 2 ^ 20 ∧ x = nI n := by
  refine ⟨x.toBitVec.toNat, ?_, ?_⟩
  · apply Nat.lt_pow_two_of_testBit
    intro i hi
    have := h i hi
    rw [← this]
    rfl
  · apply Int32.toBitVec_inj.1
    show x.toBitVec = BitVec.ofNat 32 x.toBitVec.toNat
    simp
theorem me_btN {n : Nat} (h : n < 2 ^ 20) (i : Nat) : bt (nI n) i = n.testBit i := by
  show (BitVec.ofNat 32 n).getLsbD i = _
  rw [BitVec.getLsbD_ofNat]
  rcases Nat.lt_or_ge i 32 with z | z
  · simp [z]
  · have : n.testBit i = false := Nat.testBit_lt_two_pow (Nat.lt_of_lt_of_le h (Nat.pow_le_pow_right (by omega) (by omega)))
    simp [this]
theorem me_0 {x : Int32} (hx : me_lo x) : x = 0 ↔ ∀ j, j < 20 → bt x j = false := by
  constructor
  · intro h j _; rw [h, b_0]
  · intro h; exact me_ext hx (fun j _ => b_0 j) (fun j hj => by rw [h j hj, b_0])
/-- the number of cells of a set -/
def me_c (x : Int32) : Nat := mb_cn (bt x) 20
def me_ed (S : Int32) (c : Nat) : Bool := !bt S c && decide (me_t c &&& S ≠ 0)
def me_ot (S : Int32) (c : Nat) : Bool := !bt S c && decide (me_t c &&& S = 0)
def me_E (S : Int32) : List Nat := (List.range 20).filter (me_ed S)
def me_R (S : Int32) : Nat := mb_cn (me_ot S) 20
def me_mk (S : Int32) (c : Nat) : Int32 := (me_t c &&& S) ||| me_b
def me_w (S : Int32) (kl : Nat → Int) (T : Int) : Nat → Int := fun j => if j = 20 then T else if bt S j = true then kl j else 0
theorem me_E_mem {S : Int32} {c : Nat} : c ∈ me_E S ↔ c < 20 ∧ me_ed S c = true := by simp [me_E]
theorem me_E_nd (S : Int32) : (me_E S).Nodup := List.Pairwise.filter _ List.nodup_range
theorem me_E_len (S : Int32) : (me_E S).length = mb_cn (me_ed S) 20 := (mb_filter _ _).symm
theorem me_ER (S : Int32) : (me_E S).length + me_R S = mb_cn (fun c => !bt S c) 20 := by
  rw [me_E_len, me_R, mb_split (fun c => !bt S c) (fun c => decide (me_t c &&& S ≠ 0)) 20]
  congr 1
  refine mb_eq (fun c _ => ?_)
  simp [me_ot]
theorem me_ER20 (S : Int32) : (me_E S).length + me_R S ≤ 20 := by rw [me_ER]; exact mb_le _ _
theorem me_w_set (S : Int32) (kl : Nat → Int) (T T' : Int) : mg_set (me_w S kl T') T = me_w S kl T := by
  funext j
  simp only [mg_set, me_w]
  by_cases h : j = 20 <;> simp [h]
theorem me_mk20 {S : Int32} (c : Nat) : bt (me_mk S c) 20 = true := by rw [me_mk, b_or, me_bb]; simp
theorem me_mkb (S : Int32) {c j : Nat} (hj : j < 20) : bt (me_mk S c) j = (bt (me_t c) j && bt S j) := by
  rw [me_mk, b_or, me_bb, b_and, decide_eq_false (by omega), Bool.or_false]
noncomputable def me_F (S : Int32) (kl : Nat → Int) (m : Int) : Nat := mg_G (mg_L (bt S)) ((me_E S).map (me_mk S)) (me_w S kl m)
noncomputable def me_Fc (S : Int32) (kl : Nat → Int) (c : Nat) (m : Int) : Nat := mg_G (mg_L (bt S)) (((me_E S).erase c).map (me_mk S)) (mg_sub (me_w S kl m) (me_mk S c))
noncomputable def me_Cnt (S : Int32) (kl : Nat → Int) (T : Int) : Nat :=
  if T < 0 then 2 ^ me_R S * mg_G (mg_L' (bt S)) ((me_E S).map (me_mk S)) (me_w S kl 0) else mg_G (mg_L (bt S)) (List.replicate (me_R S) me_b ++ (me_E S).map (me_mk S)) (me_w S kl T)
noncomputable def me_Min (S : Int32) (kl : Nat → Int) (T : Int) (c : Nat) : Nat :=
  if me_ed S c = true then
    (if T < 0 then 2 ^ me_R S * mg_G (mg_L' (bt S)) (((me_E S).erase c).map (me_mk S)) (mg_sub (me_w S kl 0) (me_mk S c))
      else mg_G (mg_L (bt S)) (List.replicate (me_R S) me_b ++ ((me_E S).erase c).map (me_mk S)) (mg_sub (me_w S kl T) (me_mk S c)))
  else
    (if T < 0 then 2 ^ (me_R S - 1) * mg_G (mg_L' (bt S)) ((me_E S).map (me_mk S)) (me_w S kl 0)
      else mg_G (mg_L (bt S)) (List.replicate (me_R S - 1) me_b ++ (me_E S).map (me_mk S)) (me_w S kl (T - 1)))
/-! the reference's sums -/
theorem me_Y0 (S : Int32) (kl : Nat → Int) {T : Int} (h : T < 0) : mg_sum (fun m => me_F S kl m * 2 ^ me_R S) 21 = me_Cnt S kl T := by
  rw [me_Cnt, if_pos h, mg_sum_eq (g := fun m : Nat => 2 ^ me_R S * mg_G (mg_L (bt S)) ((me_E S).map (me_mk S)) (mg_set (me_w S kl 0) ((m : Int) - (0 : Nat)))), mg_sum_mul, mg_nt]
  · intro m hm
    obtain ⟨c, -, rfl⟩ := List.mem_map.mp hm
    exact me_mk20 c
  · have := me_ER20 S; simp; omega
  · intro i _
    rw [me_F, me_w_set, Nat.mul_comm, show (i : Int) - ((0 : Nat) : Int) = i by omega]
theorem me_Y1 (S : Int32) (kl : Nat → Int) (T : Int) (r : Nat) : mg_sum (fun m => me_F S kl m * mg_C r (T - m)) 21 = mg_G (mg_L (bt S)) (List.replicate r me_b ++ (me_E S).map (me_mk S)) (me_w S kl T) := by
  have h := mg_wt (bt S) me_b me_bb ((me_E S).map (me_mk S)) (me_w S kl 0) 0 (by have := me_ER20 S; simp; omega) r T
  rw [me_w_set, show T - ((0 : Nat) : Int) = T by omega] at h
  rw [← h]
  refine mg_sum_eq (fun m _ => ?_)
  rw [me_F, me_w_set, show (m : Int) - ((0 : Nat) : Int) = m by omega]
theorem me_Er {S : Int32} {c : Nat} (h : c ∈ me_E S) : ((me_E S).erase c).length + 1 = (me_E S).length := by
  have h1 := List.length_erase_of_mem h
  have h2 := List.length_pos_of_mem h
  omega
theorem me_Fc' (S : Int32) (kl : Nat → Int) (c : Nat) (m : Int) : me_Fc S kl c m = mg_G (mg_L (bt S)) (((me_E S).erase c).map (me_mk S)) (mg_set (mg_sub (me_w S kl 0) (me_mk S c)) (m - 1)) := by
  rw [me_Fc, ← mg_set_sub (me_mk20 c), me_w_set]
theorem me_Y2 (S : Int32) (kl : Nat → Int) {T : Int} {c : Nat} (h : T < 0) (hc : c < 20) (he : me_ed S c = true) : mg_sum (fun m => me_Fc S kl c m * 2 ^ me_R S) 21 = me_Min S kl T c := by
  have hm := me_E_mem.mpr ⟨hc, he⟩
  have hl := me_Er hm
  rw [me_Min, if_pos he, if_pos h, mg_sum_eq (g := fun m : Nat => 2 ^ me_R S * mg_G (mg_L (bt S)) (((me_E S).erase c).map (me_mk S)) (mg_set (mg_sub (me_w S kl 0) (me_mk S c)) ((m : Int) - (1 : Nat)))), mg_sum_mul, mg_nt]
  · intro m hm
    obtain ⟨c, -, rfl⟩ := List.mem_map.mp hm
    exact me_mk20 c
  · have := me_ER20 S; rw [List.length_map]; omega
  · intro i _
    rw [me_Fc', Nat.mul_comm]
    rfl
theorem me_Y3 (S : Int32) (kl : Nat → Int) {T : Int} {c : Nat} (h : ¬ T < 0) (hc : c < 20) (he : me_ed S c = true) : mg_sum (fun m => me_Fc S kl c m * mg_C (me_R S) (T - m)) 21 = me_Min S kl T c := by
  have hm := me_E_mem.mpr ⟨hc, he⟩
  have hl := me_Er hm
  have hw := mg_wt (bt S) me_b me_bb (((me_E S).erase c).map (me_mk S)) (mg_sub (me_w S kl 0) (me_mk S c)) 1 (by have := me_ER20 S; rw [List.length_map]; omega) (me_R S) T
  rw [me_Min, if_pos he, if_neg h]
  have e : mg_sub (me_w S kl T) (me_mk S c) = mg_set (mg_sub (me_w S kl 0) (me_mk S c)) (T - ((1 : Nat) : Int)) := by
    rw [show T - ((1 : Nat) : Int) = T - 1 from rfl, ← mg_set_sub (me_mk20 c), me_w_set]
  rw [e, ← hw]
  refine mg_sum_eq (fun m _ => ?_)
  rw [me_Fc']
  rfl
theorem me_Y4 (S : Int32) (kl : Nat → Int) {T : Int} {c : Nat} (h : T < 0) (he : ¬ me_ed S c = true) : mg_sum (fun m => me_F S kl m * 2 ^ (me_R S - 1)) 21 = me_Min S kl T c := by
  rw [me_Min, if_neg he, if_pos h, mg_sum_eq (g := fun m : Nat => 2 ^ (me_R S - 1) * mg_G (mg_L (bt S)) ((me_E S).map (me_mk S)) (mg_set (me_w S kl 0) ((m : Int) - (0 : Nat)))), mg_sum_mul, mg_nt]
  · intro m hm
    obtain ⟨c, -, rfl⟩ := List.mem_map.mp hm
    exact me_mk20 c
  · have := me_ER20 S; simp; omega
  · intro i _
    rw [me_F, me_w_set, Nat.mul_comm, show (i : Int) - ((0 : Nat) : Int) = i by omega]
theorem me_Y5 (S : Int32) (kl : Nat → Int) {T : Int} {c : Nat} (h : ¬ T < 0) (he : ¬ me_ed S c = true) : mg_sum (fun m => me_F S kl m * mg_C (me_R S - 1) (T - (m + 1 : Nat))) 21 = me_Min S kl T c := by
  rw [me_Min, if_neg he, if_neg h, ← me_Y1]
  refine mg_sum_eq (fun m _ => ?_)
  congr 2
  omega
theorem me_L1 (sh : Nat → Bool) (w : Nat → Int) : mg_L sh w ≤ 1 := mg_i_le _
theorem me_L1' (sh : Nat → Bool) (w : Nat → Int) : mg_L' sh w ≤ 1 := mg_i_le _
theorem me_Cb (S : Int32) (kl : Nat → Int) (T : Int) : me_Cnt S kl T ≤ 2 ^ 20 := by
  have hl := me_ER20 S
  have mono : ∀ a, a ≤ 20 → 2 ^ a ≤ 2 ^ 20 := fun a ha => Nat.pow_le_pow_right (by omega) ha
  rw [me_Cnt]
  split
  · have h := mg_bound (me_L1' (bt S)) ((me_E S).map (me_mk S)) (me_w S kl 0)
    rw [List.length_map] at h
    refine Nat.le_trans (Nat.mul_le_mul_left _ h) ?_
    rw [← Nat.pow_add]
    exact mono _ (by omega)
  · have h := mg_bound (me_L1 (bt S)) (List.replicate (me_R S) me_b ++ (me_E S).map (me_mk S)) (me_w S kl T)
    rw [List.length_append, List.length_replicate, List.length_map] at h
    exact Nat.le_trans h (mono _ (by omega))
theorem me_Mb (S : Int32) (kl : Nat → Int) (T : Int) (c : Nat) (hc : c < 20) : me_Min S kl T c ≤ 2 ^ 20 := by
  have hl := me_ER20 S
  have mono : ∀ a, a ≤ 20 → 2 ^ a ≤ 2 ^ 20 := fun a ha => Nat.pow_le_pow_right (by omega) ha
  rw [me_Min]
  split
  · rename_i he
    have hm := me_Er (me_E_mem.mpr ⟨hc, he⟩)
    split
    · have h := mg_bound (me_L1' (bt S)) (((me_E S).erase c).map (me_mk S)) (mg_sub (me_w S kl 0) (me_mk S c))
      rw [List.length_map] at h
      refine Nat.le_trans (Nat.mul_le_mul_left _ h) ?_
      rw [← Nat.pow_add]
      exact mono _ (by omega)
    · have h := mg_bound (me_L1 (bt S)) (List.replicate (me_R S) me_b ++ ((me_E S).erase c).map (me_mk S)) (mg_sub (me_w S kl T) (me_mk S c))
      rw [List.length_append, List.length_replicate, List.length_map] at h
      exact Nat.le_trans h (mono _ (by omega))
  · split
    · have h := mg_bound (me_L1' (bt S)) ((me_E S).map (me_mk S)) (me_w S kl 0)
      rw [List.length_map] at h
      refine Nat.le_trans (Nat.mul_le_mul_left _ h) ?_
      rw [← Nat.pow_add]
      exact mono _ (by omega)
    · have h := mg_bound (me_L1 (bt S)) (List.replicate (me_R S - 1) me_b ++ (me_E S).map (me_mk S)) (me_w S kl (T - 1))
      rw [List.length_append, List.length_replicate, List.length_map] at h
      exact Nat.le_trans h (mono _ (by omega))
end
section
/-! the component's kinds against the counts -/
theorem mc_flat_app : ∀ (a b : List (Nat × Int32)), mg_flat (a ++ b) = mg_flat a ++ mg_flat b
  | [], _ => rfl
  | k :: a, b => by rw [List.cons_append, mg_flat, mg_flat, mc_flat_app a b, List.append_assoc]
theorem mc_flat1 (n : Nat) (m : Int32) : mg_flat [(n, m)] = List.replicate n m := by simp [mg_flat]
theorem mc_erase (f : Nat → Int32) {l : List Nat} {c : Nat} (h : c ∈ l) : List.Perm (l.map f) (f c :: (l.erase c).map f) := by
  rw [← List.map_cons]
  exact (List.perm_cons_erase h).map f
theorem mc_X1 {S : Int32} {ks : List (Nat × Int32)} (hp : List.Perm (mg_flat ks) ((me_E S).map (me_mk S))) (kl : Nat → Int) {T : Int} (hT : ¬ T < 0) :
    mg_K (mg_L (bt S)) (ks ++ [(me_R S, me_b)]) (me_w S kl T) = me_Cnt S kl T := by
  rw [mg_KG, me_Cnt, if_neg hT, mc_flat_app, mc_flat1]
  exact mg_perm (List.perm_append_comm.trans (hp.append_left _)) _
theorem mc_X2 {S : Int32} {ks : List (Nat × Int32)} (hp : List.Perm (mg_flat ks) ((me_E S).map (me_mk S))) (kl : Nat → Int) {T : Int} (hT : ¬ T < 0) {c i s : Nat} (hc : c < 20) (he : me_ed S c = true) (hi : ks[i]? = some (s + 1, me_mk S c)) :
    mg_H (mg_L (bt S)) i (ks ++ [(me_R S, me_b)]) (me_w S kl T) = (s + 1) * me_Min S kl T c := by
  have hi' : (ks ++ [(me_R S, me_b)])[i]? = some (s + 1, me_mk S c) := by
    rw [List.getElem?_append_left]
    · exact hi
    · exact (List.getElem?_eq_some_iff.mp hi).1
  rw [mg_HK _ _ _ _ _ _ hi', mg_KG, me_Min, if_pos he, if_neg hT]
  congr 1
  refine mg_perm ?_ _
  have h1 := mg_decp _ _ _ _ hi'
  rw [mc_flat_app, mc_flat1] at h1
  have h2 : List.Perm (mg_flat ks ++ List.replicate (me_R S) me_b) (me_mk S c :: (List.replicate (me_R S) me_b ++ ((me_E S).erase c).map (me_mk S))) :=
    (List.perm_append_comm.trans ((hp.trans (mc_erase (me_mk S) (me_E_mem.mpr ⟨hc, he⟩))).append_left _)).trans List.perm_middle
  exact (h1.trans h2).cons_inv
theorem mc_X3 {S : Int32} {ks : List (Nat × Int32)} (hp : List.Perm (mg_flat ks) ((me_E S).map (me_mk S))) (kl : Nat → Int) {T : Int} (hT : ¬ T < 0) {c : Nat} (he : ¬ me_ed S c = true) (hR : 0 < me_R S) :
    mg_H (mg_L (bt S)) ks.length (ks ++ [(me_R S, me_b)]) (me_w S kl T) = me_R S * me_Min S kl T c := by
  obtain ⟨s, hs⟩ : ∃ s, me_R S = s + 1 := ⟨me_R S - 1, by omega⟩
  have hi' : (ks ++ [(me_R S, me_b)])[ks.length]? = some (s + 1, me_b) := by
    rw [List.getElem?_append_right (Nat.le_refl _), hs]; simp
  rw [mg_HK _ _ _ _ _ _ hi', mg_KG, me_Min, if_neg he, if_neg hT, hs]
  congr 1
  have e : mg_sub (me_w S kl T) me_b = me_w S kl (T - 1) := by
    funext j
    simp only [mg_sub, me_w, me_bb]
    by_cases z : j = 20 <;> simp [z]
  rw [e]
  refine mg_perm ?_ _
  have h1 := mg_decp _ _ _ _ hi'
  rw [mc_flat_app, mc_flat1, hs] at h1
  have h2 : List.Perm (mg_flat ks ++ List.replicate (s + 1) me_b) (me_b :: (List.replicate (s + 1 - 1) me_b ++ (me_E S).map (me_mk S))) := by
    rw [Nat.add_sub_cancel, ← List.cons_append, ← List.replicate_succ]
    exact List.perm_append_comm.trans (hp.append_left _)
  exact (h1.trans h2).cons_inv
def mc_mx (S : Int32) (c : Nat) : Int32 := me_t c &&& S
theorem mc_mxb (S : Int32) {c j : Nat} (hj : j < 20) : bt (mc_mx S c) j = bt (me_mk S c) j := by rw [me_mkb S hj, mc_mx, b_and]
theorem mc_b20 (S : Int32) (l : List Nat) {w w' : Nat → Int} (hw : ∀ j, j < 20 → w j = w' j) : mg_G (mg_L' (bt S)) (l.map (mc_mx S)) w = mg_G (mg_L' (bt S)) (l.map (me_mk S)) w' :=
  mg_b20 (bt S) _ _ w w' (by simp) (fun i h1 h2 j hj => by simp only [List.getElem_map]; exact mc_mxb S hj) hw
theorem mc_X4 {S : Int32} {ks : List (Nat × Int32)} (hp : List.Perm (mg_flat ks) ((me_E S).map (mc_mx S))) (kl : Nat → Int) {T : Int} (hT : T < 0) (T' : Int) :
    2 ^ me_R S * mg_K (mg_L' (bt S)) ks (me_w S kl T') = me_Cnt S kl T := by
  rw [mg_KG, me_Cnt, if_pos hT, mg_perm hp, mc_b20 S (me_E S) (w' := me_w S kl 0)]
  intro j hj
  simp only [me_w, show j ≠ 20 by omega, if_false]
theorem mc_X5 {S : Int32} {ks : List (Nat × Int32)} (hp : List.Perm (mg_flat ks) ((me_E S).map (mc_mx S))) (kl : Nat → Int) {T : Int} (hT : T < 0) (T' : Int) {c i s : Nat} (hc : c < 20) (he : me_ed S c = true) (hi : ks[i]? = some (s + 1, mc_mx S c)) :
    2 ^ me_R S * mg_H (mg_L' (bt S)) i ks (me_w S kl T') = (s + 1) * me_Min S kl T c := by
  rw [mg_HK _ _ _ _ _ _ hi, mg_KG, me_Min, if_pos he, if_pos hT, Nat.mul_left_comm]
  congr 2
  have h1 := mg_decp _ _ _ _ hi
  have h2 := (h1.trans (hp.trans (mc_erase (mc_mx S) (me_E_mem.mpr ⟨hc, he⟩)))).cons_inv
  rw [mg_perm h2]
  apply mc_b20
  intro j hj
  simp only [mg_sub, me_w, mc_mxb S hj, show j ≠ 20 by omega, if_false]
theorem mc_X6 {S : Int32} {ks : List (Nat × Int32)} (hp : List.Perm (mg_flat ks) ((me_E S).map (mc_mx S))) (kl : Nat → Int) {T : Int} (hT : T < 0) (T' : Int) {c : Nat} (he : ¬ me_ed S c = true) (hR : 0 < me_R S) :
    2 ^ me_R S * mg_K (mg_L' (bt S)) ks (me_w S kl T') * me_R S / 2 = me_R S * me_Min S kl T c := by
  have h4 := mc_X4 hp kl hT T'
  obtain ⟨s, hs⟩ : ∃ s, me_R S = s + 1 := ⟨me_R S - 1, by omega⟩
  rw [h4, me_Min, if_neg he, if_pos hT, me_Cnt, if_pos hT, hs, Nat.add_sub_cancel, Nat.pow_succ]
  generalize mg_G (mg_L' (bt S)) ((me_E S).map (me_mk S)) (me_w S kl 0) = g
  have e : 2 ^ s * 2 * g * (s + 1) = (s + 1) * (2 ^ s * g) * 2 := by
    rw [Nat.mul_right_comm (2 ^ s) 2 g, Nat.mul_right_comm (2 ^ s * g) 2 (s + 1), Nat.mul_comm (2 ^ s * g) (s + 1)]
  rw [e, Nat.mul_div_cancel _ (by omega)]
/-! leaves of the search -/
noncomputable def mc_L (J : Nat → Bool) (r : Nat → Int) (w : Nat → Int) : Nat := mg_i (∀ j, j < 21 → J j = true → 0 ≤ w j ∧ w j ≤ r j)
theorem mc_L1 (J : Nat → Bool) (r : Nat → Int) (w : Nat → Int) : mc_L J r w ≤ 1 := mg_i_le _
/-- with a total -/
theorem mc_LT {S J : Int32} (hJ : ∀ j, j < 21 → bt J j = (bt S j || decide (j = 20))) {r : Nat → Int} (hr : ∀ j, j < 21 → bt J j = true → r j = 0) (h20 : bt S 20 = false) : mc_L (bt J) r = mg_L (bt S) := by
  funext w
  refine mg_i_eq ⟨fun h => ⟨fun j hj hs => ?_, ?_⟩, fun h j hj hs => ?_⟩
  · have hb : bt J j = true := by rw [hJ j (by omega), hs]; rfl
    have := h j (by omega) hb
    rw [hr j (by omega) hb] at this
    omega
  · have hb : bt J 20 = true := by rw [hJ 20 (by omega)]; simp
    have := h 20 (by omega) hb
    rw [hr 20 (by omega) hb] at this
    omega
  · rw [hr j hj hs]
    by_cases z : j = 20
    · subst z; have := h.2; omega
    · rw [hJ j hj, decide_eq_false z, Bool.or_false] at hs
      have := h.1 j (by omega) hs
      omega
theorem mc_LN {S J : Int32} (hJ : ∀ j, j < 21 → bt J j = bt S j) {r : Nat → Int} (hr : ∀ j, j < 21 → bt J j = true → r j = 0) (h20 : bt S 20 = false) : mc_L (bt J) r = mg_L' (bt S) := by
  funext w
  refine mg_i_eq ⟨fun h j hj hs => ?_, fun h j hj hs => ?_⟩
  · have hb : bt J j = true := by rw [hJ j (by omega), hs]
    have := h j (by omega) hb
    rw [hr j (by omega) hb] at this
    omega
  · rw [hr j hj hs]
    rw [hJ j hj] at hs
    have z : j ≠ 20 := fun z => by rw [z, h20] at hs; cases hs
    have := h j (by omega) hs
    omega
/-! a watched cell c: r c = 8, need 8; its number b -/
noncomputable def mc_Lb (J : Nat → Bool) (r : Nat → Int) (c : Nat) (b : Nat) (w : Nat → Int) : Nat := mg_i ((∀ j, j < 21 → J j = true → 0 ≤ w j ∧ w j ≤ r j) ∧ w c = 8 - (b : Int))
def mc_sh (c : Nat) (d : Int) (w : Nat → Int) : Nat → Int := fun j => if j = c then w j - d else w j
theorem mc_shG (L : (Nat → Int) → Nat) (c : Nat) (d : Int) : ∀ (l : List Int32) (w : Nat → Int), mg_G (fun w => L (mc_sh c d w)) l w = mg_G L l (mc_sh c d w)
  | [], _ => rfl
  | m :: l, w => by
    rw [mg_G, mg_G, mc_shG L c d l, mc_shG L c d l]
    congr 2
    funext j
    simp only [mc_sh, mg_sub]
    by_cases z : j = c <;> simp [z] <;> omega
theorem mc_LbT {S J : Int32} {c b : Nat} (hc : c < 20) (hcS : bt S c = true) (hb : b ≤ 8) (hJ : ∀ j, j < 21 → bt J j = (bt S j || decide (j = 20))) {r : Nat → Int} (hr : ∀ j, j < 21 → bt J j = true → r j = if j = c then 8 else 0) (h20 : bt S 20 = false) :
    mc_Lb (bt J) r c b = fun w => mg_L (bt S) (mc_sh c (8 - (b : Int)) w) := by
  funext w
  refine mg_i_eq ⟨fun h => ⟨fun j hj hs => ?_, ?_⟩, fun h => ⟨fun j hj hs => ?_, ?_⟩⟩
  · have hb' : bt J j = true := by rw [hJ j (by omega), hs]; rfl
    have := h.1 j (by omega) hb'
    rw [hr j (by omega) hb'] at this
    simp only [mc_sh]
    by_cases z : j = c
    · subst z; simp; have := h.2; omega
    · simp [z] at this ⊢; omega
  · have hb' : bt J 20 = true := by rw [hJ 20 (by omega)]; simp
    have := h.1 20 (by omega) hb'
    rw [hr 20 (by omega) hb'] at this
    have z : (20 : Nat) ≠ c := by omega
    simp [mc_sh, z] at this ⊢; omega
  · rw [hr j hj hs]
    by_cases z : j = c
    · subst z
      have := h.1 j (by omega) hcS
      simp [mc_sh] at this ⊢; omega
    · by_cases z2 : j = 20
      · subst z2; have := h.2; simp [mc_sh, z] at this ⊢; omega
      · rw [hJ j hj, decide_eq_false z2, Bool.or_false] at hs
        have := h.1 j (by omega) hs
        simp [mc_sh, z] at this ⊢; omega
  · have := h.1 c hc hcS
    simp [mc_sh] at this; omega
theorem mc_LbN {S J : Int32} {c b : Nat} (hc : c < 20) (hcS : bt S c = true) (hb : b ≤ 8) (hJ : ∀ j, j < 21 → bt J j = bt S j) {r : Nat → Int} (hr : ∀ j, j < 21 → bt J j = true → r j = if j = c then 8 else 0) (h20 : bt S 20 = false) :
    mc_Lb (bt J) r c b = fun w => mg_L' (bt S) (mc_sh c (8 - (b : Int)) w) := by
  funext w
  refine mg_i_eq ⟨fun h j hj hs => ?_, fun h => ⟨fun j hj hs => ?_, ?_⟩⟩
  · have hb' : bt J j = true := by rw [hJ j (by omega), hs]
    have := h.1 j (by omega) hb'
    rw [hr j (by omega) hb'] at this
    simp only [mc_sh]
    by_cases z : j = c
    · subst z; simp; have := h.2; omega
    · simp [z] at this ⊢; omega
  · rw [hr j hj hs]
    rw [hJ j hj] at hs
    have z2 : j ≠ 20 := fun z => by rw [z, h20] at hs; cases hs
    by_cases z : j = c
    · subst z
      have := h j (by omega) hcS
      simp [mc_sh] at this ⊢; omega
    · have := h j (by omega) hs
      simp [mc_sh, z] at this ⊢; omega
  · have := h c hc hcS
    simp [mc_sh] at this; omega
/-- the number b of the watched cell c: a layout with c shown as b -/
theorem mc_W1 {S : Int32} {ks : List (Nat × Int32)} (hp : List.Perm (mg_flat ks) ((me_E S).map (me_mk S))) (kl : Nat → Int) {T : Int} (hT : ¬ T < 0) {c b : Nat} (hc : c < 20) (hcS : bt S c = true) {w : Nat → Int} (hw : mc_sh c (8 - (b : Int)) w = me_w S kl T) :
    mg_K (fun w => mg_L (bt S) (mc_sh c (8 - (b : Int)) w)) (ks ++ [(me_R S, me_b)]) w = me_Cnt S kl T := by
  rw [← mc_X1 hp kl hT, mg_KG, mg_KG, mc_shG, hw]
theorem mc_W2 {S : Int32} {ks : List (Nat × Int32)} (hp : List.Perm (mg_flat ks) ((me_E S).map (mc_mx S))) (kl : Nat → Int) {T : Int} (hT : T < 0) (T' : Int) {c b : Nat} (hc : c < 20) (hcS : bt S c = true) {w : Nat → Int} (hw : mc_sh c (8 - (b : Int)) w = me_w S kl T') :
    2 ^ me_R S * mg_K (fun w => mg_L' (bt S) (mc_sh c (8 - (b : Int)) w)) ks w = me_Cnt S kl T := by
  rw [← mc_X4 hp kl hT T', mg_KG, mg_KG, mc_shG, hw]
end
section
/-! the reference's tree of sets of edge cells -/
def my_bit (e : Nat) : Int32 := (1 : Int32) <<< (nI e &&& 31)
theorem my_bitb {e : Nat} (he : e < 32) (j : Nat) : bt (my_bit e) j = decide (j = e) := by
  rcases Nat.lt_or_ge j 32 with h | h
  · exact (by decide +kernel : ∀ e, e < 32 → ∀ j, j < 32 → bt (my_bit e) j = decide (j = e)) e he j h
  · rw [b_big h, decide_eq_false (by omega)]
theorem my_bitlo {e : Nat} (he : e < 20) : me_lo (my_bit e) := fun j hj => by rw [my_bitb (by omega), decide_eq_false (by omega)]
theorem my_cadd {x : Int32} {e : Nat} (he : e < 20) (hx : bt x e = false) : me_c (x ||| my_bit e) = me_c x + 1 := by
  refine mb_one hx ?_ he (fun i _ hn => ?_)
  · rw [b_or, my_bitb (by omega)]; simp
  · rw [b_or, my_bitb (by omega), decide_eq_false hn, Bool.or_false]
theorem my_cand {t x : Int32} {e : Nat} (he : e < 20) (hx : bt x e = false) : me_c (t &&& (x ||| my_bit e)) = me_c (t &&& x) + (if bt t e = true then 1 else 0) := by
  by_cases h : bt t e = true
  · rw [if_pos h]
    refine mb_one (p := bt (t &&& x)) ?_ ?_ he (fun i _ hn => ?_)
    · rw [b_and, hx, Bool.and_false]
    · rw [b_and, b_or, my_bitb (by omega), h]; simp
    · rw [b_and, b_and, b_or, my_bitb (by omega), decide_eq_false hn, Bool.or_false]
  · rw [if_neg h, Nat.add_zero]
    refine mb_eq (fun i _ => ?_)
    rw [b_and, b_and, b_or, my_bitb (by omega)]
    by_cases z : i = e
    · subst z
      have : bt t i = false := by simpa using h
      rw [this]; simp
    · rw [decide_eq_false z, Bool.or_false]
def my_w (S : Int32) (kl : Nat → Int) (M : Int32) (m : Int) : Nat → Int := fun j => if j = 20 then m - (me_c M : Int) else if bt S j = true then kl j - (me_c (me_t j &&& M) : Int) else 0
theorem my_c0 : me_c 0 = 0 := mb_of0 (fun i _ => b_0 i)
theorem my_w0 (S : Int32) (kl : Nat → Int) (m : Int) : my_w S kl 0 m = me_w S kl m := by
  funext j
  simp only [my_w, me_w, Int32.and_zero, my_c0]
  by_cases h : j = 20 <;> simp [h]
theorem my_wadd {S : Int32} (hS : me_lo S) (kl : Nat → Int) {M : Int32} (m : Int) {e : Nat} (he : e < 20) (hM : bt M e = false) : my_w S kl (M ||| my_bit e) m = mg_sub (my_w S kl M m) (me_mk S e) := by
  funext j
  simp only [my_w, mg_sub]
  by_cases h : j = 20
  · subst h
    rw [me_mk20, my_cadd he hM]
    simp; omega
  · rw [if_neg h, if_neg h]
    rcases Nat.lt_or_ge j 20 with hj | hj
    · rw [me_mkb S hj, my_cand he hM, me_btS he hj]
      cases hb : bt S j
      · simp
      · cases ht : bt (me_t j) e <;> simp <;> omega
    · rw [hS j hj]
      have : bt (me_mk S e) j = false := by
        rw [me_mk, b_or, b_and, me_bb, me_btH he hj, decide_eq_false h]; rfl
      rw [this]; simp
theorem my_high {L : (Nat → Int) → Nat} {j : Nat} {r : Int} (h : ∀ w : Nat → Int, r < w j → L w = 0) : ∀ (l : List Int32) (w : Nat → Int), r + ((l.countP (fun m => bt m j) : Nat) : Int) < w j → mg_G L l w = 0
  | [], w, hw => h w (by simpa using hw)
  | m :: l, w, hw => by
    rw [List.countP_cons] at hw
    have e : r + ((l.countP (fun m => bt m j) : Nat) : Int) < mg_sub w m j := by
      simp only [mg_sub]
      cases hb : bt m j <;> simp [hb] at hw ⊢ <;> omega
    have e2 : r + ((l.countP (fun m => bt m j) : Nat) : Int) < w j := by
      cases hb : bt m j <;> simp [hb] at hw <;> omega
    simp only [mg_G]
    rw [my_high h l w e2, my_high h l _ e]
def my_B (L : (Nat → Int) → Nat) (f : Nat → Int32) (c : Nat) : List Nat → Bool → (Nat → Int) → Nat
  | [], q, w => if q = true then L w else 0
  | e :: es, q, w => my_B L f c es q w + my_B L f c es (q || decide (e = c)) (mg_sub w (f e))
theorem my_Bt (L : (Nat → Int) → Nat) (f : Nat → Int32) (c : Nat) : ∀ (es : List Nat) (w : Nat → Int), my_B L f c es true w = mg_G L (es.map f) w
  | [], w => rfl
  | e :: es, w => by rw [my_B, List.map_cons, mg_G, Bool.true_or, my_Bt L f c es, my_Bt L f c es]
theorem my_Bn (L : (Nat → Int) → Nat) (f : Nat → Int32) (c : Nat) : ∀ (es : List Nat) (w : Nat → Int), c ∉ es → my_B L f c es false w = 0
  | [], w, _ => rfl
  | e :: es, w, h => by
    simp only [List.mem_cons, not_or] at h
    rw [my_B, Bool.false_or, decide_eq_false (fun z => h.1 z.symm), my_Bn L f c es _ h.2, my_Bn L f c es _ h.2]
theorem my_Bf (L : (Nat → Int) → Nat) (f : Nat → Int32) (c : Nat) : ∀ (es : List Nat) (w : Nat → Int), c ∈ es → es.Nodup → my_B L f c es false w = mg_G L ((es.erase c).map f) (mg_sub w (f c))
  | [], w, h, _ => by simp at h
  | e :: es, w, h, nd => by
    rw [List.nodup_cons] at nd
    by_cases z : e = c
    · subst z
      rw [my_B, my_Bn L f e es _ nd.1, decide_eq_true rfl, Bool.false_or, my_Bt, List.erase_cons_head]; omega
    · have hm : c ∈ es := by
        rcases List.mem_cons.mp h with y | y
        · exact absurd y.symm z
        · exact y
      rw [my_B, decide_eq_false z, Bool.false_or, my_Bf L f c es _ hm nd.2, my_Bf L f c es _ hm nd.2, List.erase_cons_tail (by simpa using z), List.map_cons, mg_G, mg_comm]
theorem my_Bz (f : Nat → Int32) (c : Nat) {j : Nat} {L : (Nat → Int) → Nat} : ∀ (es : List Nat) (q : Bool) (w : Nat → Int), mg_G L (es.map f) w = 0 → my_B L f c es q w = 0
  | [], q, w, h => by
    simp only [List.map_nil, mg_G] at h
    rw [my_B, h]; simp
  | e :: es, q, w, h => by
    rw [List.map_cons, mg_G] at h
    rw [my_B, my_Bz (j := j) f c es q w (by omega), my_Bz (j := j) f c es _ _ (by omega)]
/-! one node of the tree -/
noncomputable def my_A (S : Int32) (kl : Nat → Int) (es : List Nat) (M : Int32) (m : Nat) : Nat := mg_G (mg_L (bt S)) (es.map (me_mk S)) (my_w S kl M m)
noncomputable def my_D (S : Int32) (kl : Nat → Int) (c : Nat) (es : List Nat) (M : Int32) (m : Nat) : Nat := my_B (mg_L (bt S)) (me_mk S) c es (bt M c) (my_w S kl M m)
theorem my_Ac {S : Int32} (hS : me_lo S) (kl : Nat → Int) {e : Nat} (es : List Nat) {M : Int32} (m : Nat) (he : e < 20) (hM : bt M e = false) : my_A S kl (e :: es) M m = my_A S kl es M m + my_A S kl es (M ||| my_bit e) m := by
  simp only [my_A, List.map_cons, mg_G]
  rw [my_wadd hS kl m he hM]
theorem my_Dc {S : Int32} (hS : me_lo S) (kl : Nat → Int) {c e : Nat} (es : List Nat) {M : Int32} (m : Nat) (he : e < 20) (hM : bt M e = false) : my_D S kl c (e :: es) M m = my_D S kl c es M m + my_D S kl c es (M ||| my_bit e) m := by
  simp only [my_D, my_B]
  rw [my_wadd hS kl m he hM, b_or, my_bitb (by omega)]
  congr 2
  by_cases z : e = c
  · simp [z]
  · rw [decide_eq_false z, decide_eq_false (fun y => z y.symm)]
/-- the leaf -/
theorem my_A0 {S : Int32} (kl : Nat → Int) {M : Int32} (m : Nat) (h : ∀ d, d < 20 → bt S d = true → kl d = (me_c (me_t d &&& M) : Int)) : my_A S kl [] M m = if m = me_c M then 1 else 0 := by
  simp only [my_A, List.map_nil, mg_G, mg_L]
  by_cases z : m = me_c M
  · rw [if_pos z]
    refine mg_i_t ⟨fun j hj hs => ?_, ?_⟩
    · have := h j hj hs
      simp only [my_w, show j ≠ 20 by omega, if_false, hs, if_true]; omega
    · simp only [my_w, if_true]; omega
  · rw [if_neg z]
    refine mg_i_f (fun y => ?_)
    have := y.2
    simp only [my_w, if_true] at this; omega
theorem my_D0 {S : Int32} (kl : Nat → Int) {M : Int32} (c m : Nat) (h : ∀ d, d < 20 → bt S d = true → kl d = (me_c (me_t d &&& M) : Int)) : my_D S kl c [] M m = if m = me_c M ∧ bt M c = true then 1 else 0 := by
  have e := my_A0 kl m h
  simp only [my_A, List.map_nil, mg_G] at e
  simp only [my_D, my_B]
  rw [e]
  by_cases z : bt M c = true <;> simp [z]
/-- the number of cells of es beside d -/
def my_n (d : Nat) (es : List Nat) : Nat := es.countP (fun e => bt (me_t d) e)
theorem my_nA {S : Int32} {d : Nat} (hd : d < 20) (hs : bt S d = true) : ∀ (es : List Nat), (∀ e, e ∈ es → e < 20) → (es.map (me_mk S)).countP (fun m => bt m d) = my_n d es
  | [], _ => rfl
  | e :: es, h => by
    rw [List.map_cons, List.countP_cons, my_nA hd hs es (fun x hx => h x (by simp [hx])), my_n, my_n, List.countP_cons, me_mkb S hd, hs, Bool.and_true, me_btS (h e (by simp)) hd]
/-- what can't be any more -/
theorem my_Az {S : Int32} (kl : Nat → Int) {es : List Nat} {M : Int32} {d : Nat} (hd : d < 20) (hs : bt S d = true) (hes : ∀ e, e ∈ es → e < 20) (h : kl d < (me_c (me_t d &&& M) : Int) ∨ (me_c (me_t d &&& M) : Int) + (my_n d es : Int) < kl d) (m : Nat) : my_A S kl es M m = 0 := by
  have e : my_w S kl M m d = kl d - (me_c (me_t d &&& M) : Int) := by simp only [my_w, show d ≠ 20 by omega, if_false, hs, if_true]
  rcases h with h | h
  · refine mg_neg (j := d) (fun w hw => mg_i_f (fun z => ?_)) _ _ (by rw [e]; omega)
    have := z.1 d hd hs; omega
  · refine my_high (j := d) (r := 0) (fun w hw => mg_i_f (fun z => ?_)) _ _ ?_
    · have := z.1 d hd hs; omega
    · rw [e, my_nA hd hs es hes]; omega
theorem my_Dz {S : Int32} {kl : Nat → Int} {es : List Nat} {M : Int32} {m : Nat} (c : Nat) (h : my_A S kl es M m = 0) : my_D S kl c es M m = 0 := my_Bz (j := 0) _ _ _ _ _ h
/-- the root -/
theorem my_A1 (S : Int32) (kl : Nat → Int) (m : Nat) : my_A S kl (me_E S) 0 m = me_F S kl m := by rw [my_A, my_w0, me_F]
theorem my_D1 (S : Int32) (kl : Nat → Int) {c : Nat} (hc : c ∈ me_E S) (m : Nat) : my_D S kl c (me_E S) 0 m = me_Fc S kl c m := by
  rw [my_D, my_w0, me_Fc, b_0, my_Bf _ _ _ _ _ hc (me_E_nd S)]
end
section
/-! the component's search, its mathematics -/
def ms_T : List (Nat × Int32) → Nat
  | [] => 1
  | k :: ks => 1 + (k.1 + 1) * (ms_T ks + 1)
def ms_w : List (Nat × Int32) → Nat
  | [] => 0
  | k :: ks => (if k.1 = 0 then 1 else k.1) + ms_w ks
theorem ms_p1 : ∀ s, s + 1 ≤ 2 ^ s
  | 0 => by decide
  | s + 1 => by have := ms_p1 s; rw [Nat.pow_succ]; omega
theorem ms_Tb : ∀ ks, ms_T ks + 3 ≤ 4 * 2 ^ ms_w ks
  | [] => by simp [ms_T, ms_w]
  | k :: ks => by
    have ih := ms_Tb ks
    rw [ms_T, ms_w]
    generalize ms_T ks = x at *
    rcases Nat.eq_zero_or_pos k.1 with h | h
    · rw [h, if_pos rfl, Nat.pow_add]
      have : (2 : Nat) ^ 1 = 2 := rfl
      rw [this]
      generalize 2 ^ ms_w ks = y at *
      omega
    · rw [if_neg (by omega), Nat.pow_add]
      obtain ⟨s, hs⟩ : ∃ s, k.1 = s + 1 := ⟨k.1 - 1, by omega⟩
      rw [hs]
      have h1 := ms_p1 (s + 1)
      have h2 : (s + 1 + 1) * (x + 3) ≤ 2 ^ (s + 1) * (4 * 2 ^ ms_w ks) := Nat.mul_le_mul h1 ih
      have h3 : (s + 1 + 1) * (x + 3) = (s + 1 + 1) * (x + 1) + (s + 1 + 1) * 2 := by rw [← Nat.mul_add]
      have h4 : 2 ^ (s + 1) * (4 * 2 ^ ms_w ks) = 4 * (2 ^ (s + 1) * 2 ^ ms_w ks) := Nat.mul_left_comm _ _ _
      omega
theorem ms_wl {ks : List (Nat × Int32)} (h : ∀ k, k ∈ ks → 0 < k.1) : ms_w ks = (mg_flat ks).length := by
  induction ks with
  | nil => rfl
  | cons k ks ih =>
    rw [ms_w, mg_flat, List.length_append, List.length_replicate, ih (fun x hx => h x (by simp [hx])), if_neg (by have := h k (by simp); omega)]
theorem ms_wa (a b : List (Nat × Int32)) : ms_w (a ++ b) = ms_w a + ms_w b := by
  induction a with
  | nil => simp [ms_w]
  | cons k a ih => rw [List.cons_append, ms_w, ms_w, ih]; omega
/-- the steps never run out -/
theorem ms_max {ks : List (Nat × Int32)} (h : ∀ k, k ∈ ks → 0 < k.1) (n : Nat) (m : Int32) (hl : (mg_flat ks).length + n ≤ 20) : ms_T ks ≤ 8388608 ∧ ms_T (ks ++ [(n, m)]) ≤ 8388608 := by
  have e1 := ms_Tb ks
  have e2 := ms_Tb (ks ++ [(n, m)])
  rw [ms_wa, ms_w, ms_w, ms_wl h] at e2
  rw [ms_wl h] at e1
  dsimp only at e2
  have m1 : 2 ^ (mg_flat ks).length ≤ 2 ^ 20 := Nat.pow_le_pow_right (by omega) (by omega)
  have m2 : 2 ^ ((mg_flat ks).length + ((if n = 0 then 1 else n) + 0)) ≤ 2 ^ 21 := Nat.pow_le_pow_right (by omega) (by split <;> omega)
  constructor <;> omega
/-- the leaf sees what is missing and what is too much -/
def ms_see (L : (Nat → Int) → Nat) (lst : List Nat) (r : Nat → Int) : Prop := ∀ j, j ∈ lst → (∀ w : Nat → Int, w j < 0 → L w = 0) ∧ (∀ w : Nat → Int, r j < w j → L w = 0)
/-- the numbers of mines that a kind can have -/
def ms_can (lk : List Nat) (s : Nat) (m : Int32) (r : Nat → Int) (ks : List (Nat × Int32)) (w : Nat → Int) (t : Nat) : Prop := t ≤ s ∧ ∀ j, j ∈ lk → (t : Int) ≤ w j ∧ w j ≤ (t : Int) + (r j + (mg_cap j ks : Int))
theorem ms_not {L : (Nat → Int) → Nat} {lst lk : List Nat} {r : Nat → Int} (hL : ms_see L lst r) {s : Nat} {m : Int32} {ks : List (Nat × Int32)} {w : Nat → Int} (hlk : ∀ j, j ∈ lk → j ∈ lst ∧ bt m j = true) {t : Nat} (ht : t ≤ s) (h : ¬ ms_can lk s m r ks w t) :
    mg_K L ks (mg_subn w t m) = 0 ∧ ∀ i, mg_H L i ks (mg_subn w t m) = 0 := by
  have h2 : ∃ j, j ∈ lk ∧ ¬ ((t : Int) ≤ w j ∧ w j ≤ (t : Int) + (r j + (mg_cap j ks : Int))) := by
    apply Classical.byContradiction
    intro z
    refine h ⟨ht, fun j hj => ?_⟩
    apply Classical.byContradiction
    intro y
    exact z ⟨j, hj, y⟩
  obtain ⟨j, hj, hn⟩ := h2
  obtain ⟨h1, hb⟩ := hlk j hj
  obtain ⟨l1, l2⟩ := hL j h1
  have e : mg_subn w t m j = w j - (t : Int) := by simp only [mg_subn, hb, if_true]
  by_cases z : (t : Int) ≤ w j
  · have hh : r j + (mg_cap j ks : Int) < mg_subn w t m j := by rw [e]; omega
    exact ⟨mg_Khigh l2 ks _ hh, fun i => mg_Hhigh l2 i ks _ hh⟩
  · have hh : mg_subn w t m j < 0 := by rw [e]; omega
    exact ⟨mg_Kneg l1 ks _ hh, fun i => mg_Hneg l1 i ks _ hh⟩
/-- what a kind has brought with fewer than t mines -/
def ms_PK (L : (Nat → Int) → Nat) (s : Nat) (m : Int32) (ks : List (Nat × Int32)) (w : Nat → Int) (t : Nat) : Nat := mg_sum (fun t => mg_ch s t * mg_K L ks (mg_subn w t m)) t
def ms_PH (L : (Nat → Int) → Nat) (i : Nat) (s : Nat) (m : Int32) (ks : List (Nat × Int32)) (w : Nat → Int) (t : Nat) : Nat :=
  match i with
  | 0 => mg_sum (fun t => t * (mg_ch s t * mg_K L ks (mg_subn w t m))) t
  | i + 1 => mg_sum (fun t => mg_ch s t * mg_H L i ks (mg_subn w t m)) t
theorem ms_end {L : (Nat → Int) → Nat} {lst lk : List Nat} {r : Nat → Int} (hL : ms_see L lst r) {s : Nat} {m : Int32} {ks : List (Nat × Int32)} {w : Nat → Int} (hlk : ∀ j, j ∈ lk → j ∈ lst ∧ bt m j = true) {f g : Nat} (hg : g ≤ s) (hc : ∀ t, ms_can lk s m r ks w t ↔ f ≤ t ∧ t ≤ g) :
    mg_K L ((s, m) :: ks) w = ms_PK L s m ks w (g + 1) ∧ ∀ i, mg_H L i ((s, m) :: ks) w = ms_PH L i s m ks w (g + 1) := by
  have hz : ∀ t, g + 1 ≤ t → t < s + 1 → ¬ ms_can lk s m r ks w t := fun t h1 h2 z => by have := (hc t).mp z; omega
  refine ⟨?_, fun i => ?_⟩
  · rw [mg_K]
    exact mg_sum_tail (by omega) (fun t h1 h2 => by rw [(ms_not hL hlk (by omega) (hz t h1 h2)).1, Nat.mul_zero])
  · cases i with
    | zero =>
      rw [mg_H]
      exact mg_sum_tail (by omega) (fun t h1 h2 => by rw [(ms_not hL hlk (by omega) (hz t h1 h2)).1, Nat.mul_zero, Nat.mul_zero])
    | succ i =>
      rw [mg_H]
      exact mg_sum_tail (by omega) (fun t h1 h2 => by rw [(ms_not hL hlk (by omega) (hz t h1 h2)).2, Nat.mul_zero])
theorem ms_beg {L : (Nat → Int) → Nat} {lst lk : List Nat} {r : Nat → Int} (hL : ms_see L lst r) {s : Nat} {m : Int32} {ks : List (Nat × Int32)} {w : Nat → Int} (hlk : ∀ j, j ∈ lk → j ∈ lst ∧ bt m j = true) {f g : Nat} (hf : f ≤ s + 1) (hc : ∀ t, ms_can lk s m r ks w t ↔ f ≤ t ∧ t ≤ g) :
    ms_PK L s m ks w f = 0 ∧ ∀ i, ms_PH L i s m ks w f = 0 := by
  have hz : ∀ t, t < f → ¬ ms_can lk s m r ks w t := fun t h1 z => by have := (hc t).mp z; omega
  refine ⟨mg_sum_z (fun t h => by rw [(ms_not hL hlk (by omega) (hz t h)).1, Nat.mul_zero]), fun i => ?_⟩
  cases i with
  | zero => exact mg_sum_z (fun t h => by rw [(ms_not hL hlk (by omega) (hz t h)).1, Nat.mul_zero, Nat.mul_zero])
  | succ i => exact mg_sum_z (fun t h => by rw [(ms_not hL hlk (by omega) (hz t h)).2, Nat.mul_zero])
theorem ms_none {L : (Nat → Int) → Nat} {lst lk : List Nat} {r : Nat → Int} (hL : ms_see L lst r) {s : Nat} {m : Int32} {ks : List (Nat × Int32)} {w : Nat → Int} (hlk : ∀ j, j ∈ lk → j ∈ lst ∧ bt m j = true) (hc : ∀ t, ¬ ms_can lk s m r ks w t) :
    mg_K L ((s, m) :: ks) w = 0 ∧ ∀ i, mg_H L i ((s, m) :: ks) w = 0 := by
  refine ⟨mg_sum_z (fun t h => by rw [(ms_not hL hlk (by omega) (hc t)).1, Nat.mul_zero]), fun i => ?_⟩
  cases i with
  | zero => exact mg_sum_z (fun t h => by rw [(ms_not hL hlk (by omega) (hc t)).1, Nat.mul_zero, Nat.mul_zero])
  | succ i => exact mg_sum_z (fun t h => by rw [(ms_not hL hlk (by omega) (hc t)).2, Nat.mul_zero])
/-- the needs stay within the room -/
def ms_In (lst : List Nat) (r : Nat → Int) (ks : List (Nat × Int32)) (w : Nat → Int) : Prop := ∀ j, j ∈ lst → 0 ≤ w j ∧ w j ≤ r j + (mg_cap j ks : Int)
theorem ms_step {lst lk : List Nat} {r : Nat → Int} {s : Nat} {m : Int32} {ks : List (Nat × Int32)} {w : Nat → Int} (h : ms_In lst r ((s, m) :: ks) w) (hlk : ∀ j, j ∈ lst → bt m j = true → j ∈ lk) {t : Nat} (hc : ms_can lk s m r ks w t) : ms_In lst r ks (mg_subn w t m) := by
  intro j hj
  have h1 := h j hj
  simp only [mg_cap] at h1
  simp only [mg_subn]
  by_cases hb : bt m j = true
  · have h2 := hc.2 j (hlk j hj hb)
    simp only [hb, if_true] at h1 ⊢
    omega
  · simp only [hb, if_false] at h1 ⊢
    simp at h1 ⊢
    omega
end
section
/-! kinds held in arrays -/
def mf_fl (sz : Nat → Nat) (m : Nat → Int32) : Nat → List Int32
  | 0 => []
  | n + 1 => mf_fl sz m n ++ List.replicate (sz n) (m n)
def mf_ks (sz : Nat → Nat) (m : Nat → Int32) (n : Nat) : List (Nat × Int32) := (List.range n).map (fun i => (sz i, m i))
theorem mf_ks_s (sz : Nat → Nat) (m : Nat → Int32) (n : Nat) : mf_ks sz m (n + 1) = mf_ks sz m n ++ [(sz n, m n)] := by
  simp [mf_ks, List.range_succ]
theorem mf_len (sz : Nat → Nat) (m : Nat → Int32) (n : Nat) : (mf_ks sz m n).length = n := by simp [mf_ks]
theorem mf_get (sz : Nat → Nat) (m : Nat → Int32) {n i : Nat} (h : i < n) : (mf_ks sz m n)[i]? = some (sz i, m i) := by
  simp [mf_ks, h]
theorem mf_flat (sz : Nat → Nat) (m : Nat → Int32) : ∀ n, mg_flat (mf_ks sz m n) = mf_fl sz m n
  | 0 => rfl
  | n + 1 => by rw [mf_ks_s, mc_flat_app, mf_flat sz m n, mc_flat1, mf_fl]
theorem mf_congr {sz sz' : Nat → Nat} {m m' : Nat → Int32} : ∀ {n : Nat}, (∀ i, i < n → sz' i = sz i ∧ m' i = m i) → mf_fl sz' m' n = mf_fl sz m n
  | 0, _ => rfl
  | n + 1, h => by rw [mf_fl, mf_fl, mf_congr (n := n) (fun i hi => h i (by omega)), (h n (by omega)).1, (h n (by omega)).2]
theorem mf_inc {sz sz' : Nat → Nat} {m : Nat → Int32} {k : Nat} (hk : sz' k = sz k + 1) : ∀ {n : Nat}, k < n → (∀ i, i < n → i ≠ k → sz' i = sz i) → List.Perm (mf_fl sz' m n) (m k :: mf_fl sz m n)
  | 0, h, _ => by omega
  | n + 1, h, hs => by
    rw [mf_fl, mf_fl]
    by_cases z : k = n
    · subst z
      rw [hk, List.replicate_succ, mf_congr (sz' := sz') (m' := m) (sz := sz) (m := m) (n := k) (fun i hi => ⟨hs i (by omega) (by omega), rfl⟩)]
      exact List.perm_middle
    · rw [hs n (by omega) (fun y => z y.symm)]
      exact (mf_inc hk (n := n) (by omega) (fun i hi hn => hs i (by omega) hn)).append_right _
theorem mf_drop (sz : Nat → Nat) (m : Nat → Int32) {n k : Nat} (h : k < n) : (mf_ks sz m n).drop k = (sz k, m k) :: (mf_ks sz m n).drop (k + 1) := by
  have hl : k < (mf_ks sz m n).length := by rw [mf_len]; exact h
  rw [List.drop_eq_getElem_cons hl]
  congr 1
  simp [mf_ks]
theorem mf_dropn (sz : Nat → Nat) (m : Nat → Int32) (n : Nat) : (mf_ks sz m n).drop n = [] := by
  rw [List.drop_eq_nil_iff, mf_len]; exact Nat.le_refl _
theorem mf_pos {sz : Nat → Nat} {m : Nat → Int32} {n : Nat} (h : ∀ i, i < n → 0 < sz i) : ∀ k, k ∈ mf_ks sz m n → 0 < k.1 := by
  intro k hk
  simp [mf_ks] at hk
  obtain ⟨i, hi, rfl⟩ := hk
  exact h i hi
theorem mf_le {sz : Nat → Nat} {m : Nat → Int32} : ∀ {n : Nat}, (∀ i, i < n → 0 < sz i) → n ≤ (mf_fl sz m n).length
  | 0, _ => Nat.zero_le _
  | n + 1, h => by
    have := mf_le (sz := sz) (m := m) (n := n) (fun i hi => h i (by omega))
    have := h n (by omega)
    rw [mf_fl, List.length_append, List.length_replicate]; omega
theorem mf_mem {sz : Nat → Nat} {m : Nat → Int32} {x : Int32} : ∀ {n : Nat}, x ∈ mf_fl sz m n → ∃ i, i < n ∧ m i = x
  | 0, h => by simp [mf_fl] at h
  | n + 1, h => by
    rw [mf_fl, List.mem_append] at h
    rcases h with h | h
    · obtain ⟨i, h1, h2⟩ := mf_mem (n := n) h
      exact ⟨i, by omega, h2⟩
    · exact ⟨n, by omega, (List.eq_of_mem_replicate h).symm⟩
/-- the list of links of a mask -/
def mf_lk (lst : List Nat) (m : Int32) : List Nat := lst.filter (fun j => bt m j)
theorem mf_lk_mem {lst : List Nat} {m : Int32} {j : Nat} : j ∈ mf_lk lst m ↔ j ∈ lst ∧ bt m j = true := by simp [mf_lk]
end
section
/-! the small methods -/
theorem mx_b1 (i : Nat) : bt 1 i = decide (i = 0) := by
  rcases Nat.lt_or_ge i 32 with h | h
  · exact (by decide +kernel : ∀ i, i < 32 → bt 1 i = decide (i = 0)) i h
  · rw [b_big h, decide_eq_false (by omega)]
theorem mx_tst (x : Int32) {c : Nat} (hc : c < 32) : (x >>> (nI c &&& 31)) &&& 1 = if bt x c = true then 1 else 0 := by
  apply b_ext
  intro i hi
  rw [b_and, mx_b1]
  by_cases z : i = 0
  · subst z
    rw [b_sshr c hc x (by omega), Nat.add_zero, if_pos hc]
    cases h : bt x c
    · simp [b_0]
    · simp [mx_b1]
  · rw [decide_eq_false z, Bool.and_false]
    cases h : bt x c
    · simp [b_0]
    · simp [mx_b1, z]
theorem mx_t0 {x : Int32} {c : Nat} (hc : c < 32) (h : bt x c = false) : (x >>> (nI c &&& 31)) &&& 1 = 0 := by rw [mx_tst x hc, h]; rfl
theorem mx_t1 {x : Int32} {c : Nat} (hc : c < 32) (h : bt x c = true) : (x >>> (nI c &&& 31)) &&& 1 = 1 := by rw [mx_tst x hc, h]; rfl
theorem mx_10 : ¬ (1 : Int32) = 0 := by decide
theorem mx_01 : ¬ (0 : Int32) = 1 := by decide
theorem mx_t0' {x : Int32} {c : Nat} (hc : c < 32) (h : bt x c = true) : ¬ (x >>> (nI c &&& 31)) &&& 1 = 0 := by rw [mx_t1 hc h]; exact mx_10
theorem mx_t1' {x : Int32} {c : Nat} (hc : c < 32) (h : bt x c = false) : ¬ (x >>> (nI c &&& 31)) &&& 1 = 1 := by rw [mx_t0 hc h]; exact mx_01
theorem mx_has {post : Int32 → Prop} {x : Int32} {c : Nat} (hc : c < 32) (h1 : bt x c = true → post 1) (h0 : bt x c = false → post 0) : wpX_has post x (nI c) := by
  cases h : bt x c
  · exact br_t (mx_t0 hc h) (h0 h)
  · exact br_f (mx_t0' hc h) (h1 h)
theorem mx_ixv (v : Int32) : (v < 0 ∨ (¬ v < 0 ∧ 20 ≤ v)) ∨ ∃ j, j < 20 ∧ v = nI j := by
  rcases pk_ix v (n := 20) (by omega) with h | h | h
  · exact Or.inl (Or.inl h)
  · refine Or.inl (Or.inr ⟨fun z => ?_, h⟩)
    have : (0 : Int32) < 0 := Int32.lt_of_lt_of_le (b := nI 20) (by decide) (Int32.le_trans h (Int32.le_of_lt z))
    exact absurd this (by decide)
  · exact Or.inr h
theorem mx_20 {j : Nat} (h : j < 20) : ¬ (20 : Int32) ≤ nI j := nI_ge (b := 20) h (by omega)
theorem mx_19 {j : Nat} (h : j < 20) : ¬ (19 : Int32) < nI j := nI_nlt (a := 19) (by omega) (by omega)
theorem mx_cell {post : Int32 → Prop} {j : Nat} (h : j < 20) (hp : post 1) : wpX_isCell post (nI j) := br_f (nI_pos (by omega)) (br_f (mx_20 h) hp)
theorem mx_nocell {post : Int32 → Prop} {v : Int32} (h : v < 0 ∨ (¬ v < 0 ∧ 20 ≤ v)) (hp : post 0) : wpX_isCell post v := by
  rcases h with h | ⟨h, h2⟩
  · exact br_t h hp
  · exact br_f h (br_t h2 hp)
theorem my_cell {post : Int32 → Prop} {u : SY} {j : Nat} (h : j < 20) (hp : post 1) : wpY_isCell post u (nI j) := br_f (nI_pos (by omega)) (br_f (mx_19 h) hp)
theorem my_nocell {post : Int32 → Prop} {u : SY} {v : Int32} (h : v < 0 ∨ (¬ v < 0 ∧ 20 ≤ v)) (hp : post 0) : wpY_isCell post u v := by
  rcases h with h | ⟨h, h2⟩
  · exact br_t h hp
  · exact br_f h (br_t (Int32.lt_of_lt_of_le (b := 20) (by decide) h2) hp)
theorem mx_nmod (n : Nat) : nI n = nI (n % 4294967296) := by
  apply Int32.toBitVec_inj.1
  show BitVec.ofNat 32 n = BitVec.ofNat 32 (n % 4294967296)
  apply BitVec.eq_of_toNat_eq
  simp
theorem mx_pc {x : Int32} {n : Nat} (hn : n < 2 ^ 20) (hx : x = nI n) : me_c x = mb_pb 20 n := by
  rw [hx, me_c, ← mb_pbcn]
  exact mb_eq (fun i _ => me_btN hn i)
theorem mx_pbs (n : Nat) : mb_pb 8 n ≤ 8 ∧ mb_pb 8 (n / 256) ≤ 8 ∧ mb_pb 4 (n / 65536) ≤ 4 := ⟨mb_pb_le _ _, mb_pb_le _ _, mb_pb_le _ _⟩
theorem mx_T1b : ∀ k n, mb_T1 k n < 4 ^ k
  | 0, _ => by simp [mb_T1]
  | k + 1, n => by have := mx_T1b k (n / 4); simp only [mb_T1, Nat.pow_succ]; omega
theorem mx_T2b : ∀ k n, mb_T2 k n < 16 ^ k
  | 0, _ => by simp [mb_T2]
  | k + 1, n => by have := mx_T2b k (n / 16); simp only [mb_T2, Nat.pow_succ]; omega
theorem mx_ml {x0 x1 x2 : Nat} (h0 : x0 ≤ 8) (h1 : x1 ≤ 8) (h2 : x2 ≤ 4) : (x0 + 256 * x1 + 65536 * x2) * 16843009 % 4294967296 / 16777216 = x0 + x1 + x2 := by
  have e : (x0 + 256 * x1 + 65536 * x2) * 16843009 = 4294967296 * (x1 + 257 * x2) + (16777216 * (x0 + x1 + x2) + (x0 + 256 * (x0 + x1) + 65536 * (x0 + x1 + x2))) := by omega
  rw [e, Nat.mul_add_mod, Nat.mod_eq_of_lt (by omega)]
  omega
theorem mx_size {post : Int32 → Prop} {x : Int32} (hx : me_lo x) (h : post (nI (me_c x))) : wpX_sizeOf post x := by
  obtain ⟨n, hn, e⟩ := me_loN hx
  rw [mx_pc hn e] at h
  subst e
  have c1 : (n &&& 1431655765) + (n / 2 &&& 1431655765) = mb_T1 16 n := mb_t1 16 n
  have b1 : mb_T1 16 n < 4294967296 := mx_T1b 16 n
  have c2 : (mb_T1 16 n &&& 858993459) + (mb_T1 16 n / 4 &&& 858993459) = mb_T2 8 (mb_T1 16 n) := mb_t2 8 _
  have b2 : mb_T2 8 (mb_T1 16 n) < 4294967296 := mx_T2b 8 _
  have c3 : (mb_T2 8 (mb_T1 16 n) &&& 252645135) + (mb_T2 8 (mb_T1 16 n) / 16 &&& 252645135) = mb_T3 4 (mb_T2 8 (mb_T1 16 n)) := mb_t3 4 _
  have c4 := mb_X n hn
  have c5 := mb_pb20 n
  obtain ⟨d1, d2, d3⟩ := mx_pbs n
  refine nm_r (e' := nI (mb_T1 16 n)) ?_ (nm_r (e' := nI (mb_T2 8 (mb_T1 16 n))) ?_ (nm_r (e' := nI (mb_T3 4 (mb_T2 8 (mb_T1 16 n)))) ?_ ?_))
  · rw [pk_ushrN (by omega) 1 1 (by decide), show (1431655765 : Int32) = nI 1431655765 from rfl, nx_and, nx_and, nI_add, Nat.pow_one, c1]
  · rw [pk_ushrN (by omega) 2 2 (by decide), show (858993459 : Int32) = nI 858993459 from rfl, nx_and, nx_and, nI_add, show (2 : Nat) ^ 2 = 4 from rfl, c2]
  · rw [pk_ushrN (by omega) 4 4 (by decide), show (252645135 : Int32) = nI 252645135 from rfl, nx_and, nx_and, nI_add, show (2 : Nat) ^ 4 = 16 from rfl, c3]
  · rw [c4, show (16843009 : Int32) = nI 16843009 from rfl, pk_mul, mx_nmod, pk_ushrN (Nat.mod_lt _ (by omega)) 24 24 (by decide), show (2 : Nat) ^ 24 = 16777216 from rfl]
    have this := mx_ml d1 d2 d3
    rw [← c5] at this
    rw [this]
    exact h
theorem my_bits {post : Int32 → Prop} {u : SY} {x : Int32} (hx : me_lo x) (h : post (nI (me_c x))) : wpY_bits post u x := by
  obtain ⟨n, hn, e⟩ := me_loN hx
  rw [mx_pc hn e] at h
  subst e
  have c1 : (n &&& 349525) + (n / 2 &&& 349525) = mb_T1 10 n := mb_t1 10 n
  have b1 : mb_T1 10 n < 1048576 := mx_T1b 10 n
  have c2 : (mb_T1 10 n &&& 209715) + (mb_T1 10 n / 4 &&& 209715) = mb_T2 5 (mb_T1 10 n) := mb_t2 5 _
  have b2 : mb_T2 5 (mb_T1 10 n) < 1048576 := mx_T2b 5 _
  have c3 : (mb_T2 5 (mb_T1 10 n) &&& 986895) + (mb_T2 5 (mb_T1 10 n) / 16 &&& 986895) = mb_T3 3 (mb_T2 5 (mb_T1 10 n)) := mb_t3 3 _
  have c4 := mb_Y n hn
  have c5 := mb_pb20 n
  obtain ⟨d1, d2, d3⟩ := mx_pbs n
  refine nm_r (e' := nI (mb_T1 10 n)) ?_ (nm_r (e' := nI (mb_T2 5 (mb_T1 10 n))) ?_ (nm_r (e' := nI (mb_T3 3 (mb_T2 5 (mb_T1 10 n)))) ?_ ?_))
  · rw [pk_shrN (by omega) _ 1 (by decide), show (349525 : Int32) = nI 349525 from rfl, nx_and, nx_and, nI_add, Nat.pow_one, c1]
  · rw [pk_shrN (by omega) _ 2 (by decide), show (209715 : Int32) = nI 209715 from rfl, nx_and, nx_and, nI_add, show (2 : Nat) ^ 2 = 4 from rfl, c2]
  · rw [pk_shrN (by omega) _ 4 (by decide), show (986895 : Int32) = nI 986895 from rfl, nx_and, nx_and, nI_add, show (2 : Nat) ^ 4 = 16 from rfl, c3]
  · rw [c4]
    generalize mb_pb 8 n = x0 at *
    generalize mb_pb 8 (n / 256) = x1 at *
    generalize mb_pb 4 (n / 65536) = x2 at *
    rw [pk_shrN (by omega) _ 8 (by decide), pk_shrN (by omega) _ 16 (by decide), pk_andN (by omega) 8 (by decide), pk_andN (by omega) 8 (by decide), nI_add, nI_add]
    have : (x0 + 256 * x1 + 65536 * x2) % 2 ^ 8 + (x0 + 256 * x1 + 65536 * x2) / 2 ^ 8 % 2 ^ 8 + (x0 + 256 * x1 + 65536 * x2) / 2 ^ 16 = mb_pb 20 n := by omega
    rw [this]
    exact h
theorem mx_choose {post : Int32 → Prop} {s t : Nat} (hs : s ≤ 20) (ht : t ≤ s) (h : post (nI (mg_ch s t))) : wpX_choose post (nI s) (nI t) := by
  refine loop_0 (σ := Int32) (fun n i x => wX_choose_4 post (nI s) (nI t) n x (nI i)) (fun i x => x = nI (mg_ch s i)) t 1 (by rw [mg_ch0]; rfl) (fun n x hx => ?_) (fun n i x hi hx hk => ?_)
  · subst hx
    exact br_t (nI_le (by omega) (by omega)) h
  · subst hx
    have hb := mg_chb s i
    have hb2 : mg_ch s i ≤ 2 ^ 20 := Nat.le_trans hb (Nat.pow_le_pow_right (by omega) hs)
    refine br_f (nI_ge hi (by omega)) ⟨?_, nm_r (e' := nI (mg_ch s (i + 1))) ?_ (nm_r (nI_1 i) (hk _ rfl))⟩
    · rw [nI_1]; exact nI_ne0 (by omega) (by omega)
    · rw [nI_1, pk_sub (by omega), pk_mul, pk_div _ (by omega) (by omega)]
      · rw [Nat.mul_comm (mg_ch s i), ← mg_chs, Nat.mul_div_cancel_left _ (by omega)]
      · have : mg_ch s i * (s - i) ≤ 2 ^ 20 * 20 := Nat.mul_le_mul hb2 (by omega)
        omega
variable {f_total f_edgeCount f_coveredCount f_known f_sureMines f_sureFree : Int32} {a_clues a_around a_edge a_found a_foundWith : Nat → Int32}
theorem my_choices {post : Int32 → Prop} {s : Nat} {k : Int} {x : Int32} (hs : s ≤ 20) (hx : x.toInt = k) (h : post (nI (mg_C s k))) : wpY_choices post (f_total, f_edgeCount, f_coveredCount, f_known, f_sureMines, f_sureFree, a_clues, a_around, a_edge, a_found, a_foundWith) (nI s) x := by
  by_cases z : x < 0
  · have : k < 0 := by rw [← hx]; exact Int32.lt_iff_toInt_lt.mp z
    rw [mg_C, if_pos this] at h
    exact br_t z h
  · obtain ⟨t, ht, rfl⟩ := nI_of z
    rw [nI_toInt ht] at hx
    subst hx
    rw [mg_C, if_neg (by omega), Int.toNat_natCast] at h
    refine br_f z (pk_le t s (fun hts => ?_) (fun hts => ?_))
    · refine loop_0 (σ := Int64) (fun n i x => wY_choices_16 post (nI s) (nI t) f_total f_edgeCount f_coveredCount f_known f_sureMines f_sureFree a_clues a_around a_edge a_found a_foundWith n x (nI i)) (fun i x => x = lN (mg_ch s i)) t 1 (by rw [mg_ch0]; rfl) (fun n x hx => ?_) (fun n i x hi hx hk => ?_)
      · subst hx
        refine br_t (nI_le (by omega) (by omega)) ?_
        rw [lN_i]; exact h
      · subst hx
        have hb := mg_chb s i
        have hb2 : mg_ch s i ≤ 2 ^ 20 := Nat.le_trans hb (Nat.pow_le_pow_right (by omega) hs)
        refine br_f (nI_ge hi (by omega)) ⟨?_, nm_r (e' := lN (mg_ch s (i + 1))) ?_ (nm_r (nI_1 i) (hk _ rfl))⟩
        · rw [nI_1, nI_l (by omega)]
          intro z
          have := (lN_eq (a := i + 1) (b := 0) (by omega) (by omega)).mp z
          omega
        · have hb3 : mg_ch s i * (s - i) ≤ 2 ^ 20 * 20 := Nat.mul_le_mul hb2 (by omega)
          rw [nI_1, pk_sub (by omega), nI_l (by omega), nI_l (by omega), lN_mul, pk_lDiv (by omega) (by omega) (by omega)]
          rw [Nat.mul_comm (mg_ch s i), ← mg_chs, Nat.mul_div_cancel_left _ (by omega)]
    · rw [mg_chz hts] at h
      exact h
end
section
/-! states: the set of shown cells, the clues -/
def mr_C (S : Int32) (ac : Nat → Int32) : Prop := me_lo S ∧ ∀ j, j < 20 → (bt S j = true → ∃ n, n ≤ 8 ∧ ac j = nI n) ∧ (bt S j = false → ac j = -1)
def mr_X (S : Int32) (ac ax : Nat → Int32) : Prop := ∀ j, j < 20 → (bt S j = true → ax j = ac j) ∧ (bt S j = false → ax j = -2)
def mr_A (a : Nat → Int32) : Prop := ∀ j, j < 20 → a j = me_t j
theorem mr_m1 : ¬ (0 : Int32) ≤ -1 := by decide
theorem mr_m1' : (-1 : Int32) < 0 := by decide
section
variable {S : Int32} {ac : Nat → Int32}
theorem mr_ge (h : mr_C S ac) {j : Nat} (hj : j < 20) (hs : bt S j = true) : 0 ≤ ac j := by
  obtain ⟨n, hn, e⟩ := (h.2 j hj).1 hs
  rw [e]; exact nI_pos' (by omega)
theorem mr_nlt (h : mr_C S ac) {j : Nat} (hj : j < 20) (hs : bt S j = true) : ¬ ac j < 0 := by
  obtain ⟨n, hn, e⟩ := (h.2 j hj).1 hs
  rw [e]; exact nI_pos (by omega)
theorem mr_nge (h : mr_C S ac) {j : Nat} (hj : j < 20) (hs : bt S j = false) : ¬ 0 ≤ ac j := by
  rw [(h.2 j hj).2 hs]; exact mr_m1
theorem mr_lt (h : mr_C S ac) {j : Nat} (hj : j < 20) (hs : bt S j = false) : ac j < 0 := by
  rw [(h.2 j hj).2 hs]; exact mr_m1'
end
def mr_cv (S : Int32) : Int32 := 1048575 &&& (S ^^^ (-1))
theorem mr_ball (i : Nat) : bt 1048575 i = decide (i < 20) := by
  rcases Nat.lt_or_ge i 32 with h | h
  · exact (by decide +kernel : ∀ i, i < 32 → bt 1048575 i = decide (i < 20)) i h
  · rw [b_big h, decide_eq_false (by omega)]
theorem mr_not (x : Int32) {i : Nat} (h : i < 32) : bt (x ^^^ (-1)) i = !bt x i := by rw [b_xor, b_m1 i h]; cases bt x i <;> rfl
theorem mr_cvb (S : Int32) {j : Nat} (hj : j < 32) : bt (mr_cv S) j = (decide (j < 20) && !bt S j) := by rw [mr_cv, b_and, mr_ball, mr_not S hj]
theorem mr_cvl (S : Int32) : me_lo (mr_cv S) := fun j hj => by
  rcases Nat.lt_or_ge j 32 with h | h
  · rw [mr_cvb S h, decide_eq_false (by omega)]; rfl
  · exact b_big h
theorem mr_tl {c : Nat} (hc : c < 20) : me_lo (me_t c) := fun j hj => me_btH hc hj
theorem mr_andl {x : Int32} (h : me_lo x) (y : Int32) : me_lo (x &&& y) := fun j hj => by rw [b_and, h j hj]; rfl
theorem mr_andr {y : Int32} (h : me_lo y) (x : Int32) : me_lo (x &&& y) := fun j hj => by rw [b_and, h j hj, Bool.and_false]
theorem mr_orl {x y : Int32} (h : me_lo x) (h' : me_lo y) : me_lo (x ||| y) := fun j hj => by rw [b_or, h j hj, h' j hj]; rfl
theorem mr_0l : me_lo 0 := fun j _ => b_0 j
theorem mr_e1 (S : Int32) {c : Nat} (hc : c < 20) : me_t c &&& (mr_cv S ^^^ (-1)) = me_t c &&& S := by
  refine me_ext (mr_andl (mr_tl hc) _) (mr_andl (mr_tl hc) _) (fun j hj => ?_)
  rw [b_and, b_and, mr_not _ (by omega), mr_cvb S (by omega), decide_eq_true hj]
  cases bt S j <;> simp
theorem mr_e2 (S : Int32) {c : Nat} (hc : c < 20) : me_t c &&& (S ^^^ (-1)) = me_t c &&& mr_cv S := by
  refine me_ext (mr_andl (mr_tl hc) _) (mr_andl (mr_tl hc) _) (fun j hj => ?_)
  rw [b_and, b_and, mr_not _ (by omega), mr_cvb S (by omega), decide_eq_true hj]
  simp
section
variable {f_total f_edgeCount f_coveredCount f_known f_sureMines f_sureFree : Int32} {a_clues a_around a_edge a_found a_foundWith : Nat → Int32}
variable {S : Int32}
theorem my_cov (hC : mr_C S a_clues) {post : Int32 → Prop} (h : post (mr_cv S)) : wpY_covered post (f_total, f_edgeCount, f_coveredCount, f_known, f_sureMines, f_sureFree, a_clues, a_around, a_edge, a_found, a_foundWith) := by
  refine loop_0 (σ := Int32) (fun n i x => wY_covered_4 post f_total f_edgeCount f_coveredCount f_known f_sureMines f_sureFree a_clues a_around a_edge a_found a_foundWith n x (nI i)) (fun i x => ∀ j, j < 32 → bt x j = (decide (j < i) && !bt S j)) 20 0 (fun j _ => by rw [b_0, decide_eq_false (by omega)]; rfl) (fun n x hx => ?_) (fun n i x hi hx hk => ?_)
  · have e : x = mr_cv S := b_ext (fun j hj => by rw [hx j hj, mr_cvb S hj])
    rw [← e] at h
    exact br_t (nI_le (a := 20) (by omega) (by omega)) h
  · refine br_f (mx_20 hi) ⟨vp_in_nI hi (by omega), ?_⟩
    rw [nI_clamp (by omega)]
    cases hs : bt S i
    · refine br_f (mr_nge hC hi hs) (nm_e (nm_r (nI_1 i) (hk _ (fun j hj => ?_))))
      show bt (x ||| my_bit i) j = _
      rw [b_or, hx j hj, my_bitb (by omega)]
      by_cases z : j = i
      · subst z; simp [hs]
      · have : decide (j < i + 1) = decide (j < i) := decide_eq_decide.mpr ⟨fun h => by omega, fun h => by omega⟩
        rw [this, decide_eq_false z, Bool.or_false]
    · refine br_t (mr_ge hC hi hs) (nm_r (nI_1 i) (hk _ (fun j hj => ?_)))
      rw [hx j hj]
      by_cases z : j = i
      · subst z; simp [hs]
      · have : decide (j < i + 1) = decide (j < i) := decide_eq_decide.mpr ⟨fun h => by omega, fun h => by omega⟩
        rw [this]
theorem my_edge (hC : mr_C S a_clues) (hA : mr_A a_around) {post : Int32 → Prop} {c : Nat} (hc : c < 20) (h1 : me_ed S c = true → post 1) (h0 : me_ed S c = false → post 0) : wpY_isAtEdge post (f_total, f_edgeCount, f_coveredCount, f_known, f_sureMines, f_sureFree, a_clues, a_around, a_edge, a_found, a_foundWith) (nI c) := by
  refine ⟨vp_in_nI hc (by omega), ?_⟩
  rw [nI_clamp (by omega)]
  cases hs : bt S c
  · refine br_f (mr_nge hC hc hs) ⟨vp_in_nI hc (by omega), my_cov hC ?_⟩
    rw [hA c hc, mr_e1 S hc]
    refine br_c (fun z => h0 ?_) (fun z => h1 ?_)
    · simp [me_ed, z]
    · simp [me_ed, z, hs]
  · exact br_t (mr_ge hC hc hs) (h0 (by simp [me_ed, hs]))
end
section
variable {f_shown f_total f_knownMined f_knownFree f_lastKind f_listed f_count f_numbers f_countedCell f_countedMines f_counted : Int32} {a_around a_clueOf a_kindOf a_cluesOf a_sizes a_clueList a_missing a_room a_links a_laterRoom a_linkEnd a_taken a_most a_countBefore a_ways a_minesIn : Nat → Int32}
theorem mx_edge (hA : mr_A a_around) {post : Int32 → Prop} {c : Nat} (hc : c < 20) (h1 : me_ed f_shown c = true → post 1) (h0 : me_ed f_shown c = false → post 0) : wpX_isAtEdge post (f_shown, f_total, f_knownMined, f_knownFree, f_lastKind, f_listed, f_count, f_numbers, f_countedCell, f_countedMines, f_counted, a_around, a_clueOf, a_kindOf, a_cluesOf, a_sizes, a_clueList, a_missing, a_room, a_links, a_laterRoom, a_linkEnd, a_taken, a_most, a_countBefore, a_ways, a_minesIn) (nI c) := by
  unfold wpX_isAtEdge
  refine mx_has (by omega) (fun hs => br_f mx_10 (h0 (by simp [me_ed, hs]))) (fun hs => br_t rfl ⟨vp_in_nI hc (by omega), ?_⟩)
  rw [nI_clamp (by omega), hA c hc]
  refine br_c (fun z => h0 ?_) (fun z => h1 ?_)
  · simp [me_ed, z]
  · simp [me_ed, z, hs]
end
/-! groups -/
def mr_p1 (S : Int32) (s : Nat) (x : Int32) : Int32 := if bt S s = true ∧ ¬ (me_t s &&& x = 0) then x ||| (me_t s &&& mr_cv S) else x
def mr_ps (S : Int32) : Nat → Int32 → Int32
  | 0, x => x
  | n + 1, x => mr_p1 S n (mr_ps S n x)
def mr_it (S : Int32) : Nat → Int32 → Int32
  | 0, x => x
  | n + 1, x => mr_ps S 20 (mr_it S n x)
theorem mr_p1l {S : Int32} {s : Nat} (hs : s < 20) {x : Int32} (hx : me_lo x) : me_lo (mr_p1 S s x) ∧ ∀ j, bt x j = true → bt (mr_p1 S s x) j = true := by
  unfold mr_p1
  split
  · exact ⟨mr_orl hx (mr_andl (mr_tl hs) _), fun j hj => by rw [b_or, hj]; rfl⟩
  · exact ⟨hx, fun j hj => hj⟩
theorem mr_psl {S : Int32} {x : Int32} (hx : me_lo x) : ∀ n, n ≤ 20 → me_lo (mr_ps S n x) ∧ ∀ j, bt x j = true → bt (mr_ps S n x) j = true
  | 0, _ => ⟨hx, fun _ h => h⟩
  | n + 1, hn => by
    obtain ⟨a, b⟩ := mr_psl hx n (by omega)
    obtain ⟨c, d⟩ := mr_p1l (S := S) (s := n) (by omega) a
    exact ⟨c, fun j hj => d j (b j hj)⟩
theorem mr_itl {S : Int32} {x : Int32} (hx : me_lo x) : ∀ n, me_lo (mr_it S n x)
  | 0 => hx
  | n + 1 => (mr_psl (mr_itl hx n) 20 (by omega)).1
theorem mr_grow {S : Int32} {x : Int32} (hx : me_lo x) (h : mr_ps S 20 x ≠ x) : me_c x < me_c (mr_ps S 20 x) := by
  obtain ⟨a, b⟩ := mr_psl (S := S) hx 20 (by omega)
  have hne : ∃ j, j < 20 ∧ bt x j = false ∧ bt (mr_ps S 20 x) j = true := by
    apply Classical.byContradiction
    intro z
    refine h (me_ext a hx (fun j hj => ?_))
    cases h1 : bt x j
    · cases h2 : bt (mr_ps S 20 x) j
      · rfl
      · exact absurd ⟨j, hj, h1, h2⟩ z
    · exact b j h1
  obtain ⟨j, hj, h1, h2⟩ := hne
  exact mb_lt hj h1 h2 (fun i _ => b i)
theorem mr_least (P : Nat → Prop) (h : ∃ k, P k) : ∃ k, P k ∧ ∀ j, j < k → ¬ P j := by
  obtain ⟨k, hk⟩ := h
  induction k using Nat.strongRecOn with
  | _ k ih =>
    by_cases z : ∃ j, j < k ∧ P j
    · obtain ⟨j, hj, hp⟩ := z
      exact ih j hj hp
    · exact ⟨k, hk, fun j hj hp => z ⟨j, hj, hp⟩⟩
theorem mr_stop (S : Int32) {x : Int32} (hx : me_lo x) (h1 : 1 ≤ me_c x) : ∃ N, N ≤ 19 ∧ mr_it S (N + 1) x = mr_it S N x ∧ ∀ p, p < N → mr_it S (p + 1) x ≠ mr_it S p x := by
  have grow : ∀ n, (∀ p, p < n → mr_it S (p + 1) x ≠ mr_it S p x) → n + 1 ≤ me_c (mr_it S n x) := by
    intro n
    induction n with
    | zero => intro _; exact h1
    | succ n ih =>
      intro h
      have a := ih (fun p hp => h p (by omega))
      have b := mr_grow (mr_itl (S := S) hx n) (h n (by omega))
      rw [mr_it]; omega
  have ex : ∃ N, mr_it S (N + 1) x = mr_it S N x := by
    apply Classical.byContradiction
    intro z
    have := grow 20 (fun p _ hp => z ⟨p, hp⟩)
    have := mb_le (bt (mr_it S 20 x)) 20
    simp only [me_c] at *
    omega
  obtain ⟨N, hN, hm⟩ := mr_least _ ex
  refine ⟨N, ?_, hN, hm⟩
  apply Classical.byContradiction
  intro z
  have h20 : 20 ≤ me_c (mr_it S 19 x) := grow 19 (fun p hp => hm p (by omega))
  have full := mb_full (p := bt (mr_it S 19 x)) h20
  have lo := mr_itl (S := S) hx 19
  refine hm 19 (by omega) ?_
  obtain ⟨a, b⟩ := mr_psl (S := S) lo 20 (by omega)
  exact me_ext a lo (fun j hj => by rw [full j hj]; exact b j (full j hj))
section
variable {f_total f_edgeCount f_coveredCount f_known f_sureMines f_sureFree : Int32} {a_clues a_around a_edge a_found a_foundWith : Nat → Int32}
variable {S : Int32}
theorem my_pass (hC : mr_C S a_clues) (hA : mr_A a_around) {post : Int32 → Prop} {J : Int32 → Int32 → Prop} {x b : Int32} (h : J (mr_ps S 20 x) b) : ∃ n, wY_groupSet_36 post J (mr_cv S) b f_total f_edgeCount f_coveredCount f_known f_sureMines f_sureFree a_clues a_around a_edge a_found a_foundWith n x 0 := by
  refine loop_0 (σ := Int32) (fun n i y => wY_groupSet_36 post J (mr_cv S) b f_total f_edgeCount f_coveredCount f_known f_sureMines f_sureFree a_clues a_around a_edge a_found a_foundWith n y (nI i)) (fun i y => y = mr_ps S i x) 20 x rfl (fun n y hy => ?_) (fun n i y hi hy hk => ?_)
  · subst hy
    exact br_t (nI_le (a := 20) (by omega) (by omega)) h
  · subst hy
    have vi := vp_in_nI hi (by omega)
    refine br_f (mx_20 hi) ⟨vi, ?_⟩
    rw [nI_clamp (by omega)]
    cases hs : bt S i
    · refine br_t (mr_lt hC hi hs) (nm_r (nI_1 i) (hk _ ?_))
      rw [mr_ps, mr_p1, if_neg (by simp [hs])]
    · refine br_f (mr_nlt hC hi hs) ⟨vi, ?_⟩
      rw [hA i hi]
      refine br_c (fun z => nm_r (nI_1 i) (hk _ ?_)) (fun z => ⟨vi, nm_e (nm_r (nI_1 i) (hk _ ?_))⟩)
      · rw [mr_ps, mr_p1, if_neg (fun y => y.2 z)]
      · rw [mr_ps, mr_p1, if_pos ⟨hs, z⟩]
theorem my_iter (hC : mr_C S a_clues) (hA : mr_A a_around) {post : Int32 → Prop} {x : Int32} {N : Nat} (hN : mr_it S (N + 1) x = mr_it S N x) (hm : ∀ p, p < N → mr_it S (p + 1) x ≠ mr_it S p x) (h : post (mr_it S N x)) : ∀ (k p : Nat) (b : Int32), p + k = N → b ≠ mr_it S p x → wY_groupSet_24 post (mr_cv S) f_total f_edgeCount f_coveredCount f_known f_sureMines f_sureFree a_clues a_around a_edge a_found a_foundWith (k + 2) (mr_it S p x) b
  | 0, p, b, e, hb => by
    refine br_f hb (my_pass hC hA ?_)
    have : p = N := by omega
    subst this
    show wY_groupSet_24 post (mr_cv S) f_total f_edgeCount f_coveredCount f_known f_sureMines f_sureFree a_clues a_around a_edge a_found a_foundWith 1 (mr_it S (p + 1) x) (mr_it S p x)
    rw [hN]
    exact br_t rfl h
  | k + 1, p, b, e, hb => by
    refine br_f hb (my_pass hC hA ?_)
    exact my_iter hC hA hN hm h k (p + 1) (mr_it S p x) (by omega) (fun z => hm p (by omega) z.symm)
end
section
variable {f_shown f_total f_knownMined f_knownFree f_lastKind f_listed f_count f_numbers f_countedCell f_countedMines f_counted : Int32} {a_around a_clueOf a_kindOf a_cluesOf a_sizes a_clueList a_missing a_room a_links a_laterRoom a_linkEnd a_taken a_most a_countBefore a_ways a_minesIn : Nat → Int32}
theorem mx_pass (hA : mr_A a_around) {post : Int32 → Prop} {J : Int32 → Int32 → Int32 → Prop} {x b : Int32} {p : Nat} (h : J (mr_ps f_shown 20 x) b (nI (p + 1))) : ∃ n, wX_groupWith_26 post J b (nI p) f_shown f_total f_knownMined f_knownFree f_lastKind f_listed f_count f_numbers f_countedCell f_countedMines f_counted a_around a_clueOf a_kindOf a_cluesOf a_sizes a_clueList a_missing a_room a_links a_laterRoom a_linkEnd a_taken a_most a_countBefore a_ways a_minesIn n x 0 := by
  refine loop_0 (σ := Int32) (fun n i y => wX_groupWith_26 post J b (nI p) f_shown f_total f_knownMined f_knownFree f_lastKind f_listed f_count f_numbers f_countedCell f_countedMines f_counted a_around a_clueOf a_kindOf a_cluesOf a_sizes a_clueList a_missing a_room a_links a_laterRoom a_linkEnd a_taken a_most a_countBefore a_ways a_minesIn n y (nI i)) (fun i y => y = mr_ps f_shown i x) 20 x rfl (fun n y hy => ?_) (fun n i y hi hy hk => ?_)
  · subst hy
    exact br_t (nI_le (a := 20) (by omega) (by omega)) (nm_r (nI_1 p) h)
  · subst hy
    have vi := vp_in_nI hi (by omega)
    refine br_f (mx_20 hi) (mx_has (by omega) (fun hs => br_f mx_10 ⟨vi, ?_⟩) (fun hs => br_t rfl (nm_r (nI_1 i) (hk _ ?_))))
    · rw [nI_clamp (by omega), hA i hi]
      refine br_c (fun z => nm_r (nI_1 i) (hk _ ?_)) (fun z => ⟨vi, nm_r (e' := mr_ps f_shown i x ||| (me_t i &&& mr_cv f_shown)) (by rw [mr_e2 f_shown hi]) (nm_r (nI_1 i) (hk _ ?_))⟩)
      · rw [mr_ps, mr_p1, if_neg (fun y => y.2 z)]
      · rw [mr_ps, mr_p1, if_pos ⟨hs, z⟩]
    · rw [mr_ps, mr_p1, if_neg (by simp [hs])]
theorem mx_iter (hA : mr_A a_around) {post : Int32 → Prop} {x : Int32} {N : Nat} (h19 : N ≤ 19) (hN : mr_it f_shown (N + 1) x = mr_it f_shown N x) (hm : ∀ p, p < N → mr_it f_shown (p + 1) x ≠ mr_it f_shown p x) (h : post (mr_it f_shown N x)) : ∀ (k p : Nat) (b : Int32), p + k = N → mr_it f_shown p x ≠ b → wX_groupWith_9 post f_shown f_total f_knownMined f_knownFree f_lastKind f_listed f_count f_numbers f_countedCell f_countedMines f_counted a_around a_clueOf a_kindOf a_cluesOf a_sizes a_clueList a_missing a_room a_links a_laterRoom a_linkEnd a_taken a_most a_countBefore a_ways a_minesIn (k + 2) (mr_it f_shown p x) b (nI p)
  | 0, p, b, e, hb => by
    refine br_f (mx_20 (by omega)) (br_f hb (mx_pass hA ?_))
    have : p = N := by omega
    subst this
    show wX_groupWith_9 post f_shown f_total f_knownMined f_knownFree f_lastKind f_listed f_count f_numbers f_countedCell f_countedMines f_counted a_around a_clueOf a_kindOf a_cluesOf a_sizes a_clueList a_missing a_room a_links a_laterRoom a_linkEnd a_taken a_most a_countBefore a_ways a_minesIn 1 (mr_it f_shown (p + 1) x) (mr_it f_shown p x) (nI (p + 1))
    rw [hN]
    exact br_c (fun _ => h) (fun _ => br_t rfl h)
  | k + 1, p, b, e, hb => by
    refine br_f (mx_20 (by omega)) (br_f hb (mx_pass hA ?_))
    exact mx_iter hA h19 hN hm h k (p + 1) (mr_it f_shown p x) (by omega) (hm p (by omega))
end
end
section
/-! the rules on sets of cells -/
def mu_N (d x : Nat) : Bool := bt (me_t d) x
def mu_v (S : Int32) (x : Nat) : Bool := !bt S x
def mu_k (ac : Nat → Int32) (d : Nat) : Int := (ac d).toInt
def mu_o (S M F : Int32) (d : Nat) : Int32 := me_t d &&& (((S ||| M) ||| F) ^^^ (-1))
theorem mu_ol {S M F : Int32} {d : Nat} (hd : d < 20) : me_lo (mu_o S M F d) := mr_andl (mr_tl hd) _
theorem mu_ob {S M F : Int32} {d x : Nat} (hx : x < 20) : bt (mu_o S M F d) x = ml_op mu_N (mu_v S) (bt M) (bt F) d x := by
  rw [mu_o, b_and, mr_not _ (by omega), b_or, b_or]
  simp only [ml_op, mu_N, mu_v]
  cases bt S x <;> cases bt M x <;> cases bt F x <;> simp
theorem mu_oc (S M F : Int32) (d : Nat) : me_c (mu_o S M F d) = mb_cn (ml_op mu_N (mu_v S) (bt M) (bt F) d) 20 := mb_eq (fun _ hx => mu_ob hx)
theorem mu_lc (M : Int32) (d : Nat) : me_c (me_t d &&& M) = mb_cn (fun x => mu_N d x && bt M x) 20 := mb_eq (fun x _ => b_and _ _ x)
theorem mu_c20 (x : Int32) : me_c x ≤ 20 := mb_le _ _
theorem mu_lf {S : Int32} {ac : Nat → Int32} (hC : mr_C S ac) {M : Int32} {d : Nat} (hd : d < 20) (hs : bt S d = true) : (ac d - nI (me_c (me_t d &&& M))).toInt = ml_lf mu_N (mu_k ac) (bt M) d := by
  obtain ⟨n, hn, e⟩ := (hC.2 d hd).1 hs
  have := mu_c20 (me_t d &&& M)
  rw [ml_lf, mu_k, e, pk_sub_toInt (by omega) (by omega), nI_toInt (by omega), mu_lc]
/-- what one rule makes of a set of undecided cells -/
def mu_nM (l : Int) (Z M : Int32) : Int32 := if l = 0 then M else if l = (me_c Z : Int) then M ||| Z else M
def mu_nF (l : Int) (Z F : Int32) : Int32 := if l = 0 then F ||| Z else F
def mu_I (S : Int32) (ac : Nat → Int32) (p : Bool) (M F : Int32) : Prop := ml_I mu_N (mu_v S) (mu_k ac) p (bt M) (bt F) ∧ me_lo M ∧ me_lo F
def mu_G (S : Int32) (ac : Nat → Int32) (p : Bool) : Prop := ∃ M F, ml_Good mu_N (mu_v S) (mu_k ac) p M F
def mu_Sub (M F M' F' : Int32) : Prop := ∀ x, x < 20 → (bt M x = true → bt M' x = true) ∧ (bt F x = true → bt F' x = true)
theorem mu_Sub0 (M F : Int32) : mu_Sub M F M F := fun _ _ => ⟨id, id⟩
theorem mu_SubT {M F M' F' M2 F2 : Int32} (h : mu_Sub M F M' F') (h' : mu_Sub M' F' M2 F2) : mu_Sub M F M2 F2 := fun x hx => ⟨fun z => (h' x hx).1 ((h x hx).1 z), fun z => (h' x hx).2 ((h x hx).2 z)⟩
theorem mu_SubA {M F M' F' : Int32} (l1 : me_lo M) (l2 : me_lo F) (l3 : me_lo M') (l4 : me_lo F') (h : mu_Sub M F M' F') (h' : mu_Sub M' F' M F) : M' = M ∧ F' = F := by
  constructor
  · refine me_ext l3 l1 (fun j hj => ?_)
    have a := (h j hj).1
    have b := (h' j hj).1
    cases h1 : bt M j <;> cases h2 : bt M' j <;> simp [h1, h2] at a b ⊢
  · refine me_ext l4 l2 (fun j hj => ?_)
    have a := (h j hj).2
    have b := (h' j hj).2
    cases h1 : bt F j <;> cases h2 : bt F' j <;> simp [h1, h2] at a b ⊢
theorem mu_set {S : Int32} {ac : Nat → Int32} {p : Bool} {M F Z : Int32} {l : Int} (h : mu_I S ac p M F) (lZ : me_lo Z) (hZ : ∀ x, x < 20 → bt Z x = true → mu_v S x = true ∧ bt M x = false ∧ bt F x = false)
    (hr : ∀ M' F', ml_Good mu_N (mu_v S) (mu_k ac) p M' F' → ml_Sub (bt M) (bt F) M' F' → 0 ≤ l ∧ l ≤ (me_c Z : Int) ∧ (l = 0 → ∀ x, x < 20 → bt Z x = true → F' x = true) ∧ (l = (me_c Z : Int) → ∀ x, x < 20 → bt Z x = true → M' x = true)) :
    (l < 0 ∨ (me_c Z : Int) < l → ¬ mu_G S ac p) ∧ (0 ≤ l → l ≤ (me_c Z : Int) → mu_I S ac p (mu_nM l Z M) (mu_nF l Z F) ∧ mu_Sub M F (mu_nM l Z M) (mu_nF l Z F) ∧ (mu_nM l Z M = M → mu_nF l Z F = F → ml_ok l (me_c Z))) := by
  obtain ⟨a, b, c⟩ := ml_set h.1 hZ hr
  have fr : ∀ Y : Int32, (∀ x, x < 20 → bt Z x = true → bt Y x = false) → Y ||| Z = Y → me_c Z = 0 := by
    intro Y hY e
    refine mb_of0 (fun x hx => ?_)
    cases hz : bt Z x
    · rfl
    · have := hY x hx hz
      rw [← e, b_or, hz] at this
      simp at this
  refine ⟨fun hl ⟨M', F', g⟩ => a hl M' F' g, fun h0 h1 => ?_⟩
  unfold mu_nM mu_nF
  by_cases z : l = 0
  · simp only [z, if_true]
    refine ⟨⟨b z (bt (F ||| Z)) (fun x _ => b_or _ _ x), h.2.1, mr_orl h.2.2 lZ⟩, fun x _ => ⟨id, fun y => by rw [b_or, y]; rfl⟩, fun _ e => ?_⟩
    have := fr F (fun x hx y => (hZ x hx y).2.2) e
    exact ⟨by omega, by omega, fun _ => this⟩
  · simp only [z, if_false]
    by_cases z2 : l = (me_c Z : Int)
    · simp only [z2, if_true]
      refine ⟨⟨c z2 (bt (M ||| Z)) (fun x _ => b_or _ _ x), mr_orl h.2.1 lZ, h.2.2⟩, fun x _ => ⟨fun y => by rw [b_or, y]; rfl, id⟩, fun e _ => ?_⟩
      have := fr M (fun x hx y => (hZ x hx y).2.1) e
      omega
    · simp only [z2, if_false]
      exact ⟨h, mu_Sub0 M F, fun _ _ => ⟨h0, h1, fun y => by omega⟩⟩
/-- rule 1 -/
theorem mu_r1 {S : Int32} {ac : Nat → Int32} {p : Bool} {M F : Int32} (h : mu_I S ac p M F) {d : Nat} (hd : d < 20) (hs : bt S d = true) :
    (ml_lf mu_N (mu_k ac) (bt M) d < 0 ∨ (me_c (mu_o S M F d) : Int) < ml_lf mu_N (mu_k ac) (bt M) d → ¬ mu_G S ac p) ∧
    (0 ≤ ml_lf mu_N (mu_k ac) (bt M) d → ml_lf mu_N (mu_k ac) (bt M) d ≤ (me_c (mu_o S M F d) : Int) →
      mu_I S ac p (mu_nM (ml_lf mu_N (mu_k ac) (bt M) d) (mu_o S M F d) M) (mu_nF (ml_lf mu_N (mu_k ac) (bt M) d) (mu_o S M F d) F) ∧
      mu_Sub M F (mu_nM (ml_lf mu_N (mu_k ac) (bt M) d) (mu_o S M F d) M) (mu_nF (ml_lf mu_N (mu_k ac) (bt M) d) (mu_o S M F d) F) ∧
      (mu_nM (ml_lf mu_N (mu_k ac) (bt M) d) (mu_o S M F d) M = M → mu_nF (ml_lf mu_N (mu_k ac) (bt M) d) (mu_o S M F d) F = F → ml_c1 mu_N (mu_v S) (mu_k ac) (bt M) (bt F) d)) := by
  have hv : mu_v S d = false := by rw [mu_v, hs]; rfl
  obtain ⟨a, b⟩ := mu_set (l := ml_lf mu_N (mu_k ac) (bt M) d) h (mu_ol (S := S) (M := M) (F := F) hd) (fun x hx hz => by
    rw [mu_ob hx] at hz
    simp only [ml_op, Bool.and_eq_true, Bool.not_eq_true'] at hz
    exact ⟨hz.1.1.2, hz.1.2, hz.2⟩) (fun M' F' g s => by
      obtain ⟨r1, r2, r3, r4⟩ := ml_r1 g s hd hv
      rw [mu_oc]
      exact ⟨r1, r2, fun e x hx hz => r3 e x hx (by rw [← mu_ob hx]; exact hz), fun e x hx hz => r4 e x hx (by rw [← mu_ob hx]; exact hz)⟩)
  refine ⟨a, fun h0 h1 => ?_⟩
  obtain ⟨b1, b2, b3⟩ := b h0 h1
  exact ⟨b1, b2, fun e1 e2 _ => by have := b3 e1 e2; rw [mu_oc] at this; exact this⟩
/-- rule 2 -/
theorem mu_r2 {S : Int32} {ac : Nat → Int32} {M F Z : Int32} (h : mu_I S ac true M F) {a b : Nat} (ha : a < 20) (hb : b < 20) (hne : a ≠ b) (hsa : bt S a = true) (hsb : bt S b = true) (hi : ml_inc mu_N (mu_v S) (bt M) (bt F) a b)
    (lZ : me_lo Z) (hZ : ∀ x, x < 20 → bt Z x = ml_ot mu_N (mu_v S) (bt M) (bt F) a b x) {l : Int} (hl : l = ml_lf mu_N (mu_k ac) (bt M) b - ml_lf mu_N (mu_k ac) (bt M) a) :
    (l < 0 ∨ (me_c Z : Int) < l → ¬ mu_G S ac true) ∧
    (0 ≤ l → l ≤ (me_c Z : Int) → mu_I S ac true (mu_nM l Z M) (mu_nF l Z F) ∧ mu_Sub M F (mu_nM l Z M) (mu_nF l Z F) ∧
      (mu_nM l Z M = M → mu_nF l Z F = F → ml_c2 mu_N (mu_v S) (mu_k ac) (bt M) (bt F) a b)) := by
  have hva : mu_v S a = false := by rw [mu_v, hsa]; rfl
  have hvb : mu_v S b = false := by rw [mu_v, hsb]; rfl
  have ec : me_c Z = mb_cn (ml_ot mu_N (mu_v S) (bt M) (bt F) a b) 20 := mb_eq (fun x hx => hZ x hx)
  obtain ⟨q1, q2⟩ := mu_set (l := l) h lZ (fun x hx hz => by
    rw [hZ x hx] at hz
    simp only [ml_ot, ml_op, Bool.and_eq_true, Bool.not_eq_true'] at hz
    exact ⟨hz.1.1.1.2, hz.1.1.2, hz.1.2⟩) (fun M' F' g s => by
      obtain ⟨r1, r2, r3, r4⟩ := ml_r2 g s ha hb hne hva hvb hi
      rw [ec, hl]
      exact ⟨r1, r2, fun e x hx hz => r3 e x hx (by rw [← hZ x hx]; exact hz), fun e x hx hz => r4 e x hx (by rw [← hZ x hx]; exact hz)⟩)
  refine ⟨q1, fun h0 h1 => ?_⟩
  obtain ⟨b1, b2, b3⟩ := q2 h0 h1
  exact ⟨b1, b2, fun e1 e2 _ _ _ _ => by have := b3 e1 e2; rw [ec, hl] at this; exact this⟩
/-- an a without undecided cells adds nothing to rule 1 -/
theorem mu_c2e {S : Int32} {ac : Nat → Int32} {M F : Int32} (h1 : ∀ d, d < 20 → ml_c1 mu_N (mu_v S) (mu_k ac) (bt M) (bt F) d) {a b : Nat} (ha : a < 20) (hb : b < 20) (he : mu_o S M F a = 0) : ml_c2 mu_N (mu_v S) (mu_k ac) (bt M) (bt F) a b := by
  intro hne hva hvb _
  have ea : ∀ x, x < 20 → ml_op mu_N (mu_v S) (bt M) (bt F) a x = false := fun x hx => by rw [← mu_ob hx, he, b_0]
  have e0 : mb_cn (ml_op mu_N (mu_v S) (bt M) (bt F) a) 20 = 0 := mb_of0 ea
  obtain ⟨a1, a2, a3⟩ := h1 a ha hva
  obtain ⟨b1, b2, b3⟩ := h1 b hb hvb
  rw [e0] at a2
  have ez : mb_cn (ml_ot mu_N (mu_v S) (bt M) (bt F) a b) 20 = mb_cn (ml_op mu_N (mu_v S) (bt M) (bt F) b) 20 := mb_eq (fun x hx => by simp only [ml_ot]; rw [ea x hx]; simp)
  rw [ez]
  have : ml_lf mu_N (mu_k ac) (bt M) a = 0 := by omega
  rw [this, Int.sub_zero]
  exact ⟨b1, b2, b3⟩
/-- the answer when a whole round has changed nothing -/
theorem mu_fin {S : Int32} {ac : Nat → Int32} {p : Bool} {M F : Int32} (h : mu_I S ac p M F) (h1 : ∀ d, d < 20 → ml_c1 mu_N (mu_v S) (mu_k ac) (bt M) (bt F) d) (h2 : p = true → ∀ a b, a < 20 → b < 20 → ml_c2 mu_N (mu_v S) (mu_k ac) (bt M) (bt F) a b) : ml_S mu_N (mu_v S) (mu_k ac) p true (bt M) (bt F) :=
  ⟨fun _ => ⟨⟨h.1.1, h1, h2⟩, h.1.2⟩, fun z => by cases z⟩
theorem mu_bad {S : Int32} {ac : Nat → Int32} {p : Bool} {M F : Int32} (h : ¬ mu_G S ac p) : ml_S mu_N (mu_v S) (mu_k ac) p false (bt M) (bt F) :=
  ⟨fun z => (by cases z), fun _ M1 F1 g => h ⟨M1, F1, g⟩⟩
theorem mu_I0 (S : Int32) (ac : Nat → Int32) (p : Bool) : mu_I S ac p 0 0 :=
  ⟨⟨fun x _ => ⟨by rw [b_0]; simp, by rw [b_0]; simp, by rw [b_0]; simp⟩, fun M' F' _ x _ => ⟨by rw [b_0]; simp, by rw [b_0]; simp⟩⟩, mr_0l, mr_0l⟩
/-- the number decided -/
def mu_c (M F : Int32) : Nat := me_c (M ||| F)
theorem mu_cm {M F M' F' : Int32} (h : mu_Sub M F M' F') : mu_c M F ≤ mu_c M' F' := mb_mono (fun x hx z => by
  rw [b_or] at z ⊢
  simp only [Bool.or_eq_true] at z ⊢
  exact z.imp (h x hx).1 (h x hx).2)
theorem mu_same {S : Int32} {ac : Nat → Int32} {p : Bool} {M F M' F' : Int32} (h : mu_I S ac p M F) (h' : mu_I S ac p M' F') (s : mu_Sub M F M' F') (e : ∀ x, x < 20 → bt (M' ||| F') x = true → bt (M ||| F) x = true) : M' = M ∧ F' = F := by
  refine mu_SubA h.2.1 h.2.2 h'.2.1 h'.2.2 s (fun x hx => ?_)
  obtain ⟨w1, w2, w3⟩ := h'.1.1 x hx
  have e' := e x hx
  rw [b_or, b_or] at e'
  have s' := s x hx
  constructor
  · intro z
    rw [z] at e'
    cases hM : bt M x
    · rw [hM] at e'
      have := s'.2 (by simpa using e')
      exact absurd ⟨z, this⟩ w1
    · rfl
  · intro z
    rw [z] at e'
    cases hF : bt F x
    · rw [hF] at e'
      have := s'.1 (by simpa using e')
      exact absurd ⟨this, z⟩ w1
    · rfl
theorem mu_eqor {S : Int32} {ac : Nat → Int32} {p : Bool} {M F M' F' : Int32} (h : mu_I S ac p M F) (h' : mu_I S ac p M' F') (s : mu_Sub M F M' F') (e : M' ||| F' = M ||| F) : M' = M ∧ F' = F :=
  mu_same h h' s (fun x _ z => by rw [← e]; exact z)
theorem mu_eqc {S : Int32} {ac : Nat → Int32} {p : Bool} {M F M' F' : Int32} (h : mu_I S ac p M F) (h' : mu_I S ac p M' F') (s : mu_Sub M F M' F') (e : mu_c M' F' = mu_c M F) : M' = M ∧ F' = F := by
  refine mu_same h h' s (fun x hx z => ?_)
  cases hb : bt (M ||| F) x
  · have : mu_c M F < mu_c M' F' := mb_lt hx hb z (fun y hy q => by
      rw [b_or] at q ⊢
      simp only [Bool.or_eq_true] at q ⊢
      exact q.imp (s y hy).1 (s y hy).2)
    omega
  · rfl
theorem mu_lt {S : Int32} {ac : Nat → Int32} {p : Bool} {M F M' F' : Int32} (h : mu_I S ac p M F) (h' : mu_I S ac p M' F') (s : mu_Sub M F M' F') (e : M' ||| F' ≠ M ||| F) : mu_c M F < mu_c M' F' := by
  have := mu_cm s
  rcases Nat.lt_or_ge (mu_c M F) (mu_c M' F') with z | z
  · exact z
  · obtain ⟨e1, e2⟩ := mu_eqc h h' s (by omega)
    exact absurd (by rw [e1, e2]) e
end
section
/-! the component's rules -/
section
variable {f_shown f_total f_knownMined f_knownFree f_lastKind f_listed f_count f_numbers f_countedCell f_countedMines f_counted : Int32} {a_around a_clueOf a_kindOf a_cluesOf a_sizes a_clueList a_missing a_room a_links a_laterRoom a_linkEnd a_taken a_most a_countBefore a_ways a_minesIn : Nat → Int32}
variable {ac : Nat → Int32}
theorem mx_opn (hA : mr_A a_around) {post : Int32 → Prop} {d : Nat} (hd : d < 20) (h : post (mu_o f_shown f_knownMined f_knownFree d)) : wpX_openOf post (f_shown, f_total, f_knownMined, f_knownFree, f_lastKind, f_listed, f_count, f_numbers, f_countedCell, f_countedMines, f_counted, a_around, a_clueOf, a_kindOf, a_cluesOf, a_sizes, a_clueList, a_missing, a_room, a_links, a_laterRoom, a_linkEnd, a_taken, a_most, a_countBefore, a_ways, a_minesIn) (nI d) := by
  refine ⟨vp_in_nI hd (by omega), ?_⟩
  rw [nI_clamp (by omega), hA d hd]
  exact h
theorem mx_left (hC : mr_C f_shown ac) (hX : mr_X f_shown ac a_clueOf) (hA : mr_A a_around) {post : Int32 → Prop} {d : Nat} (hd : d < 20) (hs : bt f_shown d = true) (h : ∀ x : Int32, x.toInt = ml_lf mu_N (mu_k ac) (bt f_knownMined) d → post x) : wpX_leftOf post (f_shown, f_total, f_knownMined, f_knownFree, f_lastKind, f_listed, f_count, f_numbers, f_countedCell, f_countedMines, f_counted, a_around, a_clueOf, a_kindOf, a_cluesOf, a_sizes, a_clueList, a_missing, a_room, a_links, a_laterRoom, a_linkEnd, a_taken, a_most, a_countBefore, a_ways, a_minesIn) (nI d) := by
  refine ⟨vp_in_nI hd (by omega), vp_in_nI hd (by omega), ?_⟩
  rw [nI_clamp (by omega), hA d hd]
  refine mx_size (mr_andl (mr_tl hd) _) (h _ ?_)
  rw [(hX d hd).1 hs]
  exact mu_lf hC hd hs
theorem mx_settle {post : Int32 → SX → Prop} {Z x : Int32} (lZ : me_lo Z) {l : Int} (hx : x.toInt = l) (h0 : l < 0 ∨ (me_c Z : Int) < l → post 0 (f_shown, f_total, f_knownMined, f_knownFree, f_lastKind, f_listed, f_count, f_numbers, f_countedCell, f_countedMines, f_counted, a_around, a_clueOf, a_kindOf, a_cluesOf, a_sizes, a_clueList, a_missing, a_room, a_links, a_laterRoom, a_linkEnd, a_taken, a_most, a_countBefore, a_ways, a_minesIn)) (h1 : 0 ≤ l → l ≤ (me_c Z : Int) → post 1 (f_shown, f_total, mu_nM l Z f_knownMined, mu_nF l Z f_knownFree, f_lastKind, f_listed, f_count, f_numbers, f_countedCell, f_countedMines, f_counted, a_around, a_clueOf, a_kindOf, a_cluesOf, a_sizes, a_clueList, a_missing, a_room, a_links, a_laterRoom, a_linkEnd, a_taken, a_most, a_countBefore, a_ways, a_minesIn)) : wpX_settle post (f_shown, f_total, f_knownMined, f_knownFree, f_lastKind, f_listed, f_count, f_numbers, f_countedCell, f_countedMines, f_counted, a_around, a_clueOf, a_kindOf, a_cluesOf, a_sizes, a_clueList, a_missing, a_room, a_links, a_laterRoom, a_linkEnd, a_taken, a_most, a_countBefore, a_ways, a_minesIn) Z x := by
  have hz := mu_c20 Z
  have z0 : (0 : Int32).toInt = 0 := by decide
  have zc : (nI (me_c Z)).toInt = (me_c Z : Int) := nI_toInt (by omega)
  unfold wpX_settle
  refine mx_size lZ ?_
  by_cases a : x < 0
  · refine br_t a (h0 (Or.inl ?_))
    have := Int32.lt_iff_toInt_lt.mp a
    omega
  · have a' : 0 ≤ l := by
      have : ¬ x.toInt < (0 : Int32).toInt := fun y => a (Int32.lt_iff_toInt_lt.mpr y)
      omega
    refine br_f a ?_
    by_cases b : x ≤ nI (me_c Z)
    · have b' : l ≤ (me_c Z : Int) := by
        have := Int32.le_iff_toInt_le.mp b
        omega
      have h2 := h1 a' b'
      refine br_t b ?_
      by_cases c : x = 0
      · have c' : l = 0 := by rw [← hx, c]; decide
        simp only [mu_nM, mu_nF, c', if_true] at h2
        exact br_t c (nm_e h2)
      · have c' : ¬ l = 0 := fun y => c (Int32.toInt_inj.mp (by omega))
        refine br_f c ?_
        by_cases d : x = nI (me_c Z)
        · have d' : l = (me_c Z : Int) := by rw [← hx, d]; exact zc
          simp only [mu_nM, mu_nF, c', if_false] at h2
          rw [if_pos d'] at h2
          exact br_t d (nm_e h2)
        · have d' : ¬ l = (me_c Z : Int) := fun y => d (Int32.toInt_inj.mp (by omega))
          simp only [mu_nM, mu_nF, c', d', if_false] at h2
          exact br_f d h2
    · refine br_f b (h0 (Or.inr ?_))
      have : ¬ x.toInt ≤ (nI (me_c Z)).toInt := fun y => b (Int32.le_iff_toInt_le.mpr y)
      omega
theorem mx_rule1 (hC : mr_C f_shown ac) (hX : mr_X f_shown ac a_clueOf) (hA : mr_A a_around) {p : Bool} (hI : mu_I f_shown ac p f_knownMined f_knownFree) {post : Int32 → SX → Prop}
    (h0 : ∀ M F, ¬ mu_G f_shown ac p → post 0 (f_shown, f_total, M, F, f_lastKind, f_listed, f_count, f_numbers, f_countedCell, f_countedMines, f_counted, a_around, a_clueOf, a_kindOf, a_cluesOf, a_sizes, a_clueList, a_missing, a_room, a_links, a_laterRoom, a_linkEnd, a_taken, a_most, a_countBefore, a_ways, a_minesIn))
    (h1 : ∀ M F, mu_I f_shown ac p M F → mu_Sub f_knownMined f_knownFree M F → (M = f_knownMined → F = f_knownFree → ∀ d, d < 20 → ml_c1 mu_N (mu_v f_shown) (mu_k ac) (bt f_knownMined) (bt f_knownFree) d) → post 1 (f_shown, f_total, M, F, f_lastKind, f_listed, f_count, f_numbers, f_countedCell, f_countedMines, f_counted, a_around, a_clueOf, a_kindOf, a_cluesOf, a_sizes, a_clueList, a_missing, a_room, a_links, a_laterRoom, a_linkEnd, a_taken, a_most, a_countBefore, a_ways, a_minesIn)) : wpX_applyRule1 post (f_shown, f_total, f_knownMined, f_knownFree, f_lastKind, f_listed, f_count, f_numbers, f_countedCell, f_countedMines, f_counted, a_around, a_clueOf, a_kindOf, a_cluesOf, a_sizes, a_clueList, a_missing, a_room, a_links, a_laterRoom, a_linkEnd, a_taken, a_most, a_countBefore, a_ways, a_minesIn) := by
  refine loop_0 (σ := Int32 × Int32) (fun n i s => wX_applyRule1_2 post n (nI i) f_shown f_total s.1 s.2 f_lastKind f_listed f_count f_numbers f_countedCell f_countedMines f_counted a_around a_clueOf a_kindOf a_cluesOf a_sizes a_clueList a_missing a_room a_links a_laterRoom a_linkEnd a_taken a_most a_countBefore a_ways a_minesIn)
    (fun i s => mu_I f_shown ac p s.1 s.2 ∧ mu_Sub f_knownMined f_knownFree s.1 s.2 ∧ (s.1 = f_knownMined → s.2 = f_knownFree → ∀ d, d < i → ml_c1 mu_N (mu_v f_shown) (mu_k ac) (bt f_knownMined) (bt f_knownFree) d)) 20 (f_knownMined, f_knownFree)
    ⟨hI, mu_Sub0 _ _, fun _ _ d hd => by omega⟩ (fun n s hs => ?_) (fun n i s hi hs hk => ?_)
  · exact br_t (nI_le (a := 20) (by omega) (by omega)) (h1 s.1 s.2 hs.1 hs.2.1 hs.2.2)
  · obtain ⟨M, F⟩ := s
    obtain ⟨q1, q2, q3⟩ := hs
    dsimp only at q1 q2 q3
    refine br_f (mx_20 hi) (mx_has (by omega) (fun hb => br_f mx_10 ?_) (fun hb => br_t rfl (nm_r (nI_1 i) (hk (M, F) ⟨q1, q2, fun e1 e2 d hd => ?_⟩))))
    · obtain ⟨r1, r2⟩ := mu_r1 q1 hi hb
      refine mx_opn hA hi (mx_left hC hX hA hi hb (fun x hx => mx_settle (mu_ol hi) hx (fun z => br_t rfl (h0 _ _ (r1 z))) (fun z1 z2 => br_f mx_10 (nm_r (nI_1 i) (hk (mu_nM (ml_lf mu_N (mu_k ac) (bt M) i) (mu_o f_shown M F i) M, mu_nF (ml_lf mu_N (mu_k ac) (bt M) i) (mu_o f_shown M F i) F) ⟨?_, ?_, ?_⟩)))))
      · exact (r2 z1 z2).1
      · exact mu_SubT q2 (r2 z1 z2).2.1
      · intro e1 e2 d hd
        have s1 : mu_Sub M F f_knownMined f_knownFree := by
          have := (r2 z1 z2).2.1
          dsimp only at e1 e2
          rw [e1, e2] at this
          exact this
        obtain ⟨g1, g2⟩ := mu_SubA hI.2.1 hI.2.2 q1.2.1 q1.2.2 q2 s1
        rcases Nat.lt_or_ge d i with y | y
        · exact q3 g1 g2 d y
        · have : d = i := by omega
          subst this
          dsimp only at e1 e2
          have := (r2 z1 z2).2.2 (e1.trans g1.symm) (e2.trans g2.symm)
          rw [← g1, ← g2]
          exact this
    · rcases Nat.lt_or_ge d i with y | y
      · exact q3 e1 e2 d y
      · have : d = i := by omega
        subst this
        intro z
        rw [mu_v, hb] at z
        cases z
/-- while b runs, the undecided cells of a and what is left for it stay -/
theorem mx_keep {S : Int32} {M F Z : Int32} {a b : Nat} (hZ : ∀ x, x < 20 → bt Z x = ml_ot mu_N (mu_v S) (bt M) (bt F) a b x) (l : Int) :
    (∀ x, x < 20 → ml_op mu_N (mu_v S) (bt (mu_nM l Z M)) (bt (mu_nF l Z F)) a x = ml_op mu_N (mu_v S) (bt M) (bt F) a x) ∧ (∀ k, ml_lf mu_N k (bt (mu_nM l Z M)) a = ml_lf mu_N k (bt M) a) := by
  have key : ∀ x, x < 20 → bt Z x = true → mu_N a x = false := by
    intro x hx hz
    rw [hZ x hx] at hz
    simp only [ml_ot, ml_op] at hz
    cases h : mu_N a x
    · rfl
    · cases h1 : mu_v S x <;> cases h2 : bt M x <;> cases h3 : bt F x <;> simp [h, h1, h2, h3] at hz
  have hM : ∀ x, x < 20 → (mu_N a x && bt (mu_nM l Z M) x) = (mu_N a x && bt M x) := by
    intro x hx
    unfold mu_nM
    split
    · rfl
    · split
      · rw [b_or]
        cases hz : bt Z x
        · simp
        · rw [key x hx hz]; simp
      · rfl
  have hF : ∀ x, x < 20 → (mu_N a x && bt (mu_nF l Z F) x) = (mu_N a x && bt F x) := by
    intro x hx
    unfold mu_nF
    split
    · rw [b_or]
      cases hz : bt Z x
      · simp
      · rw [key x hx hz]; simp
    · rfl
  refine ⟨fun x hx => ?_, fun k => ?_⟩
  · have e1 := hM x hx
    have e2 := hF x hx
    simp only [ml_op]
    cases h : mu_N a x
    · simp
    · rw [h] at e1 e2
      simp only [Bool.true_and] at e1 e2 ⊢
      rw [e1, e2]
  · simp only [ml_lf]
    rw [mb_eq hM]
theorem mx_rule2b (hC : mr_C f_shown ac) (hX : mr_X f_shown ac a_clueOf) (hA : mr_A a_around) {a : Nat} (ha : a < 20) (hsa : bt f_shown a = true) (hI : mu_I f_shown ac true f_knownMined f_knownFree) {post : Int32 → SX → Prop} {J : Int32 → Int32 → Int32 → Int32 → Int32 → Int32 → Int32 → Int32 → Int32 → Int32 → Int32 → Int32 → (Nat → Int32) → (Nat → Int32) → (Nat → Int32) → (Nat → Int32) → (Nat → Int32) → (Nat → Int32) → (Nat → Int32) → (Nat → Int32) → (Nat → Int32) → (Nat → Int32) → (Nat → Int32) → (Nat → Int32) → (Nat → Int32) → (Nat → Int32) → (Nat → Int32) → (Nat → Int32) → Prop} {xl : Int32} (hl : xl.toInt = ml_lf mu_N (mu_k ac) (bt f_knownMined) a)
    (h0 : ∀ M F, ¬ mu_G f_shown ac true → post 0 (f_shown, f_total, M, F, f_lastKind, f_listed, f_count, f_numbers, f_countedCell, f_countedMines, f_counted, a_around, a_clueOf, a_kindOf, a_cluesOf, a_sizes, a_clueList, a_missing, a_room, a_links, a_laterRoom, a_linkEnd, a_taken, a_most, a_countBefore, a_ways, a_minesIn))
    (h1 : ∀ M F, mu_I f_shown ac true M F → mu_Sub f_knownMined f_knownFree M F → (M = f_knownMined → F = f_knownFree → ∀ b, b < 20 → ml_c2 mu_N (mu_v f_shown) (mu_k ac) (bt f_knownMined) (bt f_knownFree) a b) → J (nI (a + 1)) f_shown f_total M F f_lastKind f_listed f_count f_numbers f_countedCell f_countedMines f_counted a_around a_clueOf a_kindOf a_cluesOf a_sizes a_clueList a_missing a_room a_links a_laterRoom a_linkEnd a_taken a_most a_countBefore a_ways a_minesIn) :
    ∃ n, wX_applyRule2_45 post J (nI a) (mu_o f_shown f_knownMined f_knownFree a) xl n 0 f_shown f_total f_knownMined f_knownFree f_lastKind f_listed f_count f_numbers f_countedCell f_countedMines f_counted a_around a_clueOf a_kindOf a_cluesOf a_sizes a_clueList a_missing a_room a_links a_laterRoom a_linkEnd a_taken a_most a_countBefore a_ways a_minesIn := by
  refine loop_0 (σ := Int32 × Int32) (fun n i s => wX_applyRule2_45 post J (nI a) (mu_o f_shown f_knownMined f_knownFree a) xl n (nI i) f_shown f_total s.1 s.2 f_lastKind f_listed f_count f_numbers f_countedCell f_countedMines f_counted a_around a_clueOf a_kindOf a_cluesOf a_sizes a_clueList a_missing a_room a_links a_laterRoom a_linkEnd a_taken a_most a_countBefore a_ways a_minesIn)
    (fun i s => mu_I f_shown ac true s.1 s.2 ∧ mu_Sub f_knownMined f_knownFree s.1 s.2 ∧ (∀ x, x < 20 → ml_op mu_N (mu_v f_shown) (bt s.1) (bt s.2) a x = ml_op mu_N (mu_v f_shown) (bt f_knownMined) (bt f_knownFree) a x) ∧ ml_lf mu_N (mu_k ac) (bt s.1) a = ml_lf mu_N (mu_k ac) (bt f_knownMined) a ∧
      (s.1 = f_knownMined → s.2 = f_knownFree → ∀ b, b < i → ml_c2 mu_N (mu_v f_shown) (mu_k ac) (bt f_knownMined) (bt f_knownFree) a b)) 20 (f_knownMined, f_knownFree)
    ⟨hI, mu_Sub0 _ _, fun _ _ => rfl, rfl, fun _ _ d hd => by omega⟩ (fun n s hs => ?_) (fun n i s hi hs hk => ?_)
  · exact br_t (nI_le (a := 20) (by omega) (by omega)) (nm_r (nI_1 a) (h1 s.1 s.2 hs.1 hs.2.1 hs.2.2.2.2))
  · obtain ⟨M, F⟩ := s
    obtain ⟨q1, q2, q3, q4, q5⟩ := hs
    dsimp only at q1 q2 q3 q4 q5
    have skip : (∀ (_ : M = f_knownMined) (_ : F = f_knownFree), ml_c2 mu_N (mu_v f_shown) (mu_k ac) (bt f_knownMined) (bt f_knownFree) a i) → wX_applyRule2_45 post J (nI a) (mu_o f_shown f_knownMined f_knownFree a) xl n (nI (i + 1)) f_shown f_total M F f_lastKind f_listed f_count f_numbers f_countedCell f_countedMines f_counted a_around a_clueOf a_kindOf a_cluesOf a_sizes a_clueList a_missing a_room a_links a_laterRoom a_linkEnd a_taken a_most a_countBefore a_ways a_minesIn := by
      intro hc
      refine hk (M, F) ⟨q1, q2, q3, q4, fun e1 e2 b hb => ?_⟩
      rcases Nat.lt_or_ge b i with y | y
      · exact q5 e1 e2 b y
      · have : b = i := by omega
        subst this
        exact hc e1 e2
    refine br_f (mx_20 hi) (br_c (fun z => nm_r (nI_1 i) (skip (fun _ _ hne => ?_))) (fun z => ?_))
    · exact absurd ((nI_eq (by omega) (by omega)).mp z).symm hne
    · have hne : a ≠ i := fun y => z (by rw [y])
      refine mx_has (by omega) (fun hb => br_f mx_10 ⟨vp_in_nI hi (by omega), ?_⟩) (fun hb => br_t rfl (nm_r (nI_1 i) (skip (fun _ _ _ _ hv => ?_))))
      · rw [nI_clamp (by omega), hA i hi]
        have bits : ∀ x, x < 20 → bt (mu_o f_shown f_knownMined f_knownFree a &&& (me_t i ^^^ (-1))) x = (ml_op mu_N (mu_v f_shown) (bt M) (bt F) a x && !mu_N i x) := fun x hx => by
          rw [b_and, mr_not _ (by omega), mu_ob hx, q3 x hx]; rfl
        have l0 : me_lo (mu_o f_shown f_knownMined f_knownFree a &&& (me_t i ^^^ (-1))) := mr_andl (mu_ol ha) _
        refine br_c (fun y => ?_) (fun y => nm_r (nI_1 i) (skip (fun e1 e2 _ _ _ hinc => ?_)))
        · have hinc : ml_inc mu_N (mu_v f_shown) (bt M) (bt F) a i := by
            intro x hx ho
            have := bits x hx
            rw [y, b_0, ho, Bool.true_and] at this
            have hN : mu_N i x = true := by simpa using this.symm
            simp only [ml_op, Bool.and_eq_true] at ho ⊢
            exact ⟨⟨⟨hN, ho.1.1.2⟩, ho.1.2⟩, ho.2⟩
          refine mx_opn hA hi ?_
          have hZ : ∀ x, x < 20 → bt (mu_o f_shown M F i &&& (mu_o f_shown f_knownMined f_knownFree a ^^^ (-1))) x = ml_ot mu_N (mu_v f_shown) (bt M) (bt F) a i x := fun x hx => by
            rw [b_and, mr_not _ (by omega), mu_ob hx, mu_ob hx, ← q3 x hx]; rfl
          have lZ : me_lo (mu_o f_shown M F i &&& (mu_o f_shown f_knownMined f_knownFree a ^^^ (-1))) := mr_andl (mu_ol hi) _
          refine nm_e (mx_left hC hX hA hi hb (fun x hx => nm_e ?_))
          have hlv : (x - xl).toInt = ml_lf mu_N (mu_k ac) (bt M) i - ml_lf mu_N (mu_k ac) (bt M) a := by
            rw [Int32.toInt_sub, hx, hl, ← q4]
            obtain ⟨n1, hn1, en1⟩ := (hC.2 i hi).1 hb
            obtain ⟨n2, hn2, en2⟩ := (hC.2 a ha).1 hsa
            have g1 := mb_le (fun x => mu_N i x && bt M x) 20
            have g2 := mb_le (fun x => mu_N a x && bt M x) 20
            have k1 : mu_k ac i = (n1 : Int) := by rw [mu_k, en1, nI_toInt (by omega)]
            have k2 : mu_k ac a = (n2 : Int) := by rw [mu_k, en2, nI_toInt (by omega)]
            simp only [ml_lf, k1, k2]
            exact Int.bmod_eq_of_le (by omega) (by omega)
          obtain ⟨r1, r2⟩ := mu_r2 q1 ha hi hne hsa hb hinc lZ hZ hlv
          obtain ⟨kp1, kp2⟩ := mx_keep hZ ((x - xl).toInt)
          refine mx_settle lZ rfl (fun z => br_t rfl (h0 _ _ (r1 z))) (fun z1 z2 => br_f mx_10 (nm_r (nI_1 i) (hk (mu_nM (x - xl).toInt (mu_o f_shown M F i &&& (mu_o f_shown f_knownMined f_knownFree a ^^^ (-1))) M, mu_nF (x - xl).toInt (mu_o f_shown M F i &&& (mu_o f_shown f_knownMined f_knownFree a ^^^ (-1))) F) ⟨(r2 z1 z2).1, mu_SubT q2 (r2 z1 z2).2.1, fun x hx => (kp1 x hx).trans (q3 x hx), (kp2 _).trans q4, ?_⟩)))
          intro e1 e2 d hd
          dsimp only at e1 e2
          have s1 : mu_Sub M F f_knownMined f_knownFree := by
            have := (r2 z1 z2).2.1
            rw [e1, e2] at this
            exact this
          obtain ⟨g1, g2⟩ := mu_SubA hI.2.1 hI.2.2 q1.2.1 q1.2.2 q2 s1
          rcases Nat.lt_or_ge d i with y | y
          · exact q5 g1 g2 d y
          · have : d = i := by omega
            subst this
            have := (r2 z1 z2).2.2 (e1.trans g1.symm) (e2.trans g2.symm)
            rw [← g1, ← g2]
            exact this
        · refine absurd ((me_0 l0).mpr (fun x hx => ?_)) y
          rw [bits x hx, e1, e2]
          cases ho : ml_op mu_N (mu_v f_shown) (bt f_knownMined) (bt f_knownFree) a x
          · rfl
          · have := hinc x hx ho
            simp only [ml_op, Bool.and_eq_true] at this
            rw [this.1.1.1]; rfl
      · rw [mu_v, hb] at hv
        cases hv
theorem mx_rule2 (hC : mr_C f_shown ac) (hX : mr_X f_shown ac a_clueOf) (hA : mr_A a_around) (hI : mu_I f_shown ac true f_knownMined f_knownFree) {post : Int32 → SX → Prop}
    (h0 : ∀ M F, ¬ mu_G f_shown ac true → post 0 (f_shown, f_total, M, F, f_lastKind, f_listed, f_count, f_numbers, f_countedCell, f_countedMines, f_counted, a_around, a_clueOf, a_kindOf, a_cluesOf, a_sizes, a_clueList, a_missing, a_room, a_links, a_laterRoom, a_linkEnd, a_taken, a_most, a_countBefore, a_ways, a_minesIn))
    (h1 : ∀ M F, mu_I f_shown ac true M F → mu_Sub f_knownMined f_knownFree M F → (M = f_knownMined → F = f_knownFree → ∀ a, a < 20 → mu_o f_shown f_knownMined f_knownFree a ≠ 0 → ∀ b, b < 20 → ml_c2 mu_N (mu_v f_shown) (mu_k ac) (bt f_knownMined) (bt f_knownFree) a b) → post 1 (f_shown, f_total, M, F, f_lastKind, f_listed, f_count, f_numbers, f_countedCell, f_countedMines, f_counted, a_around, a_clueOf, a_kindOf, a_cluesOf, a_sizes, a_clueList, a_missing, a_room, a_links, a_laterRoom, a_linkEnd, a_taken, a_most, a_countBefore, a_ways, a_minesIn)) : wpX_applyRule2 post (f_shown, f_total, f_knownMined, f_knownFree, f_lastKind, f_listed, f_count, f_numbers, f_countedCell, f_countedMines, f_counted, a_around, a_clueOf, a_kindOf, a_cluesOf, a_sizes, a_clueList, a_missing, a_room, a_links, a_laterRoom, a_linkEnd, a_taken, a_most, a_countBefore, a_ways, a_minesIn) := by
  refine loop_0 (σ := Int32 × Int32) (fun n i s => wX_applyRule2_2 post n (nI i) f_shown f_total s.1 s.2 f_lastKind f_listed f_count f_numbers f_countedCell f_countedMines f_counted a_around a_clueOf a_kindOf a_cluesOf a_sizes a_clueList a_missing a_room a_links a_laterRoom a_linkEnd a_taken a_most a_countBefore a_ways a_minesIn)
    (fun i s => mu_I f_shown ac true s.1 s.2 ∧ mu_Sub f_knownMined f_knownFree s.1 s.2 ∧ (s.1 = f_knownMined → s.2 = f_knownFree → ∀ a, a < i → mu_o f_shown f_knownMined f_knownFree a ≠ 0 → ∀ b, b < 20 → ml_c2 mu_N (mu_v f_shown) (mu_k ac) (bt f_knownMined) (bt f_knownFree) a b)) 20 (f_knownMined, f_knownFree)
    ⟨hI, mu_Sub0 _ _, fun _ _ d hd => by omega⟩ (fun n s hs => ?_) (fun n i s hi hs hk => ?_)
  · exact br_t (nI_le (a := 20) (by omega) (by omega)) (h1 s.1 s.2 hs.1 hs.2.1 hs.2.2)
  · obtain ⟨M, F⟩ := s
    obtain ⟨q1, q2, q3⟩ := hs
    dsimp only at q1 q2 q3
    have skip : (∀ (_ : M = f_knownMined) (_ : F = f_knownFree), mu_o f_shown f_knownMined f_knownFree i ≠ 0 → ∀ b, b < 20 → ml_c2 mu_N (mu_v f_shown) (mu_k ac) (bt f_knownMined) (bt f_knownFree) i b) → wX_applyRule2_2 post n (nI (i + 1)) f_shown f_total M F f_lastKind f_listed f_count f_numbers f_countedCell f_countedMines f_counted a_around a_clueOf a_kindOf a_cluesOf a_sizes a_clueList a_missing a_room a_links a_laterRoom a_linkEnd a_taken a_most a_countBefore a_ways a_minesIn := by
      intro hc
      refine hk (M, F) ⟨q1, q2, fun e1 e2 a ha => ?_⟩
      rcases Nat.lt_or_ge a i with y | y
      · exact q3 e1 e2 a y
      · have : a = i := by omega
        subst this
        exact hc e1 e2
    refine br_f (mx_20 hi) (mx_has (by omega) (fun hb => br_f mx_10 (mx_opn hA hi ?_)) (fun hb => br_t rfl (br_t rfl (nm_r (nI_1 i) (skip (fun _ _ _ b _ _ hv => ?_))))))
    · refine br_c (fun z => nm_r (nI_1 i) (skip (fun e1 e2 hne => ?_))) (fun z => ?_)
      · rw [e1, e2] at z
        exact absurd z hne
      · refine mx_left hC hX hA hi hb (fun x hx => ?_)
        refine mx_rule2b hC hX hA hi hb q1 hx h0 (fun M' F' g1 g2 g3 => hk (M', F') ⟨g1, mu_SubT q2 g2, fun e1 e2 a ha hne b hb2 => ?_⟩)
        dsimp only at e1 e2
        have s1 : mu_Sub M F f_knownMined f_knownFree := by rw [e1, e2] at g2; exact g2
        obtain ⟨t1, t2⟩ := mu_SubA hI.2.1 hI.2.2 q1.2.1 q1.2.2 q2 s1
        rcases Nat.lt_or_ge a i with y | y
        · exact q3 t1 t2 a y hne b hb2
        · have : a = i := by omega
          subst this
          have := g3 (e1.trans t1.symm) (e2.trans t2.symm) b hb2
          rw [← t1, ← t2]
          exact this
    · rw [mu_v, hb] at hv
      cases hv
theorem mx_rules (hC : mr_C f_shown ac) (hX : mr_X f_shown ac a_clueOf) (hA : mr_A a_around) {post : Int32 → SX → Prop} (p : Bool) {x1 : Int32} (hp : (p = true ∧ x1 = 1) ∨ (p = false ∧ x1 = 0))
    (h0 : ∀ M F, ml_S mu_N (mu_v f_shown) (mu_k ac) p false (bt M) (bt F) → post 0 (f_shown, f_total, M, F, f_lastKind, f_listed, f_count, f_numbers, f_countedCell, f_countedMines, f_counted, a_around, a_clueOf, a_kindOf, a_cluesOf, a_sizes, a_clueList, a_missing, a_room, a_links, a_laterRoom, a_linkEnd, a_taken, a_most, a_countBefore, a_ways, a_minesIn))
    (h1 : ∀ M F, me_lo M → me_lo F → ml_S mu_N (mu_v f_shown) (mu_k ac) p true (bt M) (bt F) → post 1 (f_shown, f_total, M, F, f_lastKind, f_listed, f_count, f_numbers, f_countedCell, f_countedMines, f_counted, a_around, a_clueOf, a_kindOf, a_cluesOf, a_sizes, a_clueList, a_missing, a_room, a_links, a_laterRoom, a_linkEnd, a_taken, a_most, a_countBefore, a_ways, a_minesIn)) : wpX_applyRules post (f_shown, f_total, f_knownMined, f_knownFree, f_lastKind, f_listed, f_count, f_numbers, f_countedCell, f_countedMines, f_counted, a_around, a_clueOf, a_kindOf, a_cluesOf, a_sizes, a_clueList, a_missing, a_room, a_links, a_laterRoom, a_linkEnd, a_taken, a_most, a_countBefore, a_ways, a_minesIn) x1 := by
  refine loop_0 (σ := Int32 × Int32) (fun n i s => wX_applyRules_12 post x1 n (nI i) f_shown f_total s.1 s.2 f_lastKind f_listed f_count f_numbers f_countedCell f_countedMines f_counted a_around a_clueOf a_kindOf a_cluesOf a_sizes a_clueList a_missing a_room a_links a_laterRoom a_linkEnd a_taken a_most a_countBefore a_ways a_minesIn)
    (fun i s => mu_I f_shown ac p s.1 s.2 ∧ i ≤ mu_c s.1 s.2) 21 (0, 0) ⟨mu_I0 _ _ _, Nat.zero_le _⟩ (fun n s hs => ?_) (fun n i s hi hs hk => ?_)
  · have := mu_c20 (s.1 ||| s.2)
    have h2 := hs.2
    simp only [mu_c] at h2
    omega
  · obtain ⟨M, F⟩ := s
    obtain ⟨q1, q2⟩ := hs
    dsimp only at q1 q2
    have last : ∀ M' F', mu_I f_shown ac p M' F' → mu_Sub M F M' F' → (M' = M → F' = F → ml_S mu_N (mu_v f_shown) (mu_k ac) p true (bt M) (bt F)) → wX_applyRules_48 post (wX_applyRules_12 post x1 n) x1 (nI i) (M ||| F) f_shown f_total M' F' f_lastKind f_listed f_count f_numbers f_countedCell f_countedMines f_counted a_around a_clueOf a_kindOf a_cluesOf a_sizes a_clueList a_missing a_room a_links a_laterRoom a_linkEnd a_taken a_most a_countBefore a_ways a_minesIn := by
      intro M' F' g1 g2 g3
      refine br_c (fun z => ?_) (fun z => nm_r (nI_1 i) (hk (M', F') ⟨g1, ?_⟩))
      · obtain ⟨e1, e2⟩ := mu_eqor q1 g1 g2 z
        have := g3 e1 e2
        rw [← e1, ← e2] at this
        exact h1 _ _ g1.2.1 g1.2.2 this
      · have := mu_lt q1 g1 g2 z
        show i + 1 ≤ mu_c M' F'
        omega
    refine br_f (nI_nlt (a := 20) (by omega) (by omega)) (nm_e (mx_rule1 hC hX hA q1 (fun M' F' hb => br_t rfl (h0 _ _ (mu_bad hb))) (fun M' F' g1 g2 g3 => br_f mx_10 ?_)))
    rcases hp with ⟨rfl, rfl⟩ | ⟨rfl, rfl⟩
    · refine br_f mx_10 (mx_rule2 hC hX hA g1 (fun M2 F2 hb => br_t rfl (h0 _ _ (mu_bad hb))) (fun M2 F2 k1 k2 k3 => br_f mx_10 (last M2 F2 k1 (mu_SubT g2 k2) (fun e1 e2 => ?_))))
      have s1 : mu_Sub M' F' M F := by rw [e1, e2] at k2; exact k2
      obtain ⟨t1, t2⟩ := mu_SubA q1.2.1 q1.2.2 g1.2.1 g1.2.2 g2 s1
      have c1 := g3 t1 t2
      refine mu_fin q1 c1 (fun _ a b ha hb => ?_)
      by_cases ho : mu_o f_shown M F a = 0
      · exact mu_c2e c1 ha hb ho
      · have := k3 (e1.trans t1.symm) (e2.trans t2.symm) a ha (by rw [t1, t2]; exact ho) b hb
        rw [t1, t2] at this
        exact this
    · exact br_t rfl (last M' F' g1 g2 (fun e1 e2 => mu_fin q1 (g3 e1 e2) (fun z => by cases z)))
end
end
section
/-! the reference's rules -/
section
variable {f_total f_edgeCount f_coveredCount f_known f_sureMines f_sureFree : Int32} {a_clues a_around a_edge a_found a_foundWith : Nat → Int32}
variable {S : Int32}
theorem my_opn (hC : mr_C S a_clues) (hA : mr_A a_around) {post : Int32 → Prop} {d : Nat} (hd : d < 20) (h : post (mu_o S f_sureMines f_sureFree d)) : wpY_open post (f_total, f_edgeCount, f_coveredCount, f_known, f_sureMines, f_sureFree, a_clues, a_around, a_edge, a_found, a_foundWith) (nI d) := by
  refine ⟨vp_in_nI hd (by omega), my_cov hC ?_⟩
  rw [nI_clamp (by omega), hA d hd]
  have e : ((me_t d &&& mr_cv S) &&& (f_sureMines ^^^ (-1))) &&& (f_sureFree ^^^ (-1)) = mu_o S f_sureMines f_sureFree d := by
    refine me_ext (mr_andl (mr_andl (mr_andl (mr_tl hd) _) _) _) (mu_ol hd) (fun j hj => ?_)
    rw [b_and, b_and, b_and, mr_not _ (by omega), mr_not _ (by omega), mr_cvb S (by omega), mu_ob hj, decide_eq_true hj]
    simp [ml_op, mu_N, mu_v]
  rw [e]
  exact h
theorem my_left (hC : mr_C S a_clues) (hA : mr_A a_around) {post : Int32 → Prop} {d : Nat} (hd : d < 20) (h : ∀ x : Int32, (bt S d = true → x.toInt = ml_lf mu_N (mu_k a_clues) (bt f_sureMines) d) → post x) : wpY_left post (f_total, f_edgeCount, f_coveredCount, f_known, f_sureMines, f_sureFree, a_clues, a_around, a_edge, a_found, a_foundWith) (nI d) := by
  refine ⟨vp_in_nI hd (by omega), vp_in_nI hd (by omega), ?_⟩
  rw [nI_clamp (by omega), hA d hd]
  exact my_bits (mr_andl (mr_tl hd) _) (h _ (fun hs => mu_lf hC hd hs))
theorem my_clash (hC : mr_C S a_clues) (hA : mr_A a_around) {p : Bool} (hI : mu_I S a_clues p f_sureMines f_sureFree) {post : Int32 → Prop} (h1 : ¬ mu_G S a_clues p → post 1)
    (h0 : (∀ d, d < 20 → bt S d = true → 0 ≤ ml_lf mu_N (mu_k a_clues) (bt f_sureMines) d ∧ ml_lf mu_N (mu_k a_clues) (bt f_sureMines) d ≤ (me_c (mu_o S f_sureMines f_sureFree d) : Int)) → post 0) : wpY_clashes post (f_total, f_edgeCount, f_coveredCount, f_known, f_sureMines, f_sureFree, a_clues, a_around, a_edge, a_found, a_foundWith) := by
  refine loop_0 (σ := Unit) (fun n i _ => wY_clashes_2 post f_total f_edgeCount f_coveredCount f_known f_sureMines f_sureFree a_clues a_around a_edge a_found a_foundWith n (nI i))
    (fun i _ => ∀ d, d < i → bt S d = true → 0 ≤ ml_lf mu_N (mu_k a_clues) (bt f_sureMines) d ∧ ml_lf mu_N (mu_k a_clues) (bt f_sureMines) d ≤ (me_c (mu_o S f_sureMines f_sureFree d) : Int)) 20 () (fun d hd => by omega) (fun n s hs => ?_) (fun n i s hi hs hk => ?_)
  · exact br_t (nI_le (a := 20) (by omega) (by omega)) (h0 hs)
  · refine br_f (mx_20 hi) ⟨vp_in_nI hi (by omega), ?_⟩
    rw [nI_clamp (by omega)]
    cases hb : bt S i
    · refine br_t (mr_lt hC hi hb) (nm_r (nI_1 i) (hk () (fun d hd hs' => ?_)))
      rcases Nat.lt_or_ge d i with y | y
      · exact hs d y hs'
      · have : d = i := by omega
        subst this
        rw [hb] at hs'; cases hs'
    · obtain ⟨r1, r2⟩ := mu_r1 hI hi hb
      have z0 : (0 : Int32).toInt = 0 := by decide
      have hz := mu_c20 (mu_o S f_sureMines f_sureFree i)
      have zc : (nI (me_c (mu_o S f_sureMines f_sureFree i))).toInt = (me_c (mu_o S f_sureMines f_sureFree i) : Int) := nI_toInt (by omega)
      refine br_f (mr_nlt hC hi hb) (my_left hC hA hi (fun x hx => ?_))
      have ex := hx hb
      refine br_c (fun z => h1 (r1 (Or.inl ?_))) (fun z => my_left hC hA hi (fun x' hx' => my_opn hC hA hi (my_bits (mu_ol hi) ?_)))
      · have := Int32.lt_iff_toInt_lt.mp z
        omega
      · have ex' := hx' hb
        have hz0 : ¬ x.toInt < (0 : Int32).toInt := fun y => z (Int32.lt_iff_toInt_lt.mpr y)
        refine br_c (fun y => nm_r (nI_1 i) (hk () (fun d hd hs' => ?_))) (fun y => h1 (r1 (Or.inr ?_)))
        · have := Int32.le_iff_toInt_le.mp y
          rcases Nat.lt_or_ge d i with w | w
          · exact hs d w hs'
          · have e : d = i := by omega
            subst e
            constructor <;> omega
        · have : ¬ x'.toInt ≤ (nI (me_c (mu_o S f_sureMines f_sureFree i))).toInt := fun w => y (Int32.le_iff_toInt_le.mpr w)
          omega
theorem my_first (hC : mr_C S a_clues) (hA : mr_A a_around) {post : SY → Prop} {d : Nat} (hd : d < 20) (h0 : bt S d = false → post (f_total, f_edgeCount, f_coveredCount, f_known, f_sureMines, f_sureFree, a_clues, a_around, a_edge, a_found, a_foundWith))
    (h1 : bt S d = true → post (f_total, f_edgeCount, f_coveredCount, f_known, mu_nM (ml_lf mu_N (mu_k a_clues) (bt f_sureMines) d) (mu_o S f_sureMines f_sureFree d) f_sureMines, mu_nF (ml_lf mu_N (mu_k a_clues) (bt f_sureMines) d) (mu_o S f_sureMines f_sureFree d) f_sureFree, a_clues, a_around, a_edge, a_found, a_foundWith)) : wpY_useFirst post (f_total, f_edgeCount, f_coveredCount, f_known, f_sureMines, f_sureFree, a_clues, a_around, a_edge, a_found, a_foundWith) (nI d) := by
  have vi := vp_in_nI hd (N := 20) (by omega)
  unfold wpY_useFirst
  refine my_opn hC hA hd (my_left hC hA hd (fun x hx => ⟨vi, ?_⟩))
  rw [nI_clamp (by omega)]
  cases hs : bt S d
  · refine br_t (mr_lt hC hd hs) ⟨vi, ?_⟩
    rw [nI_clamp (by omega)]
    exact br_t (mr_lt hC hd hs) (h0 hs)
  · have ex := hx hs
    have h2 := h1 hs
    have hz := mu_c20 (mu_o S f_sureMines f_sureFree d)
    have zc : (nI (me_c (mu_o S f_sureMines f_sureFree d))).toInt = (me_c (mu_o S f_sureMines f_sureFree d) : Int) := nI_toInt (by omega)
    have z0 : (0 : Int32).toInt = 0 := by decide
    refine br_f (mr_nlt hC hd hs) ?_
    by_cases c : x = 0
    · have c' : ml_lf mu_N (mu_k a_clues) (bt f_sureMines) d = 0 := by rw [← ex, c]; decide
      rw [c'] at h2
      simp only [mu_nM, mu_nF, if_true] at h2
      exact br_t c (nm_e h2)
    · have c' : ¬ ml_lf mu_N (mu_k a_clues) (bt f_sureMines) d = 0 := fun y => c (Int32.toInt_inj.mp (by omega))
      refine br_f c ⟨vi, ?_⟩
      rw [nI_clamp (by omega)]
      refine br_f (mr_nlt hC hd hs) (my_bits (mu_ol hd) ?_)
      by_cases e : x = nI (me_c (mu_o S f_sureMines f_sureFree d))
      · have d' : ml_lf mu_N (mu_k a_clues) (bt f_sureMines) d = (me_c (mu_o S f_sureMines f_sureFree d) : Int) := by rw [← ex, e]; exact zc
        simp only [mu_nM, mu_nF, c', if_false] at h2
        rw [if_pos d'] at h2
        exact br_t e (nm_e h2)
      · have d' : ¬ ml_lf mu_N (mu_k a_clues) (bt f_sureMines) d = (me_c (mu_o S f_sureMines f_sureFree d) : Int) := fun y => e (Int32.toInt_inj.mp (by omega))
        simp only [mu_nM, mu_nF, c', d', if_false] at h2
        exact br_f e h2
theorem my_second (hC : mr_C S a_clues) (hA : mr_A a_around) (hI : mu_I S a_clues true f_sureMines f_sureFree) {post : Int32 → SY → Prop} {a b : Nat} (ha : a < 20) (hb : b < 20) (h0 : ¬ mu_G S a_clues true → post 0 (f_total, f_edgeCount, f_coveredCount, f_known, f_sureMines, f_sureFree, a_clues, a_around, a_edge, a_found, a_foundWith))
    (h1 : ∀ M F, mu_I S a_clues true M F → mu_Sub f_sureMines f_sureFree M F → (M = f_sureMines → F = f_sureFree → ml_c2 mu_N (mu_v S) (mu_k a_clues) (bt f_sureMines) (bt f_sureFree) a b) → post 1 (f_total, f_edgeCount, f_coveredCount, f_known, M, F, a_clues, a_around, a_edge, a_found, a_foundWith)) : wpY_useSecond post (f_total, f_edgeCount, f_coveredCount, f_known, f_sureMines, f_sureFree, a_clues, a_around, a_edge, a_found, a_foundWith) (nI a) (nI b) := by
  have same := h1 f_sureMines f_sureFree hI (mu_Sub0 _ _)
  refine br_c (fun z => same (fun _ _ hne => absurd ((nI_eq (by omega) (by omega)).mp z) hne)) (fun z => ⟨vp_in_nI ha (by omega), ?_⟩)
  rw [nI_clamp (by omega)]
  have hne : a ≠ b := fun y => z (by rw [y])
  cases hsa : bt S a
  · exact br_t (mr_lt hC ha hsa) (same (fun _ _ _ hv => by rw [mu_v, hsa] at hv; cases hv))
  · refine br_f (mr_nlt hC ha hsa) ⟨vp_in_nI hb (by omega), ?_⟩
    rw [nI_clamp (by omega)]
    cases hsb : bt S b
    · exact br_t (mr_lt hC hb hsb) (same (fun _ _ _ _ hv => by rw [mu_v, hsb] at hv; cases hv))
    · refine br_f (mr_nlt hC hb hsb) (my_opn hC hA ha (my_opn hC hA hb ?_))
      have bits : ∀ x, x < 20 → bt (mu_o S f_sureMines f_sureFree a &&& (mu_o S f_sureMines f_sureFree b ^^^ (-1))) x = (ml_op mu_N (mu_v S) (bt f_sureMines) (bt f_sureFree) a x && !ml_op mu_N (mu_v S) (bt f_sureMines) (bt f_sureFree) b x) := fun x hx => by
        rw [b_and, mr_not _ (by omega), mu_ob hx, mu_ob hx]
      have l0 : me_lo (mu_o S f_sureMines f_sureFree a &&& (mu_o S f_sureMines f_sureFree b ^^^ (-1))) := mr_andl (mu_ol ha) _
      refine br_c (fun y => ?_) (fun y => same (fun _ _ _ _ _ hinc => absurd ((me_0 l0).mpr (fun x hx => ?_)) y))
      · have hinc : ml_inc mu_N (mu_v S) (bt f_sureMines) (bt f_sureFree) a b := by
          intro x hx ho
          have := bits x hx
          rw [y, b_0, ho, Bool.true_and] at this
          simpa using this.symm
        have hZ : ∀ x, x < 20 → bt (mu_o S f_sureMines f_sureFree b &&& (mu_o S f_sureMines f_sureFree a ^^^ (-1))) x = ml_ot mu_N (mu_v S) (bt f_sureMines) (bt f_sureFree) a b x := fun x hx => by
          rw [b_and, mr_not _ (by omega), mu_ob hx, mu_ob hx]; rfl
        have lZ : me_lo (mu_o S f_sureMines f_sureFree b &&& (mu_o S f_sureMines f_sureFree a ^^^ (-1))) := mr_andl (mu_ol hb) _
        refine my_opn hC hA hb (my_opn hC hA ha (nm_e (my_left hC hA hb (fun x hx => my_left hC hA ha (fun xl hl => nm_e ?_)))))
        have hlv : (x - xl).toInt = ml_lf mu_N (mu_k a_clues) (bt f_sureMines) b - ml_lf mu_N (mu_k a_clues) (bt f_sureMines) a := by
          rw [Int32.toInt_sub, hx hsb, hl hsa]
          obtain ⟨n1, hn1, en1⟩ := (hC.2 b hb).1 hsb
          obtain ⟨n2, hn2, en2⟩ := (hC.2 a ha).1 hsa
          have g1 := mb_le (fun x => mu_N b x && bt f_sureMines x) 20
          have g2 := mb_le (fun x => mu_N a x && bt f_sureMines x) 20
          have k1 : mu_k a_clues b = (n1 : Int) := by rw [mu_k, en1, nI_toInt (by omega)]
          have k2 : mu_k a_clues a = (n2 : Int) := by rw [mu_k, en2, nI_toInt (by omega)]
          simp only [ml_lf, k1, k2]
          exact Int.bmod_eq_of_le (by omega) (by omega)
        obtain ⟨r1, r2⟩ := mu_r2 hI ha hb hne hsa hsb hinc lZ hZ hlv
        generalize hZe : mu_o S f_sureMines f_sureFree b &&& (mu_o S f_sureMines f_sureFree a ^^^ (-1)) = Z at *
        generalize x - xl = v at *
        have hz := mu_c20 Z
        have zc : (nI (me_c Z)).toInt = (me_c Z : Int) := nI_toInt (by omega)
        have z0 : (0 : Int32).toInt = 0 := by decide
        by_cases q : v < 0
        · refine br_t q (h0 (r1 (Or.inl ?_)))
          have := Int32.lt_iff_toInt_lt.mp q
          omega
        · have q' : 0 ≤ v.toInt := by
            have : ¬ v.toInt < (0 : Int32).toInt := fun y => q (Int32.lt_iff_toInt_lt.mpr y)
            omega
          refine br_f q (my_bits lZ ?_)
          by_cases w : v ≤ nI (me_c Z)
          · have w' : v.toInt ≤ (me_c Z : Int) := by
              have := Int32.le_iff_toInt_le.mp w
              omega
            obtain ⟨k1, k2, k3⟩ := r2 q' w'
            have h2 := h1 _ _ k1 k2 k3
            refine br_t w ?_
            by_cases c : v = 0
            · have c' : v.toInt = 0 := by rw [c]; decide
              simp only [mu_nM, mu_nF, c', if_true] at h2
              exact br_t c (nm_e h2)
            · have c' : ¬ v.toInt = 0 := fun y => c (Int32.toInt_inj.mp (by omega))
              refine br_f c (my_bits lZ ?_)
              by_cases d : v = nI (me_c Z)
              · have d' : v.toInt = (me_c Z : Int) := by rw [d]; exact zc
                simp only [mu_nM, mu_nF, c', if_false] at h2
                rw [if_pos d'] at h2
                exact br_t d (nm_e h2)
              · have d' : ¬ v.toInt = (me_c Z : Int) := fun y => d (Int32.toInt_inj.mp (by omega))
                simp only [mu_nM, mu_nF, c', d', if_false] at h2
                exact br_f d h2
          · refine br_f w (h0 (r1 (Or.inr ?_)))
            have : ¬ v.toInt ≤ (nI (me_c Z)).toInt := fun y => w (Int32.le_iff_toInt_le.mpr y)
            omega
      · rw [bits x hx]
        cases ho : ml_op mu_N (mu_v S) (bt f_sureMines) (bt f_sureFree) a x
        · rfl
        · rw [hinc x hx ho]; rfl
theorem my_seconds (hC : mr_C S a_clues) (hA : mr_A a_around) (hI : mu_I S a_clues true f_sureMines f_sureFree) {post : Int32 → SY → Prop} (h0 : ∀ M F, ¬ mu_G S a_clues true → post 0 (f_total, f_edgeCount, f_coveredCount, f_known, M, F, a_clues, a_around, a_edge, a_found, a_foundWith))
    (h1 : ∀ M F, mu_I S a_clues true M F → mu_Sub f_sureMines f_sureFree M F → (M = f_sureMines → F = f_sureFree → ∀ a b, a < 20 → b < 20 → ml_c2 mu_N (mu_v S) (mu_k a_clues) (bt f_sureMines) (bt f_sureFree) a b) → post 1 (f_total, f_edgeCount, f_coveredCount, f_known, M, F, a_clues, a_around, a_edge, a_found, a_foundWith)) : wpY_useSeconds post (f_total, f_edgeCount, f_coveredCount, f_known, f_sureMines, f_sureFree, a_clues, a_around, a_edge, a_found, a_foundWith) := by
  refine loop_0 (σ := Int32 × Int32) (fun n i s => wY_useSeconds_2 post n (nI i) f_total f_edgeCount f_coveredCount f_known s.1 s.2 a_clues a_around a_edge a_found a_foundWith)
    (fun i s => mu_I S a_clues true s.1 s.2 ∧ mu_Sub f_sureMines f_sureFree s.1 s.2 ∧ (s.1 = f_sureMines → s.2 = f_sureFree → ∀ k, k < i → ml_c2 mu_N (mu_v S) (mu_k a_clues) (bt f_sureMines) (bt f_sureFree) (k / 20) (k % 20))) 400 (f_sureMines, f_sureFree)
    ⟨hI, mu_Sub0 _ _, fun _ _ d hd => by omega⟩ (fun n s hs => ?_) (fun n i s hi hs hk => ?_)
  · refine br_t (nI_le (a := 400) (by omega) (by omega)) (h1 s.1 s.2 hs.1 hs.2.1 (fun e1 e2 a b ha hb => ?_))
    have := hs.2.2 e1 e2 (20 * a + b) (by omega)
    rw [show (20 * a + b) / 20 = a by omega, show (20 * a + b) % 20 = b by omega] at this
    exact this
  · obtain ⟨M, F⟩ := s
    obtain ⟨q1, q2, q3⟩ := hs
    dsimp only at q1 q2 q3
    refine br_f (nI_ge (b := 400) hi (by omega)) (my_clash hC hA q1 (fun hb => br_f mx_10 (h0 _ _ hb)) (fun _ => br_t rfl ⟨by decide, by decide, ?_⟩))
    have v1 : nI i / 20 = nI (i / 20) := pk_div (a := i) (d := 20) (by omega) (by omega) (by omega)
    have v2 : nI i - nI i / 20 * 20 = nI (i % 20) := pk_rem (a := i) (d := 20) (by omega) (by omega) (by omega)
    rw [v2, v1]
    refine my_second hC hA q1 (by omega) (by omega) (fun hb => br_t rfl (h0 _ _ hb)) (fun M' F' g1 g2 g3 => br_f mx_10 (nm_r (nI_1 i) (hk (M', F') ⟨g1, mu_SubT q2 g2, fun e1 e2 k hk' => ?_⟩)))
    dsimp only at e1 e2
    have s1 : mu_Sub M F f_sureMines f_sureFree := by rw [e1, e2] at g2; exact g2
    obtain ⟨t1, t2⟩ := mu_SubA hI.2.1 hI.2.2 q1.2.1 q1.2.2 q2 s1
    rcases Nat.lt_or_ge k i with y | y
    · exact q3 t1 t2 k y
    · have : k = i := by omega
      subst this
      have := g3 (e1.trans t1.symm) (e2.trans t2.symm)
      rw [← t1, ← t2]
      exact this
theorem my_round (hC : mr_C S a_clues) (hA : mr_A a_around) {p : Bool} {x1 : Int32} (hp : (p = true ∧ x1 = 1) ∨ (p = false ∧ x1 = 0)) (hI : mu_I S a_clues p f_sureMines f_sureFree) {post : Int32 → SY → Prop} {J : Int32 → Int32 → Int32 → Int32 → Int32 → Int32 → Int32 → (Nat → Int32) → (Nat → Int32) → (Nat → Int32) → (Nat → Int32) → (Nat → Int32) → Prop} {x2 : Int32} (h0 : ∀ M F, ¬ mu_G S a_clues p → post (-3) (f_total, f_edgeCount, f_coveredCount, f_known, M, F, a_clues, a_around, a_edge, a_found, a_foundWith))
    (h1 : ∀ M F, mu_I S a_clues p M F → mu_Sub f_sureMines f_sureFree M F → (M = f_sureMines → F = f_sureFree → (∀ d, d < 20 → ml_c1 mu_N (mu_v S) (mu_k a_clues) (bt f_sureMines) (bt f_sureFree) d) ∧ (p = true → ∀ a b, a < 20 → b < 20 → ml_c2 mu_N (mu_v S) (mu_k a_clues) (bt f_sureMines) (bt f_sureFree) a b)) → J x2 f_total f_edgeCount f_coveredCount f_known M F a_clues a_around a_edge a_found a_foundWith) :
    ∃ n, wY_decide_45 post J x1 x2 n 0 f_total f_edgeCount f_coveredCount f_known f_sureMines f_sureFree a_clues a_around a_edge a_found a_foundWith := by
  refine loop_0 (σ := Int32 × Int32) (fun n i s => wY_decide_45 post J x1 x2 n (nI i) f_total f_edgeCount f_coveredCount f_known s.1 s.2 a_clues a_around a_edge a_found a_foundWith)
    (fun i s => mu_I S a_clues p s.1 s.2 ∧ mu_Sub f_sureMines f_sureFree s.1 s.2 ∧ (s.1 = f_sureMines → s.2 = f_sureFree → ∀ d, d < i → ml_c1 mu_N (mu_v S) (mu_k a_clues) (bt f_sureMines) (bt f_sureFree) d)) 20 (f_sureMines, f_sureFree)
    ⟨hI, mu_Sub0 _ _, fun _ _ d hd => by omega⟩ (fun n s hs => ?_) (fun n i s hi hs hk => ?_)
  · obtain ⟨M, F⟩ := s
    obtain ⟨q1, q2, q3⟩ := hs
    dsimp only at q1 q2 q3
    refine br_t (nI_le (a := 20) (by omega) (by omega)) ?_
    rcases hp with ⟨rfl, rfl⟩ | ⟨rfl, rfl⟩
    · refine br_f mx_10 (my_seconds hC hA q1 (fun M' F' hb => br_t rfl (h0 _ _ hb)) (fun M' F' g1 g2 g3 => br_f mx_10 (h1 M' F' g1 (mu_SubT q2 g2) (fun e1 e2 => ?_))))
      have s1 : mu_Sub M F f_sureMines f_sureFree := by rw [e1, e2] at g2; exact g2
      obtain ⟨t1, t2⟩ := mu_SubA hI.2.1 hI.2.2 q1.2.1 q1.2.2 q2 s1
      refine ⟨q3 t1 t2, fun _ => ?_⟩
      have := g3 (e1.trans t1.symm) (e2.trans t2.symm)
      rw [← t1, ← t2]
      exact this
    · exact br_t rfl (h1 M F q1 q2 (fun e1 e2 => ⟨q3 e1 e2, fun z => by cases z⟩))
  · obtain ⟨M, F⟩ := s
    obtain ⟨q1, q2, q3⟩ := hs
    dsimp only at q1 q2 q3
    refine br_f (mx_20 hi) (my_clash hC hA q1 (fun hb => br_f mx_10 (h0 _ _ hb)) (fun hcl => br_t rfl (my_first hC hA hi (fun hb => nm_r (nI_1 i) (hk (M, F) ⟨q1, q2, fun e1 e2 d hd => ?_⟩)) (fun hb => nm_r (nI_1 i) (hk (mu_nM (ml_lf mu_N (mu_k a_clues) (bt M) i) (mu_o S M F i) M, mu_nF (ml_lf mu_N (mu_k a_clues) (bt M) i) (mu_o S M F i) F) ⟨?_, ?_, ?_⟩)))))
    · rcases Nat.lt_or_ge d i with y | y
      · exact q3 e1 e2 d y
      · have : d = i := by omega
        subst this
        intro z
        rw [mu_v, hb] at z
        cases z
    · exact ((mu_r1 q1 hi hb).2 (hcl i hi hb).1 (hcl i hi hb).2).1
    · exact mu_SubT q2 ((mu_r1 q1 hi hb).2 (hcl i hi hb).1 (hcl i hi hb).2).2.1
    · intro e1 e2 d hd
      dsimp only at e1 e2
      obtain ⟨k1, k2, k3⟩ := (mu_r1 q1 hi hb).2 (hcl i hi hb).1 (hcl i hi hb).2
      have s1 : mu_Sub M F f_sureMines f_sureFree := by rw [e1, e2] at k2; exact k2
      obtain ⟨g1, g2⟩ := mu_SubA hI.2.1 hI.2.2 q1.2.1 q1.2.2 q2 s1
      rcases Nat.lt_or_ge d i with y | y
      · exact q3 g1 g2 d y
      · have : d = i := by omega
        subst this
        have := k3 (e1.trans g1.symm) (e2.trans g2.symm)
        rw [← g1, ← g2]
        exact this
theorem my_dec (hC : mr_C S a_clues) (hA : mr_A a_around) {p : Bool} {x1 : Int32} (hp : (p = true ∧ x1 = 1) ∨ (p = false ∧ x1 = 0)) {post : Int32 → SY → Prop}
    (h0 : ∀ M F, ml_S mu_N (mu_v S) (mu_k a_clues) p false (bt M) (bt F) → post (-3) (f_total, f_edgeCount, f_coveredCount, f_known, M, F, a_clues, a_around, a_edge, a_found, a_foundWith))
    (h1 : ∀ M F, me_lo M → me_lo F → ml_S mu_N (mu_v S) (mu_k a_clues) p true (bt M) (bt F) → post (nI (me_c (M ||| F))) (f_total, f_edgeCount, f_coveredCount, f_known, M, F, a_clues, a_around, a_edge, a_found, a_foundWith)) :
    ∀ (k : Nat) (M F b : Int32), mu_I S a_clues p M F → 20 ≤ mu_c M F + k → b ≠ nI (mu_c M F) → wY_decide_12 post x1 (k + 2) b f_total f_edgeCount f_coveredCount f_known M F a_clues a_around a_edge a_found a_foundWith := by
  have fin : ∀ (k : Nat) (M F : Int32), mu_I S a_clues p M F → ml_S mu_N (mu_v S) (mu_k a_clues) p true (bt M) (bt F) → wY_decide_12 post x1 (k + 1) (nI (mu_c M F)) f_total f_edgeCount f_coveredCount f_known M F a_clues a_around a_edge a_found a_foundWith := by
    intro k M F hI hS
    rw [wY_decide_12]
    refine my_bits (mr_orl hI.2.1 hI.2.2) (br_t rfl (my_clash hC hA hI (fun hb => br_f mx_10 (h0 _ _ (mu_bad hb))) (fun _ => br_t rfl (h1 M F hI.2.1 hI.2.2 hS))))
  intro k
  induction k with
  | zero =>
    intro M F b hI hc hb
    rw [wY_decide_12]
    refine my_bits (mr_orl hI.2.1 hI.2.2) (br_f hb (my_bits (mr_orl hI.2.1 hI.2.2) (my_round hC hA hp hI (fun M' F' g => h0 _ _ (mu_bad g)) (fun M' F' g1 g2 g3 => ?_))))
    have c1 := mu_cm g2
    have c2 := mu_c20 (M' ||| F')
    obtain ⟨e1, e2⟩ := mu_eqc hI g1 g2 (by simp only [mu_c] at *; omega)
    obtain ⟨f1, f2⟩ := g3 e1 e2
    rw [e1, e2]
    exact fin 0 M F hI (mu_fin hI f1 f2)
  | succ k ih =>
    intro M F b hI hc hb
    rw [wY_decide_12]
    refine my_bits (mr_orl hI.2.1 hI.2.2) (br_f hb (my_bits (mr_orl hI.2.1 hI.2.2) (my_round hC hA hp hI (fun M' F' g => h0 _ _ (mu_bad g)) (fun M' F' g1 g2 g3 => ?_))))
    have c1 := mu_cm g2
    have c2 := mu_c20 (M' ||| F')
    have c3 := mu_c20 (M ||| F)
    by_cases z : mu_c M' F' = mu_c M F
    · obtain ⟨e1, e2⟩ := mu_eqc hI g1 g2 z
      obtain ⟨f1, f2⟩ := g3 e1 e2
      rw [e1, e2]
      exact fin (k + 1) M F hI (mu_fin hI f1 f2)
    · refine ih M' F' _ g1 (by omega) (fun y => z ?_)
      simp only [mu_c] at *
      exact ((nI_eq (by omega) (by omega)).mp y).symm
theorem my_decide (hC : mr_C S a_clues) (hA : mr_A a_around) {p : Bool} {x1 : Int32} (hp : (p = true ∧ x1 = 1) ∨ (p = false ∧ x1 = 0)) {post : Int32 → SY → Prop}
    (h0 : ∀ M F, ml_S mu_N (mu_v S) (mu_k a_clues) p false (bt M) (bt F) → post (-3) (f_total, f_edgeCount, f_coveredCount, f_known, M, F, a_clues, a_around, a_edge, a_found, a_foundWith))
    (h1 : ∀ M F, me_lo M → me_lo F → ml_S mu_N (mu_v S) (mu_k a_clues) p true (bt M) (bt F) → post (nI (me_c (M ||| F))) (f_total, f_edgeCount, f_coveredCount, f_known, M, F, a_clues, a_around, a_edge, a_found, a_foundWith)) : wpY_decide post (f_total, f_edgeCount, f_coveredCount, f_known, f_sureMines, f_sureFree, a_clues, a_around, a_edge, a_found, a_foundWith) x1 := by
  refine ⟨20 + 2, my_dec hC hA hp h0 h1 20 0 0 (-1) (mu_I0 _ _ _) (by omega) (fun z => ?_)⟩
  have : mu_c 0 0 = 0 := by simp only [mu_c, Int32.or_zero]; exact my_c0
  rw [this] at z
  exact absurd z (by decide)
end
end
section
/-! the reference's search -/
theorem my_cnt (t : Nat → Bool) : ∀ (l : List Nat), l.Nodup → (∀ e, e ∈ l → e < 20) → mb_cn (fun j => t j && decide (j ∈ l)) 20 = l.countP t
  | [], _, _ => by
    rw [mb_of0 (fun i _ => by simp)]
    rfl
  | e :: l, nd, h => by
    rw [List.nodup_cons] at nd
    have ih := my_cnt t l nd.2 (fun x hx => h x (by simp [hx]))
    rw [List.countP_cons, ← ih]
    by_cases z : t e = true
    · rw [if_pos z]
      refine mb_one (a := e) ?_ ?_ (h e (by simp)) (fun i _ hn => ?_)
      · simp [nd.1]
      · simp [z]
      · simp [hn]
    · rw [if_neg z, Nat.add_zero]
      refine mb_eq (fun i _ => ?_)
      by_cases y : i = e
      · subst y
        have : t i = false := by simpa using z
        simp [this]
      · simp [y]
/-- the reference's list of edge cells -/
def my_Ed (E : List Nat) (ec : Int32) (ae : Nat → Int32) : Prop := ec = nI E.length ∧ E.length ≤ 20 ∧ E.Nodup ∧ (∀ e, e ∈ E → e < 20) ∧ ∀ i e, E[i]? = some e → ae i = nI e
def my_ok (S : Int32) (ac : Nat → Int32) (M : Int32) (es : List Nat) : Prop := ∀ q, q < 20 → bt S q = true → (me_c (me_t q &&& M) : Int) ≤ mu_k ac q ∧ mu_k ac q ≤ (me_c (me_t q &&& M) : Int) + (my_n q es : Int)
section
variable {f_total f_edgeCount f_coveredCount f_known f_sureMines f_sureFree : Int32} {a_clues a_around a_edge a_found a_foundWith : Nat → Int32}
variable {S : Int32} {E : List Nat}
theorem my_can (hC : mr_C S a_clues) (hA : mr_A a_around) (hE : my_Ed E f_edgeCount a_edge) {M : Int32} (hM : me_lo M) {d : Nat} (hd : d ≤ E.length) {post : Int32 → Prop} (h1 : my_ok S a_clues M (E.drop d) → post 1)
    (h0 : ¬ my_ok S a_clues M (E.drop d) → post 0) : wpY_canBe post (f_total, f_edgeCount, f_coveredCount, f_known, f_sureMines, f_sureFree, a_clues, a_around, a_edge, a_found, a_foundWith) M (nI d) := by
  obtain ⟨rfl, hl, hn, h20, hae⟩ := hE
  refine pk_loop (σ := Int32) (fun n i x => wY_canBe_5 post M f_total (nI E.length) f_coveredCount f_known f_sureMines f_sureFree a_clues a_around a_edge a_found a_foundWith n x (nI i)) (fun i x => (me_lo x ∧ ∀ j, j < 20 → (bt x j = true ↔ ∃ t, d ≤ t ∧ t < i ∧ E[t]? = some j)) ∧ d ≤ i) E.length d 0 hd ⟨⟨mr_0l, fun j _ => ⟨fun z => (by rw [b_0] at z; cases z), fun ⟨t, h1, h2, _⟩ => (by omega)⟩⟩, Nat.le_refl d⟩ (fun n x hx => ?_) (fun n i x hi hx hk => ?_)
  · refine br_t (nI_le (Nat.le_refl _) (by omega)) ?_
    have ec : ∀ q, q < 20 → me_c (me_t q &&& x) = my_n q (E.drop d) := by
      intro q hq
      rw [my_n, ← my_cnt (bt (me_t q)) (E.drop d) (hn.sublist (List.drop_sublist d E)) (fun e he => h20 e (List.mem_of_mem_drop he))]
      refine mb_eq (fun j hj => ?_)
      rw [b_and]
      congr 1
      have iff1 := hx.1.2 j hj
      have iff2 : j ∈ E.drop d ↔ ∃ t, d ≤ t ∧ t < E.length ∧ E[t]? = some j := by
        rw [List.mem_iff_getElem?]
        constructor
        · rintro ⟨t, ht⟩
          rw [List.getElem?_drop] at ht
          exact ⟨d + t, by omega, (List.getElem?_eq_some_iff.mp ht).1, ht⟩
        · rintro ⟨t, h1, h2, h3⟩
          refine ⟨t - d, ?_⟩
          rw [List.getElem?_drop, show d + (t - d) = t by omega]
          exact h3
      cases hb : bt x j
      · symm
        rw [decide_eq_false_iff_not, iff2, ← iff1, hb]
        simp
      · symm
        rw [decide_eq_true_iff, iff2, ← iff1, hb]
    refine loop_0 (σ := Unit) (fun n i _ => wY_canBe_35 post M x f_total (nI E.length) f_coveredCount f_known f_sureMines f_sureFree a_clues a_around a_edge a_found a_foundWith n (nI i)) (fun i _ => ∀ q, q < i → bt S q = true → (me_c (me_t q &&& M) : Int) ≤ mu_k a_clues q ∧ mu_k a_clues q ≤ (me_c (me_t q &&& M) : Int) + (my_n q (E.drop d) : Int)) 20 () (fun q hq => by omega) (fun n s hs => ?_) (fun n i s hi hs hk => ?_)
    · exact br_t (nI_le (a := 20) (by omega) (by omega)) (h1 hs)
    · have vi := vp_in_nI hi (N := 20) (by omega)
      refine br_f (mx_20 hi) ⟨vi, ?_⟩
      rw [nI_clamp (by omega), hA i hi]
      refine my_bits (mr_andl (mr_tl hi) _) ⟨vi, ?_⟩
      have c1 := mu_c20 (me_t i &&& M)
      have c2 := mu_c20 (me_t i &&& x)
      cases hb : bt S i
      · refine br_t (mr_lt hC hi hb) (br_f mx_10 (nm_r (nI_1 i) (hk () (fun q hq hs' => ?_))))
        rcases Nat.lt_or_ge q i with y | y
        · exact hs q y hs'
        · have : q = i := by omega
          subst this
          rw [hb] at hs'; cases hs'
      · obtain ⟨k, hk8, ek⟩ := (hC.2 i hi).1 hb
        have km : mu_k a_clues i = (k : Int) := by rw [mu_k, ek, nI_toInt (by omega)]
        have bad : (k < me_c (me_t i &&& M) ∨ me_c (me_t i &&& M) + me_c (me_t i &&& x) < k) → post 0 := fun z => h0 (fun y => by
          have := y i hi hb
          rw [km, ← ec i hi] at this
          omega)
        refine br_f (mr_nlt hC hi hb) ⟨vi, ?_⟩
        rw [ek]
        refine pk_lt k (me_c (me_t i &&& M)) (fun z => br_t rfl (bad (Or.inl z))) (fun z => ⟨vi, ?_⟩)
        refine my_bits (mr_andl (mr_tl hi) _) ⟨vi, ?_⟩
        rw [nI_add]
        refine pk_lt (me_c (me_t i &&& M) + me_c (me_t i &&& x)) k (fun z => br_t rfl (bad (Or.inr z))) (fun z => br_f mx_10 (nm_r (nI_1 i) (hk () (fun q hq hs' => ?_))))
        rcases Nat.lt_or_ge q i with y | y
        · exact hs q y hs'
        · have : q = i := by omega
          subst this
          rw [km, ← ec q hi]
          omega
  · have hi' : E[i]? = some E[i] := List.getElem?_eq_getElem hi
    have e20 : E[i] < 20 := h20 _ (List.getElem_mem hi)
    refine br_f (nI_ge hi (by omega)) ⟨vp_in_nI (by omega) (by omega), nm_r (e' := x ||| my_bit E[i]) ?_ (nm_r (nI_1 i) (hk _ ⟨⟨mr_orl hx.1.1 (my_bitlo e20), fun j hj => ?_⟩, Nat.le_succ_of_le hx.2⟩))⟩
    · rw [nI_clamp (by omega), hae i _ hi']; rfl
    · rw [b_or, my_bitb (by omega), Bool.or_eq_true, hx.1.2 j hj, decide_eq_true_iff]
      constructor
      · rintro (⟨t, h1, h2, h3⟩ | h)
        · exact ⟨t, h1, by omega, h3⟩
        · exact ⟨i, hx.2, by omega, by rw [h]; exact hi'⟩
      · rintro ⟨t, h1, h2, h3⟩
        rcases Nat.lt_or_ge t i with y | y
        · exact Or.inl ⟨t, h1, y, h3⟩
        · have : t = i := by omega
          subst this
          rw [hi'] at h3
          exact Or.inr (Option.some.inj h3).symm
/-- one set noted -/
def my_fw (M : Int32) : List Nat → (Nat → Int32) → (Nat → Int32)
  | [], f => f
  | e :: es, f => my_fw M es (upd f (21 * e + me_c M) (f (21 * e + me_c M) + (if bt M e = true then 1 else 0)))
theorem my_fws (M : Int32) : ∀ (l : List Nat) (e : Nat) (f : Nat → Int32), my_fw M (l ++ [e]) f = upd (my_fw M l f) (21 * e + me_c M) (my_fw M l f (21 * e + me_c M) + (if bt M e = true then 1 else 0))
  | [], e, f => rfl
  | a :: l, e, f => by rw [List.cons_append, my_fw, my_fws M l e, my_fw]
theorem my_fwn {M : Int32} : ∀ (l : List Nat) (f : Nat → Int32) (c m : Nat), m < 21 → c ∉ l → my_fw M l f (21 * c + m) = f (21 * c + m)
  | [], f, c, m, _, _ => rfl
  | e :: l, f, c, m, hm, h => by
    simp only [List.mem_cons, not_or] at h
    have hc := mu_c20 M
    rw [my_fw, my_fwn l _ c m hm h.2, pk_un (by omega)]
theorem my_fwv {M : Int32} : ∀ (l : List Nat) (f : Nat → Int32) (c m : Nat), m < 21 → c ∈ l → l.Nodup → my_fw M l f (21 * c + m) = f (21 * c + m) + nI (if m = me_c M ∧ bt M c = true then 1 else 0)
  | [], f, c, m, _, h, _ => by simp at h
  | e :: l, f, c, m, hm, h, nd => by
    rw [List.nodup_cons] at nd
    have hc := mu_c20 M
    by_cases z : c = e
    · subst z
      rw [my_fw, my_fwn l _ c m hm nd.1]
      by_cases y : m = me_c M
      · subst y
        rw [pk_us]
        by_cases x : bt M c = true
        · simp only [x, and_self, if_true]; rfl
        · simp only [x, and_false, if_false]; rfl
      · rw [pk_un (by omega), if_neg (fun w => y w.1), nI_0, Int32.add_zero]
    · have hm' : c ∈ l := by
        rcases List.mem_cons.mp h with y | y
        · exact absurd y z
        · exact y
      rw [my_fw, my_fwv l _ c m hm hm' nd.2, pk_un (by omega)]
theorem my_note (hE : my_Ed E f_edgeCount a_edge) {M : Int32} (hM : me_lo M) {post : SY → Prop} (h : post (f_total, f_edgeCount, f_coveredCount, f_known, f_sureMines, f_sureFree, a_clues, a_around, a_edge, upd a_found (me_c M) (a_found (me_c M) + 1), my_fw M E a_foundWith)) : wpY_note post (f_total, f_edgeCount, f_coveredCount, f_known, f_sureMines, f_sureFree, a_clues, a_around, a_edge, a_found, a_foundWith) M := by
  obtain ⟨rfl, hl, hn, h20, hae⟩ := hE
  have hc := mu_c20 M
  unfold wpY_note
  refine my_bits hM ⟨vp_in_nI (by omega) (by omega), vp_in_nI (by omega) (by omega), ?_⟩
  rw [nI_clamp (by omega)]
  refine nm_e ?_
  refine loop_0 (σ := Nat → Int32) (fun n i f => wY_note_18 post M (nI (me_c M)) f_total (nI E.length) f_coveredCount f_known f_sureMines f_sureFree n (nI i) a_clues a_around a_edge (upd a_found (me_c M) (a_found (me_c M) + 1)) f) (fun i f => f = my_fw M (E.take i) a_foundWith) E.length a_foundWith rfl (fun n f hf => ?_) (fun n i f hi hf hk => ?_)
  · subst hf
    rw [List.take_length]
    exact br_t (nI_le (Nat.le_refl _) (by omega)) h
  · subst hf
    have hi' : E[i]? = some E[i] := List.getElem?_eq_getElem hi
    have e20 : E[i] < 20 := h20 _ (List.getElem_mem hi)
    have ix : (21 : Int32) * nI E[i] + nI (me_c M) = nI (21 * E[i] + me_c M) := by
      rw [show (21 : Int32) = nI 21 from rfl, pk_mul, nI_add]
    have vx : vp_in (nI (21 * E[i] + me_c M)) 420 := vp_in_nI (by omega) (by omega)
    have nx : my_fw M (E.take (i + 1)) a_foundWith = upd (my_fw M (E.take i) a_foundWith) (21 * E[i] + me_c M) (my_fw M (E.take i) a_foundWith (21 * E[i] + me_c M) + (if bt M E[i] = true then 1 else 0)) := by
      rw [← my_fws]
      congr 1
      exact List.take_succ_eq_append_getElem hi
    refine br_f (nI_ge hi (by omega)) ⟨vp_in_nI (by omega) (by omega), nm_r (e' := nI E[i]) (by rw [nI_clamp (by omega)]; exact hae i _ hi') ?_⟩
    rw [ix]
    cases hb : bt M E[i]
    · refine br_f (mx_t1' (by omega) hb) ⟨vx, vx, nm_e (nm_r (nI_1 i) (hk _ ?_))⟩
      rw [nx, hb, nI_clamp (by omega), if_neg (by simp), Int32.add_zero]
    · refine br_t (mx_t1 (by omega) hb) ⟨vx, vx, nm_e (nm_r (nI_1 i) (hk _ ?_))⟩
      rw [nx, hb, nI_clamp (by omega), if_pos rfl]
/-- the way back -/
def my_BK (post : SY → Prop) (f_total f_edgeCount f_coveredCount f_known f_sureMines f_sureFree : Int32) (a_clues a_around a_edge a_found a_foundWith : Nat → Int32) (M x2 : Int32) : Prop := ∃ n n65, wY_goThrough_65 post (wY_goThrough_6 post 1 n) 1 f_total f_edgeCount f_coveredCount f_known f_sureMines f_sureFree a_clues a_around a_edge a_found a_foundWith n65 M x2
theorem my_go (hS : me_lo S) (hC : mr_C S a_clues) (hA : mr_A a_around) (hE : my_Ed E f_edgeCount a_edge) (post : SY → Prop) : ∀ (es : List Nat) (d : Nat) (M : Int32) (fd fw : Nat → Int32), E.drop d = es → d ≤ E.length → me_lo M → (∀ e, e ∈ es → bt M e = false) →
    ∃ fd' fw' : Nat → Int32, (∀ m, m < 21 → fd' m = fd m + nI (my_A S (mu_k a_clues) es M m)) ∧ (∀ c, c ∈ E → ∀ m, m < 21 → fw' (21 * c + m) = fw (21 * c + m) + nI (my_D S (mu_k a_clues) c es M m)) ∧
      (my_BK post f_total f_edgeCount f_coveredCount f_known f_sureMines f_sureFree a_clues a_around a_edge fd' fw' M (nI d + (-1)) → ∃ n, wY_goThrough_6 post 1 n M (nI d) f_total f_edgeCount f_coveredCount f_known f_sureMines f_sureFree a_clues a_around a_edge fd fw) := by
  have hE' := hE
  obtain ⟨rfl, hl, hn, h20, hae⟩ := hE
  intro es
  induction es with
  | nil =>
    intro d M fd fw hes hd hM hf
    have hd' : d = E.length := by
      have := List.drop_eq_nil_iff.mp hes
      omega
    by_cases ok : my_ok S a_clues M (E.drop d)
    · have lf : ∀ q, q < 20 → bt S q = true → mu_k a_clues q = (me_c (me_t q &&& M) : Int) := by
        intro q hq hs
        have := ok q hq hs
        rw [hes] at this
        simp only [my_n, List.countP_nil] at this
        omega
      refine ⟨upd fd (me_c M) (fd (me_c M) + 1), my_fw M E fw, fun m hm => ?_, fun c hc m hm => ?_, fun ⟨n, n65, hb⟩ => ⟨n + 1, ?_⟩⟩
      · rw [my_A0 _ _ lf]
        by_cases z : m = me_c M
        · subst z; rw [pk_us, if_pos rfl]; rfl
        · rw [pk_un z, if_neg z, nI_0, Int32.add_zero]
      · rw [my_D0 _ _ _ lf]
        exact my_fwv E fw c m hm hc hn
      · refine br_f (nI_pos (by omega)) (br_f mx_10 (my_can hC hA hE' hM hd (fun _ => br_f mx_10 (br_f mx_10 (br_t (by rw [hd']) (my_note hE' hM (br_t rfl (nm_e ⟨n65, hb⟩)))))) (fun z => absurd ok z)))
    · have z0 : ∀ m, my_A S (mu_k a_clues) [] M m = 0 := by
        intro m
        have : ∃ q, q < 20 ∧ bt S q = true ∧ ¬ ((me_c (me_t q &&& M) : Int) ≤ mu_k a_clues q ∧ mu_k a_clues q ≤ (me_c (me_t q &&& M) : Int) + (my_n q (E.drop d) : Int)) := by
          apply Classical.byContradiction
          intro z
          refine ok (fun q hq hs => ?_)
          apply Classical.byContradiction
          intro y
          exact z ⟨q, hq, hs, y⟩
        obtain ⟨q, hq, hs, y⟩ := this
        rw [hes] at y
        exact my_Az _ hq hs (fun e he => by simp at he) (by omega) m
      refine ⟨fd, fw, fun m _ => by rw [z0 m, nI_0, Int32.add_zero], fun c _ m _ => by rw [my_Dz c (z0 m), nI_0, Int32.add_zero], fun ⟨n, n65, hb⟩ => ⟨n + 1, ?_⟩⟩
      exact br_f (nI_pos (by omega)) (br_f mx_10 (my_can hC hA hE' hM hd (fun z => absurd z ok) (fun _ => br_t rfl (br_t rfl (br_t rfl (nm_e ⟨n65, hb⟩))))))
  | cons e es ih =>
    intro d M fd fw hes hd hM hf
    have hd' : d < E.length := by
      rcases Nat.lt_or_ge d E.length with z | z
      · exact z
      · rw [List.drop_eq_nil_iff.mpr z] at hes; cases hes
    have hd2 := List.drop_eq_getElem_cons hd'
    rw [hes] at hd2
    have ee : e = E[d] := (List.cons.inj hd2).1
    have hes' : E.drop (d + 1) = es := (List.cons.inj hd2).2.symm
    have ei : E[d]? = some e := by rw [ee]; exact List.getElem?_eq_getElem hd'
    have e20 : e < 20 := by rw [ee]; exact h20 _ (List.getElem_mem hd')
    have nd : (e :: es).Nodup := by rw [← hes]; exact hn.sublist (List.drop_sublist d E)
    rw [List.nodup_cons] at nd
    have hMe : bt M e = false := hf e (by simp)
    by_cases ok : my_ok S a_clues M (E.drop d)
    · obtain ⟨fd1, fw1, a1, b1, c1⟩ := ih (d + 1) M fd fw hes' (by omega) hM (fun x hx => hf x (by simp [hx]))
      obtain ⟨fd2, fw2, a2, b2, c2⟩ := ih (d + 1) (M ||| my_bit e) fd1 fw1 hes' (by omega) (mr_orl hM (my_bitlo e20)) (fun x hx => by
        have hne : ¬ x = e := fun z => nd.1 (z ▸ hx)
        rw [b_or, hf x (by simp [hx]), my_bitb (by omega), decide_eq_false hne]; rfl)
      refine ⟨fd2, fw2, fun m hm => ?_, fun c hc m hm => ?_, fun hb => ?_⟩
      · rw [a2 m hm, a1 m hm, my_Ac hS _ _ _ e20 hMe, ← nI_add, Int32.add_assoc]
      · rw [b2 c hc m hm, b1 c hc m hm, my_Dc hS _ _ _ e20 hMe, ← nI_add, Int32.add_assoc]
      · have vd : vp_in (nI d) 20 := vp_in_nI (by omega) (by omega)
        have ed : a_edge (nI d).toNatClampNeg = nI e := by rw [nI_clamp (by omega)]; exact hae d e ei
        have hdm : nI (d + 1) + (-1) = nI d := pk_m1 d
        have back : my_BK post f_total (nI E.length) f_coveredCount f_known f_sureMines f_sureFree a_clues a_around a_edge fd2 fw2 (M ||| my_bit e) (nI (d + 1) + (-1)) := by
          obtain ⟨n, n65, hb⟩ := hb
          refine ⟨n, n65 + 1, ?_⟩
          rw [hdm]
          refine br_f (nI_pos (by omega)) ⟨vd, ?_⟩
          rw [ed]
          refine br_t (mx_t1 (by omega) (by rw [b_or, my_bitb (by omega)]; simp)) ⟨vd, nm_r (e' := M) ?_ (nm_e hb)⟩
          show (M ||| my_bit e) &&& (my_bit e ^^^ (-1)) = M
          refine b_ext (fun j hj => ?_)
          rw [b_and, b_or, mr_not _ hj, my_bitb (by omega)]
          by_cases z : j = e
          · subst z; simp [hMe]
          · simp [z]
        obtain ⟨n2, g2⟩ := c2 back
        have mid : my_BK post f_total (nI E.length) f_coveredCount f_known f_sureMines f_sureFree a_clues a_around a_edge fd1 fw1 M (nI (d + 1) + (-1)) := by
          refine ⟨n2, 1, ?_⟩
          rw [hdm]
          refine br_f (nI_pos (by omega)) ⟨vd, ?_⟩
          rw [ed]
          refine br_f (mx_t1' (by omega) hMe) (br_f (nI_pos (by omega)) ⟨vd, ?_⟩)
          rw [ed]
          exact nm_e (nm_r (nI_1 d) g2)
        obtain ⟨n1, g1⟩ := c1 mid
        refine ⟨n1 + 1, ?_⟩
        refine br_f (nI_pos (by omega)) (br_f mx_10 (my_can hC hA hE' hM hd (fun _ => br_f mx_10 (br_f mx_10 (br_f ?_ (br_f mx_10 (nm_r (nI_1 d) g1))))) (fun z => absurd ok z)))
        intro z
        have := (nI_eq (by omega) (by omega)).mp z
        omega
    · have z0 : ∀ m, my_A S (mu_k a_clues) (e :: es) M m = 0 := by
        intro m
        have : ∃ q, q < 20 ∧ bt S q = true ∧ ¬ ((me_c (me_t q &&& M) : Int) ≤ mu_k a_clues q ∧ mu_k a_clues q ≤ (me_c (me_t q &&& M) : Int) + (my_n q (E.drop d) : Int)) := by
          apply Classical.byContradiction
          intro z
          refine ok (fun q hq hs => ?_)
          apply Classical.byContradiction
          intro y
          exact z ⟨q, hq, hs, y⟩
        obtain ⟨q, hq, hs, y⟩ := this
        rw [hes] at y
        refine my_Az _ hq hs (fun x hx => ?_) (by omega) m
        rw [← hes] at hx
        exact h20 x (List.mem_of_mem_drop hx)
      refine ⟨fd, fw, fun m _ => by rw [z0 m, nI_0, Int32.add_zero], fun c _ m _ => by rw [my_Dz c (z0 m), nI_0, Int32.add_zero], fun ⟨n, n65, hb⟩ => ⟨n + 1, ?_⟩⟩
      exact br_f (nI_pos (by omega)) (br_f mx_10 (my_can hC hA hE' hM hd (fun z => absurd z ok) (fun _ => br_t rfl (br_t rfl (br_t rfl (nm_e ⟨n65, hb⟩))))))
/-- what the reference holds when its search is known -/
def mr_Y (S : Int32) (ac : Nat → Int32) (ec cc : Int32) (fd fw : Nat → Int32) : Prop := ec = nI (me_E S).length ∧ cc = nI ((me_E S).length + me_R S) ∧ (∀ m, m < 21 → fd m = nI (me_F S (mu_k ac) m)) ∧ (∀ c, c ∈ me_E S → ∀ m, m < 21 → fw (21 * c + m) = nI (me_Fc S (mu_k ac) c m))
theorem my_through (hS : me_lo S) (hC : mr_C S a_clues) (hA : mr_A a_around) (hE : my_Ed (me_E S) f_edgeCount a_edge) (hcc : f_coveredCount = nI ((me_E S).length + me_R S)) (hz : ∀ m, m < 21 → a_found m = 0) (hzw : ∀ k, k < 420 → a_foundWith k = 0) {post : SY → Prop}
    (h : ∀ fd fw, mr_Y S a_clues f_edgeCount f_coveredCount fd fw → post (f_total, f_edgeCount, f_coveredCount, f_known, f_sureMines, f_sureFree, a_clues, a_around, a_edge, fd, fw)) : wpY_goThrough post (f_total, f_edgeCount, f_coveredCount, f_known, f_sureMines, f_sureFree, a_clues, a_around, a_edge, a_found, a_foundWith) := by
  obtain ⟨fd, fw, h1, h2, h3⟩ := my_go hS hC hA hE post (me_E S) 0 0 a_found a_foundWith (by simp) (Nat.zero_le _) mr_0l (fun e _ => b_0 e)
  refine h3 ⟨1, 1, ?_⟩
  refine br_t (by decide) (br_t (by decide) (br_t (by decide) (h fd fw ⟨hE.1, hcc, fun m hm => ?_, fun c hc m hm => ?_⟩)))
  · rw [h1 m hm, hz m hm, my_A1, Int32.zero_add]
  · have := (me_E_mem.mp hc).1
    rw [h2 c hc m hm, hzw _ (by omega), my_D1 _ _ hc, Int32.zero_add]
theorem my_clear (hS : me_lo S) (hC : mr_C S a_clues) (hA : mr_A a_around) (hE : my_Ed (me_E S) f_edgeCount a_edge) (hcc : f_coveredCount = nI ((me_E S).length + me_R S)) {post : SY → Prop}
    (h : ∀ fd fw, mr_Y S a_clues f_edgeCount f_coveredCount fd fw → post (f_total, f_edgeCount, f_coveredCount, f_known, f_sureMines, f_sureFree, a_clues, a_around, a_edge, fd, fw)) : ∃ n, wY_findAll_74 post f_total f_edgeCount f_coveredCount f_known f_sureMines f_sureFree n 0 a_clues a_around a_edge a_found a_foundWith := by
  refine loop_0 (σ := (Nat → Int32) × (Nat → Int32)) (fun n i s => wY_findAll_74 post f_total f_edgeCount f_coveredCount f_known f_sureMines f_sureFree n (nI i) a_clues a_around a_edge s.1 s.2) (fun i s => (∀ m, m < 21 → m < i → s.1 m = 0) ∧ (∀ k, k < i → s.2 k = 0)) 420 (a_found, a_foundWith) ⟨fun m _ z => by omega, fun k z => by omega⟩ (fun n s hs => ?_) (fun n i s hi hs hk => ?_)
  · exact br_t (nI_le (a := 420) (by omega) (by omega)) (my_through hS hC hA hE hcc (fun m hm => hs.1 m hm (by omega)) (fun k hk => hs.2 k hk) h)
  · have er : nI i - nI i / 21 * 21 = nI (i % 21) := pk_rem (a := i) (d := 21) (by omega) (by omega) (by omega)
    refine br_f (nI_ge (b := 420) hi (by omega)) ⟨vp_in_nI hi (by omega), nm_r (e' := upd s.2 i 0) (by rw [nI_clamp (by omega)]) ⟨by decide, ?_⟩⟩
    rw [er]
    refine ⟨vp_in_nI (Nat.mod_lt _ (by omega)) (by omega), nm_r (e' := upd s.1 (i % 21) 0) (by rw [nI_clamp (by omega)]) (nm_r (nI_1 i) (hk (upd s.1 (i % 21) 0, upd s.2 i 0) ⟨fun m hm hmi => ?_, fun k hki => ?_⟩))⟩
    · dsimp only
      by_cases z : m = i % 21
      · subst z; exact pk_us
      · rw [pk_un z]
        exact hs.1 m hm (by omega)
    · dsimp only
      by_cases z : k = i
      · subst z; exact pk_us
      · rw [pk_un z]
        exact hs.2 k (by omega)
theorem my_findAll (hC : mr_C S a_clues) (hA : mr_A a_around) {post : SY → Prop} (hk : f_known = 0 ∨ mr_Y S a_clues f_edgeCount f_coveredCount a_found a_foundWith)
    (h : ∀ ec cc kn ae fd fw, kn ≠ 0 → mr_Y S a_clues ec cc fd fw → post (f_total, ec, cc, kn, f_sureMines, f_sureFree, a_clues, a_around, ae, fd, fw)) : wpY_findAll post (f_total, f_edgeCount, f_coveredCount, f_known, f_sureMines, f_sureFree, a_clues, a_around, a_edge, a_found, a_foundWith) := by
  by_cases z : f_known = 0
  · refine br_t z (my_cov hC (my_bits (mr_cvl S) ?_))
    have ecv : me_c (mr_cv S) = (me_E S).length + me_R S := by
      rw [me_ER]
      exact mb_eq (fun j hj => by rw [mr_cvb S (by omega), decide_eq_true hj]; rfl)
    rw [ecv]
    refine loop_0 (σ := Int32 × (Nat → Int32)) (fun n i s => wY_findAll_32 post f_total (nI ((me_E S).length + me_R S)) 1 f_sureMines f_sureFree n (nI i) s.1 a_clues a_around s.2 a_found a_foundWith) (fun i s => s.1 = nI ((List.range i).filter (me_ed S)).length ∧ ∀ t e, ((List.range i).filter (me_ed S))[t]? = some e → s.2 t = nI e) 20 (0, a_edge) ⟨rfl, fun t e he => by simp at he⟩ (fun n s hs => ?_) (fun n i s hi hs hk' => ?_)
    · refine br_t (nI_le (a := 20) (by omega) (by omega)) (my_clear hC.1 hC hA ⟨hs.1, ?_, me_E_nd S, fun e he => (me_E_mem.mp he).1, hs.2⟩ rfl (fun fd fw hY => h _ _ _ _ _ _ mx_10 hY))
      have := me_ER20 S
      omega
    · have hlen : ((List.range i).filter (me_ed S)).length ≤ i := by
        have := List.length_filter_le (me_ed S) (List.range i)
        simpa using this
      refine br_f (mx_20 hi) (my_edge hC hA hi (fun he => br_f mx_10 ⟨?_, nm_r (e' := upd s.2 ((List.range i).filter (me_ed S)).length (nI i)) (by rw [hs.1, nI_clamp (by omega)]) (nm_r (e' := nI (((List.range i).filter (me_ed S)).length + 1)) (by rw [hs.1, nI_1]) (nm_r (nI_1 i) (hk' (nI (((List.range i).filter (me_ed S)).length + 1), upd s.2 ((List.range i).filter (me_ed S)).length (nI i)) ⟨?_, fun t e ht => ?_⟩)))⟩) (fun he => br_t rfl (nm_r (nI_1 i) (hk' s ⟨?_, fun t e ht => ?_⟩))))
      · rw [hs.1]; exact vp_in_nI (by omega) (by omega)
      · rw [List.range_succ, List.filter_append, List.length_append]
        simp [he]
      · rw [List.range_succ, List.filter_append] at ht
        simp only [List.filter_cons, he, if_true, List.filter_nil] at ht
        dsimp only
        by_cases y : t = ((List.range i).filter (me_ed S)).length
        · subst y
          rw [List.getElem?_append_right (Nat.le_refl _)] at ht
          simp at ht
          rw [pk_us, ht]
        · rw [pk_un y]
          refine hs.2 t e ?_
          rcases Nat.lt_or_ge t ((List.range i).filter (me_ed S)).length with w | w
          · rw [List.getElem?_append_left w] at ht
            exact ht
          · rw [List.getElem?_append_right w] at ht
            have := (List.getElem?_eq_some_iff.mp ht).1
            simp at this
            omega
      · rw [List.range_succ, List.filter_append, List.length_append]
        simp [he]
        exact hs.1
      · rw [List.range_succ, List.filter_append] at ht
        simp only [List.filter_cons, he, List.filter_nil] at ht
        exact hs.2 t e (by simpa using ht)
  · exact br_f z (h _ _ _ _ _ _ z (hk.resolve_left z))
end
end
section
/-! the reference's counts -/
def mr_T (t : Int32) : Prop := t = -1 ∨ ∃ n, n ≤ 20 ∧ t = nI n
theorem mr_Tn {n : Nat} (h : n ≤ 20) : mr_T (nI n) := Or.inr ⟨n, h, rfl⟩
theorem my_p2 : ∀ s, s < 21 → (1 : Int32) <<< (nI s &&& 31) = nI (2 ^ s) := by decide +kernel
def my_ov (T : Int32) (s : Nat) (m : Nat) : Nat := if T.toInt < 0 then 2 ^ s else mg_C s (T.toInt - m)
theorem mr_Rp {S : Int32} {c : Nat} (hc : c < 20) (hs : bt S c = false) (he : me_ed S c = false) : 0 < me_R S := by
  rcases Nat.eq_zero_or_pos (me_R S) with z | z
  · have := mb_zero z c hc
    simp only [me_ot, me_ed, hs] at this he
    simp at this he
    exact absurd he this
  · exact z
section
variable {f_total f_edgeCount f_coveredCount f_known f_sureMines f_sureFree : Int32} {a_clues a_around a_edge a_found a_foundWith : Nat → Int32}
variable {S : Int32}
theorem my_others (hT : mr_T f_total) {s m : Nat} (hs : s ≤ 20) (hm : m ≤ 21) {post : Int32 → Prop} (h : post (nI (my_ov f_total s m))) : wpY_others post (f_total, f_edgeCount, f_coveredCount, f_known, f_sureMines, f_sureFree, a_clues, a_around, a_edge, a_found, a_foundWith) (nI s) (nI m) := by
  unfold my_ov at h
  rcases hT with rfl | ⟨n, hn, rfl⟩
  · refine br_f (by decide) ?_
    rw [my_p2 s (by omega)]
    rw [if_pos (by decide)] at h
    exact h
  · rw [nI_toInt (by omega), if_neg (by omega)] at h
    refine br_t (nI_pos' (by omega)) (my_choices hs (pk_sub_toInt (by omega) (by omega)) h)
theorem my_count (hC : mr_C S a_clues) (hA : mr_A a_around) (hT : mr_T f_total) (hk : f_known = 0 ∨ mr_Y S a_clues f_edgeCount f_coveredCount a_found a_foundWith) {post : Int32 → SY → Prop}
    (h : ∀ ec cc kn ae fd fw, kn ≠ 0 → mr_Y S a_clues ec cc fd fw → post (nI (me_Cnt S (mu_k a_clues) f_total.toInt)) (f_total, ec, cc, kn, f_sureMines, f_sureFree, a_clues, a_around, ae, fd, fw)) : wpY_count post (f_total, f_edgeCount, f_coveredCount, f_known, f_sureMines, f_sureFree, a_clues, a_around, a_edge, a_found, a_foundWith) := by
  unfold wpY_count
  refine my_findAll hC hA hk (fun ec cc kn ae fd fw hkn hY => ?_)
  have hER := me_ER20 S
  have er : cc - ec = nI (me_R S) := by
    rw [hY.1, hY.2.1, pk_sub (by omega), Nat.add_sub_cancel_left]
  refine loop_0 (σ := Int32) (fun n i x => wY_count_8 post f_total ec cc kn f_sureMines f_sureFree a_clues a_around ae fd fw n x (nI i)) (fun i x => x = nI (mg_sum (fun m => me_F S (mu_k a_clues) m * my_ov f_total (me_R S) m) i)) 21 0 rfl (fun n x hx => ?_) (fun n i x hi hx hk' => ?_)
  · subst hx
    have e : mg_sum (fun m => me_F S (mu_k a_clues) m * my_ov f_total (me_R S) m) 21 = me_Cnt S (mu_k a_clues) f_total.toInt := by
      unfold my_ov
      by_cases z : f_total.toInt < 0
      · simp only [z, if_true]; exact me_Y0 S _ z
      · simp only [z, if_false]; rw [me_Y1, me_Cnt, if_neg z]
    refine br_t (nI_le (a := 21) (by omega) (by omega)) ?_
    rw [e]
    exact h _ _ _ _ _ _ hkn hY
  · subst hx
    refine br_f (nI_ge (b := 21) hi (by omega)) ⟨vp_in_nI hi (by omega), ?_⟩
    rw [er]
    refine my_others hT (by omega) (by omega) (nm_r ?_ (nm_r (nI_1 i) (hk' _ rfl)))
    rw [nI_clamp (by omega), hY.2.2.1 i hi, pk_mul, nI_add]
    rfl
theorem my_mined (hC : mr_C S a_clues) (hA : mr_A a_around) (hT : mr_T f_total) (hk : f_known = 0 ∨ mr_Y S a_clues f_edgeCount f_coveredCount a_found a_foundWith) {c : Nat} (hc : c < 20) {post : Int32 → SY → Prop}
    (h : ∀ ec cc kn ae fd fw, kn ≠ 0 → mr_Y S a_clues ec cc fd fw → post (if bt S c = true then 0 else nI (me_Min S (mu_k a_clues) f_total.toInt c)) (f_total, ec, cc, kn, f_sureMines, f_sureFree, a_clues, a_around, ae, fd, fw)) : wpY_countMined post (f_total, f_edgeCount, f_coveredCount, f_known, f_sureMines, f_sureFree, a_clues, a_around, a_edge, a_found, a_foundWith) (nI c) := by
  unfold wpY_countMined
  refine my_findAll hC hA hk (fun ec cc kn ae fd fw hkn hY => ?_)
  have hER := me_ER20 S
  have er : cc - ec = nI (me_R S) := by
    rw [hY.1, hY.2.1, pk_sub (by omega), Nat.add_sub_cancel_left]
  have h' := h _ _ _ ae _ _ hkn hY
  have vc := vp_in_nI hc (N := 20) (by omega)
  refine nm_r er ?_
  cases hs : bt S c
  · rw [hs, if_neg (by simp)] at h'
    cases he : me_ed S c
    · have hR := mr_Rp hc hs he
      refine loop_0 (σ := Int32) (fun n i x => wY_countMined_19 post (nI c) (nI (me_R S)) f_total ec cc kn f_sureMines f_sureFree a_clues a_around ae fd fw n x (nI i)) (fun i x => x = nI (mg_sum (fun m => me_F S (mu_k a_clues) m * my_ov f_total (me_R S - 1) (m + 1)) i)) 21 0 rfl (fun n x hx => ?_) (fun n i x hi hx hk' => ?_)
      · subst hx
        have e : mg_sum (fun m => me_F S (mu_k a_clues) m * my_ov f_total (me_R S - 1) (m + 1)) 21 = me_Min S (mu_k a_clues) f_total.toInt c := by
          unfold my_ov
          by_cases z : f_total.toInt < 0
          · simp only [z, if_true]; exact me_Y4 S _ z (by rw [he]; simp)
          · simp only [z, if_false]; exact me_Y5 S _ z (by rw [he]; simp)
        refine br_t (nI_le (a := 21) (by omega) (by omega)) ?_
        rw [e]
        exact h'
      · subst hx
        refine br_f (nI_ge (b := 21) hi (by omega)) ⟨vc, ?_⟩
        rw [nI_clamp (n := c) (by omega)]
        refine br_f (mr_nge hC hc hs) (my_edge hC hA hc (fun z => by rw [he] at z; cases z) (fun _ => br_t rfl ⟨vp_in_nI hi (by omega), ?_⟩))
        rw [nI_1, show nI (me_R S) - 1 = nI (me_R S - 1) from pk_sub (b := 1) hR]
        refine my_others hT (by omega) (by omega) (nm_r ?_ (nm_e (hk' _ rfl)))
        rw [nI_clamp (by omega), hY.2.2.1 i hi, pk_mul, nI_add]
        rfl
    · refine loop_0 (σ := Int32) (fun n i x => wY_countMined_19 post (nI c) (nI (me_R S)) f_total ec cc kn f_sureMines f_sureFree a_clues a_around ae fd fw n x (nI i)) (fun i x => x = nI (mg_sum (fun m => me_Fc S (mu_k a_clues) c m * my_ov f_total (me_R S) m) i)) 21 0 rfl (fun n x hx => ?_) (fun n i x hi hx hk' => ?_)
      · subst hx
        have e : mg_sum (fun m => me_Fc S (mu_k a_clues) c m * my_ov f_total (me_R S) m) 21 = me_Min S (mu_k a_clues) f_total.toInt c := by
          unfold my_ov
          by_cases z : f_total.toInt < 0
          · simp only [z, if_true]; exact me_Y2 S _ z hc he
          · simp only [z, if_false]; exact me_Y3 S _ z hc he
        refine br_t (nI_le (a := 21) (by omega) (by omega)) ?_
        rw [e]
        exact h'
      · subst hx
        refine br_f (nI_ge (b := 21) hi (by omega)) ⟨vc, ?_⟩
        rw [nI_clamp (n := c) (by omega)]
        have ix : (21 : Int32) * nI c + nI i = nI (21 * c + i) := by
          rw [show (21 : Int32) = nI 21 from rfl, pk_mul, nI_add]
        refine br_f (mr_nge hC hc hs) (my_edge hC hA hc (fun _ => br_f mx_10 ?_) (fun z => by rw [he] at z; cases z))
        rw [ix]
        refine ⟨vp_in_nI (by omega) (by omega), my_others hT (by omega) (by omega) (nm_r ?_ (nm_r (nI_1 i) (hk' _ rfl)))⟩
        rw [nI_clamp (by omega), hY.2.2.2 c (me_E_mem.mpr ⟨hc, he⟩) i hi, pk_mul, nI_add]
        rfl
  · rw [hs, if_pos rfl] at h'
    refine ⟨1, br_f (by decide) ⟨vc, ?_⟩⟩
    rw [nI_clamp (by omega)]
    exact br_t (mr_ge hC hc hs) h'
theorem my_with (hC : mr_C S a_clues) (hA : mr_A a_around) (hT : mr_T f_total) (hk : f_known = 0 ∨ mr_Y S a_clues f_edgeCount f_coveredCount a_found a_foundWith) {n : Nat} (hn : n ≤ 20) {post : Int32 → SY → Prop}
    (hY : mr_Y S a_clues f_edgeCount f_coveredCount a_found a_foundWith) (h : post (nI (me_Cnt S (mu_k a_clues) n)) (f_total, f_edgeCount, f_coveredCount, f_known, f_sureMines, f_sureFree, a_clues, a_around, a_edge, a_found, a_foundWith)) : ∃ k, wY_withMines_35 post (nI n) f_total f_edgeCount f_coveredCount f_known f_sureMines f_sureFree a_clues a_around a_edge a_found a_foundWith k 0 0 := by
  have hER := me_ER20 S
  have er : f_coveredCount - f_edgeCount = nI (me_R S) := by
    rw [hY.1, hY.2.1, pk_sub (by omega), Nat.add_sub_cancel_left]
  refine loop_0 (σ := Int32) (fun k i x => wY_withMines_35 post (nI n) f_total f_edgeCount f_coveredCount f_known f_sureMines f_sureFree a_clues a_around a_edge a_found a_foundWith k x (nI i)) (fun i x => x = nI (mg_sum (fun m => me_F S (mu_k a_clues) m * mg_C (me_R S) ((n : Int) - m)) i)) 21 0 rfl (fun k x hx => ?_) (fun k i x hi hx hk' => ?_)
  · subst hx
    have e : mg_sum (fun m => me_F S (mu_k a_clues) m * mg_C (me_R S) ((n : Int) - m)) 21 = me_Cnt S (mu_k a_clues) n := by
      rw [me_Y1, me_Cnt, if_neg (by omega)]
    refine br_t (nI_le (a := 21) (by omega) (by omega)) ?_
    rw [e]
    exact h
  · subst hx
    refine br_f (nI_ge (b := 21) hi (by omega)) ⟨vp_in_nI hi (by omega), ?_⟩
    rw [er]
    refine my_choices (k := (n : Int) - i) (by omega) (pk_sub_toInt (by omega) (by omega)) (nm_r ?_ (nm_r (nI_1 i) (hk' _ rfl)))
    rw [nI_clamp (by omega), hY.2.2.1 i hi, pk_mul, nI_add]
    rfl
end
/-! sets of cells by a property -/
def mr_mask (p : Nat → Bool) : Nat → Int32
  | 0 => 0
  | n + 1 => if p n = true then mr_mask p n ||| my_bit n else mr_mask p n
theorem mr_maskb (p : Nat → Bool) : ∀ (n : Nat), n ≤ 32 → ∀ j, bt (mr_mask p n) j = (decide (j < n) && p j)
  | 0, _, j => by rw [mr_mask, b_0]; simp
  | n + 1, hn, j => by
    have ih := mr_maskb p n (by omega) j
    rw [mr_mask]
    by_cases z : j = n
    · subst z
      by_cases h : p j = true
      · rw [if_pos h, b_or, my_bitb (by omega)]; simp [h]
      · rw [if_neg h, ih]; simp at h ⊢; simp [h]
    · have : decide (j < n + 1) = decide (j < n) := decide_eq_decide.mpr ⟨fun h => by omega, fun h => by omega⟩
      rw [this]
      split
      · rw [b_or, my_bitb (by omega), decide_eq_false z, Bool.or_false, ih]
      · exact ih
/-- the least of the covered cells with the fewest -/
def mr_bs (S : Int32) (f : Nat → Nat) : Nat → Option Nat
  | 0 => none
  | n + 1 => if bt S n = true then mr_bs S f n else
      match mr_bs S f n with
      | none => some n
      | some b => if f n < f b then some n else some b
theorem mr_bsl (S : Int32) (f : Nat → Nat) : ∀ (n b : Nat), mr_bs S f n = some b → b < n
  | 0, b, h => by cases h
  | n + 1, b, h => by
    rw [mr_bs] at h
    have ih := mr_bsl S f n
    split at h
    · have := ih b h; omega
    · split at h
      · cases h; omega
      · rename_i x hx
        split at h
        · cases h; omega
        · cases h; have := ih b hx; omega
def mr_bv : Option Nat → Int32
  | none => -2
  | some b => nI b
section
variable {f_total f_edgeCount f_coveredCount f_known f_sureMines f_sureFree : Int32} {a_clues a_around a_edge a_found a_foundWith : Nat → Int32}
variable {S : Int32}
theorem my_cells (hC : mr_C S a_clues) (hA : mr_A a_around) (hT : mr_T f_total) (hk : f_known = 0 ∨ mr_Y S a_clues f_edgeCount f_coveredCount a_found a_foundWith) {w : Nat} (hw : w ≤ 2 ^ 20) {post : Int32 → SY → Prop}
    (h : ∀ ec cc kn ae fd fw, (kn = 0 ∨ mr_Y S a_clues ec cc fd fw) → post (mr_mask (fun c => !bt S c && decide (me_Min S (mu_k a_clues) f_total.toInt c = w)) 20) (f_total, ec, cc, kn, f_sureMines, f_sureFree, a_clues, a_around, ae, fd, fw)) : wpY_cellsWith post (f_total, f_edgeCount, f_coveredCount, f_known, f_sureMines, f_sureFree, a_clues, a_around, a_edge, a_found, a_foundWith) (nI w) := by
  refine loop_0 (σ := Int32 × Int32 × Int32 × Int32 × (Nat → Int32) × (Nat → Int32) × (Nat → Int32)) (fun n i s => wY_cellsWith_4 post (nI w) n s.1 (nI i) f_total s.2.1 s.2.2.1 s.2.2.2.1 f_sureMines f_sureFree a_clues a_around s.2.2.2.2.1 s.2.2.2.2.2.1 s.2.2.2.2.2.2)
    (fun i s => s.1 = mr_mask (fun c => !bt S c && decide (me_Min S (mu_k a_clues) f_total.toInt c = w)) i ∧ (s.2.2.2.1 = 0 ∨ mr_Y S a_clues s.2.1 s.2.2.1 s.2.2.2.2.2.1 s.2.2.2.2.2.2)) 20 (0, f_edgeCount, f_coveredCount, f_known, a_edge, a_found, a_foundWith) ⟨rfl, hk⟩ (fun n s hs => ?_) (fun n i s hi hs hk' => ?_)
  · have := h s.2.1 s.2.2.1 s.2.2.2.1 s.2.2.2.2.1 s.2.2.2.2.2.1 s.2.2.2.2.2.2 hs.2
    rw [← hs.1] at this
    exact br_t (nI_le (a := 20) (by omega) (by omega)) this
  · obtain ⟨x, ec, cc, kn, ae, fd, fw⟩ := s
    obtain ⟨q1, q2⟩ := hs
    dsimp only at q1 q2
    refine br_f (mx_20 hi) ⟨vp_in_nI hi (by omega), ?_⟩
    rw [nI_clamp (by omega)]
    cases hs : bt S i
    · refine br_f (mr_nge hC hi hs) (my_mined hC hA hT q2 hi (fun ec' cc' kn' ae' fd' fw' hkn hY => ?_))
      rw [hs, if_neg (by simp)]
      have hb := me_Mb S (mu_k a_clues) f_total.toInt i hi
      refine pk_eq (me_Min S (mu_k a_clues) f_total.toInt i) w (fun z => nm_e (nm_r (nI_1 i) (hk' (_, ec', cc', kn', ae', fd', fw') ⟨?_, Or.inr hY⟩))) (fun z => nm_r (nI_1 i) (hk' (_, ec', cc', kn', ae', fd', fw') ⟨?_, Or.inr hY⟩)) rfl rfl (by omega) (by omega)
      · rw [mr_mask, if_pos (by simp [hs, z]), ← q1]; rfl
      · rw [mr_mask, if_neg (by simp [hs, z]), ← q1]
    · refine br_t (mr_ge hC hi hs) (nm_r (nI_1 i) (hk' (x, ec, cc, kn, ae, fd, fw) ⟨?_, q2⟩))
      rw [mr_mask, if_neg (by simp [hs]), ← q1]
theorem my_bestl (hC : mr_C S a_clues) (hA : mr_A a_around) (hT : mr_T f_total) (hk : f_known = 0 ∨ mr_Y S a_clues f_edgeCount f_coveredCount a_found a_foundWith) {post : Int32 → SY → Prop}
    (h : ∀ ec cc kn ae fd fw, (kn = 0 ∨ mr_Y S a_clues ec cc fd fw) → post (mr_bv (mr_bs S (me_Min S (mu_k a_clues) f_total.toInt) 20)) (f_total, ec, cc, kn, f_sureMines, f_sureFree, a_clues, a_around, ae, fd, fw)) : ∃ n, wY_best_17 post n (-2) 0 0 f_total f_edgeCount f_coveredCount f_known f_sureMines f_sureFree a_clues a_around a_edge a_found a_foundWith := by
  refine loop_0 (σ := Int32 × Int32 × Int32 × Int32 × Int32 × (Nat → Int32) × (Nat → Int32) × (Nat → Int32)) (fun n i s => wY_best_17 post n s.1 s.2.1 (nI i) f_total s.2.2.1 s.2.2.2.1 s.2.2.2.2.1 f_sureMines f_sureFree a_clues a_around s.2.2.2.2.2.1 s.2.2.2.2.2.2.1 s.2.2.2.2.2.2.2)
    (fun i s => s.1 = mr_bv (mr_bs S (me_Min S (mu_k a_clues) f_total.toInt) i) ∧ (∀ b, mr_bs S (me_Min S (mu_k a_clues) f_total.toInt) i = some b → s.2.1 = nI (me_Min S (mu_k a_clues) f_total.toInt b)) ∧ (s.2.2.2.2.1 = 0 ∨ mr_Y S a_clues s.2.2.1 s.2.2.2.1 s.2.2.2.2.2.2.1 s.2.2.2.2.2.2.2)) 20 (-2, 0, f_edgeCount, f_coveredCount, f_known, a_edge, a_found, a_foundWith) ⟨rfl, fun b hb => (by cases hb), hk⟩ (fun n s hs => ?_) (fun n i s hi hs hk' => ?_)
  · have := h s.2.2.1 s.2.2.2.1 s.2.2.2.2.1 s.2.2.2.2.2.1 s.2.2.2.2.2.2.1 s.2.2.2.2.2.2.2 hs.2.2
    rw [← hs.1] at this
    exact br_t (nI_le (a := 20) (by omega) (by omega)) this
  · obtain ⟨x, y, ec, cc, kn, ae, fd, fw⟩ := s
    obtain ⟨q1, q2, q3⟩ := hs
    dsimp only at q1 q2 q3
    refine br_f (mx_20 hi) ⟨vp_in_nI hi (by omega), ?_⟩
    rw [nI_clamp (by omega)]
    cases hs : bt S i
    · refine br_f (mr_nge hC hi hs) (my_mined hC hA hT q3 hi (fun ec' cc' kn' ae' fd' fw' hkn hY => ?_))
      rw [hs, if_neg (by simp)]
      have hb := me_Mb S (mu_k a_clues) f_total.toInt i hi
      cases hbs : mr_bs S (me_Min S (mu_k a_clues) f_total.toInt) i with
      | none =>
        rw [hbs] at q1
        have e : mr_bs S (me_Min S (mu_k a_clues) f_total.toInt) (i + 1) = some i := by rw [mr_bs, hs, if_neg (by simp), hbs]
        refine br_t q1 (nm_r (nI_1 i) (hk' (nI i, _, ec', cc', kn', ae', fd', fw') ⟨?_, fun b hb => ?_, Or.inr hY⟩))
        · rw [e]; rfl
        · rw [e] at hb; cases hb; rfl
      | some b =>
        rw [hbs] at q1
        have hbl := mr_bsl _ _ _ _ hbs
        have hbb := me_Mb S (mu_k a_clues) f_total.toInt b (by omega)
        have hy := q2 b hbs
        have ne : ¬ x = -2 := by
          rw [q1]
          intro z
          have : (nI b).toInt = (-2 : Int32).toInt := by rw [← z]; rfl
          rw [nI_toInt (by omega)] at this
          have h2 : (-2 : Int32).toInt = -2 := by decide
          omega
        refine br_f ne ?_
        rw [hy]
        refine pk_le (me_Min S (mu_k a_clues) f_total.toInt b) (me_Min S (mu_k a_clues) f_total.toInt i) (fun z => nm_r (nI_1 i) (hk' (x, nI (me_Min S (mu_k a_clues) f_total.toInt b), ec', cc', kn', ae', fd', fw') ⟨?_, fun b' hb' => ?_, Or.inr hY⟩)) (fun z => nm_r (nI_1 i) (hk' (nI i, nI (me_Min S (mu_k a_clues) f_total.toInt i), ec', cc', kn', ae', fd', fw') ⟨?_, fun b' hb' => ?_, Or.inr hY⟩)) rfl rfl (by omega) (by omega)
        · have e : mr_bs S (me_Min S (mu_k a_clues) f_total.toInt) (i + 1) = some b := by rw [mr_bs, hs, if_neg (by simp), hbs]; exact if_neg (by omega)
          rw [e]; exact q1
        · have e : mr_bs S (me_Min S (mu_k a_clues) f_total.toInt) (i + 1) = some b := by rw [mr_bs, hs, if_neg (by simp), hbs]; exact if_neg (by omega)
          rw [e] at hb'; cases hb'; rfl
        · have e : mr_bs S (me_Min S (mu_k a_clues) f_total.toInt) (i + 1) = some i := by rw [mr_bs, hs, if_neg (by simp), hbs]; exact if_pos (by omega)
          rw [e]; rfl
        · have e : mr_bs S (me_Min S (mu_k a_clues) f_total.toInt) (i + 1) = some i := by rw [mr_bs, hs, if_neg (by simp), hbs]; exact if_pos (by omega)
          rw [e] at hb'; cases hb'; rfl
    · have e : mr_bs S (me_Min S (mu_k a_clues) f_total.toInt) (i + 1) = mr_bs S (me_Min S (mu_k a_clues) f_total.toInt) i := by rw [mr_bs, hs, if_pos rfl]
      refine br_t (mr_ge hC hi hs) (nm_r (nI_1 i) (hk' (x, y, ec, cc, kn, ae, fd, fw) ⟨?_, fun b hb => ?_, q3⟩))
      · rw [e]; exact q1
      · rw [e] at hb; exact q2 b hb
/-- the numbers of cell w -/
noncomputable def mr_nb (S : Int32) (ac : Nat → Int32) (w : Nat) (T : Int) (k : Nat) : Bool := decide (0 < me_Cnt (S ||| my_bit w) (mu_k (upd ac w (nI k))) T)
theorem mr_Cw {S : Int32} {ac : Nat → Int32} (hC : mr_C S ac) {w k : Nat} (hw : w < 20) (hk : k ≤ 8) {ac' : Nat → Int32} (he : ∀ j, j < 20 → j ≠ w → ac' j = ac j) : mr_C (S ||| my_bit w) (upd ac' w (nI k)) := by
  refine ⟨mr_orl hC.1 (my_bitlo hw), fun j hj => ?_⟩
  rw [b_or, my_bitb (by omega)]
  by_cases z : j = w
  · subst z
    refine ⟨fun _ => ⟨k, hk, pk_us⟩, fun y => ?_⟩
    simp at y
  · rw [decide_eq_false z, Bool.or_false, pk_un z, he j hj z]
    exact hC.2 j hj
theorem mr_kc {S : Int32} {kl kl' : Nat → Int} (h : ∀ j, j < 20 → bt S j = true → kl j = kl' j) (hS : me_lo S) (T : Int) : me_w S kl T = me_w S kl' T := by
  funext j
  simp only [me_w]
  by_cases z : j = 20
  · simp [z]
  · simp only [z, if_false]
    by_cases y : bt S j = true
    · simp only [y, if_true]
      rcases Nat.lt_or_ge j 20 with x | x
      · exact h j x y
      · rw [hS j x] at y; cases y
    · simp only [y, if_false]
      rfl
theorem mr_Cc {S : Int32} {kl kl' : Nat → Int} (h : ∀ j, j < 20 → bt S j = true → kl j = kl' j) (hS : me_lo S) (T : Int) : me_Cnt S kl T = me_Cnt S kl' T := by
  unfold me_Cnt
  rw [mr_kc h hS 0, mr_kc h hS T]
theorem my_clues (hC : mr_C S a_clues) (hA : mr_A a_around) (hT : mr_T f_total) {w : Nat} (hw : w < 20) (hs : bt S w = false) {post : Int32 → SY → Prop}
    (h : ∀ ec cc ae fd fw, post (mr_mask (mr_nb S a_clues w f_total.toInt) 9) (f_total, ec, cc, 0, f_sureMines, f_sureFree, a_clues, a_around, ae, fd, fw)) : ∃ n, wY_clues_25 post (nI w) n 0 0 f_total f_edgeCount f_coveredCount f_known f_sureMines f_sureFree a_clues a_around a_edge a_found a_foundWith := by
  have vw := vp_in_nI hw (N := 20) (by omega)
  refine loop_0 (σ := Int32 × Int32 × Int32 × Int32 × (Nat → Int32) × (Nat → Int32) × (Nat → Int32) × (Nat → Int32)) (fun n i s => wY_clues_25 post (nI w) n s.1 (nI i) f_total s.2.1 s.2.2.1 s.2.2.2.1 f_sureMines f_sureFree s.2.2.2.2.2.2.2 a_around s.2.2.2.2.1 s.2.2.2.2.2.1 s.2.2.2.2.2.2.1)
    (fun i s => s.1 = mr_mask (mr_nb S a_clues w f_total.toInt) i ∧ (∀ j, j ≠ w → s.2.2.2.2.2.2.2 j = a_clues j)) 9 (0, f_edgeCount, f_coveredCount, f_known, a_edge, a_found, a_foundWith, a_clues) ⟨rfl, fun _ _ => rfl⟩ (fun n s hs' => ?_) (fun n i s hi hs' hk' => ?_)
  · obtain ⟨x, ec, cc, kn, ae, fd, fw, cl⟩ := s
    obtain ⟨q1, q2⟩ := hs'
    dsimp only at q1 q2
    refine br_t (nI_le (a := 9) (by omega) (by omega)) ⟨vw, nm_r (e' := a_clues) ?_ ?_⟩
    · rw [nI_clamp (by omega)]
      funext j
      by_cases z : j = w
      · subst z; rw [pk_us, (hC.2 j hw).2 hs]
      · rw [pk_un z]; exact q2 j z
    · dsimp only
      rw [q1]
      exact h _ _ _ _ _
  · obtain ⟨x, ec, cc, kn, ae, fd, fw, cl⟩ := s
    obtain ⟨q1, q2⟩ := hs'
    dsimp only at q1 q2
    refine br_f (nI_ge (b := 9) hi (by omega)) ⟨vw, nm_r (e' := upd cl w (nI i)) (by rw [nI_clamp (by omega)]) ?_⟩
    have hC' := mr_Cw hC hw (k := i) (by omega) (ac' := cl) (fun j _ z => q2 j z)
    have ecl : upd cl w (nI i) = upd a_clues w (nI i) := by
      funext j
      by_cases z : j = w
      · subst z; rw [pk_us, pk_us]
      · rw [pk_un z, pk_un z, q2 j z]
    refine my_count hC' hA hT (Or.inl rfl) (fun ec' cc' kn' ae' fd' fw' hkn hY => ?_)
    have hb := me_Cb (S ||| my_bit w) (mu_k (upd cl w (nI i))) f_total.toInt
    have key : mr_nb S a_clues w f_total.toInt i = decide (0 < me_Cnt (S ||| my_bit w) (mu_k (upd cl w (nI i))) f_total.toInt) := by rw [mr_nb, ecl]
    refine pk_le (me_Cnt (S ||| my_bit w) (mu_k (upd cl w (nI i))) f_total.toInt) 0 (fun z => nm_r (nI_1 i) (hk' (x, ec', cc', kn', ae', fd', fw', upd cl w (nI i)) ⟨?_, fun j z => ?_⟩)) (fun z => nm_e (nm_r (nI_1 i) (hk' (x ||| my_bit i, ec', cc', kn', ae', fd', fw', upd cl w (nI i)) ⟨?_, fun j z => ?_⟩))) rfl rfl (by omega) (by omega)
    · rw [mr_mask, key, decide_eq_false (by omega), if_neg (by simp)]; exact q1
    · dsimp only
      rw [pk_un z, q2 j z]
    · rw [mr_mask, key, decide_eq_true z, if_pos rfl, ← q1]
    · dsimp only
      rw [pk_un z, q2 j z]
end
end
section
/-! the component's kinds -/
def mk_m (sn al : Int32) (c : Nat) : Int32 := (me_t c &&& sn) ||| al
theorem mf_zle {z : Nat → Nat} {m : Nat → Int32} {t : Nat} : ∀ {n : Nat}, t < n → z t ≤ (mf_fl z m n).length
  | 0, h => by omega
  | n + 1, h => by
    rw [mf_fl, List.length_append, List.length_replicate]
    rcases Nat.lt_or_ge t n with y | y
    · have := mf_zle (z := z) (m := m) (n := n) y; omega
    · have : t = n := by omega
      subst this; omega
section
variable {f_shown f_total f_knownMined f_knownFree f_lastKind f_listed f_count f_numbers f_countedCell f_countedMines f_counted : Int32} {a_around a_clueOf a_kindOf a_cluesOf a_sizes a_clueList a_missing a_room a_links a_laterRoom a_linkEnd a_taken a_most a_countBefore a_ways a_minesIn : Nat → Int32}
theorem mx_join26 {n : Nat} (hl : f_lastKind = nI n) (hn : n ≤ 19) {z : Nat → Nat} (hz : ∀ t, t < n → a_sizes t = nI (z t) ∧ 0 < z t) {c : Nat} (hc : c < 20) {m : Int32} {t : Nat} (ht : t ≤ n) (hm : t < n → a_cluesOf t = m) {post : SX → Prop}
    (h : ∀ lk ko co sz n' z' t', lk = nI n' → n' ≤ n + 1 → t' < n' → n ≤ n' → ko = upd a_kindOf c (nI t') → co t' = m → (∀ s, s < n → co s = a_cluesOf s) → (∀ s, n ≤ s → s < n' → co s = m) → (∀ s, s < n' → sz s = nI (z' s) ∧ 0 < z' s) → List.Perm (mf_fl z' co n') (m :: mf_fl z a_cluesOf n) → post (f_shown, f_total, f_knownMined, f_knownFree, lk, f_listed, f_count, f_numbers, f_countedCell, f_countedMines, f_counted, a_around, a_clueOf, ko, co, sz, a_clueList, a_missing, a_room, a_links, a_laterRoom, a_linkEnd, a_taken, a_most, a_countBefore, a_ways, a_minesIn)) : wX_join_26 post (nI c) m (nI t) f_shown f_total f_knownMined f_knownFree f_lastKind f_listed f_count f_numbers f_countedCell f_countedMines f_counted a_around a_clueOf a_kindOf a_cluesOf a_sizes a_clueList a_missing a_room a_links a_laterRoom a_linkEnd a_taken a_most a_countBefore a_ways a_minesIn := by
  have vt : vp_in (nI t) 21 := vp_in_nI (by omega) (by omega)
  have ct : (nI t).toNatClampNeg = t := nI_clamp (by omega)
  have cc : (nI c).toNatClampNeg = c := nI_clamp (by omega)
  by_cases e : t = n
  · subst e
    refine br_t hl.symm ⟨vt, nm_r (e' := upd a_cluesOf t m) (by rw [ct]) ⟨vt, nm_r (e' := upd a_sizes t 0) (by rw [ct]) (nm_r (e' := nI (t + 1)) (by rw [hl, nI_1]) ⟨vt, vt, nm_r (e' := upd (upd a_sizes t 0) t 1) ?_ ⟨vp_in_nI hc (by omega), nm_r (e' := upd a_kindOf c (nI t)) (by rw [cc]) ?_⟩⟩)⟩⟩
    · rw [ct, pk_us]; rfl
    · refine h (nI (t + 1)) _ _ _ (t + 1) (fun s => if s = t then 1 else z s) t rfl (by omega) (by omega) (by omega) rfl pk_us (fun s hs => pk_un (by omega)) (fun s h1 h2 => ?_) (fun s hs => ?_) ?_
      · have : s = t := by omega
        subst this; exact pk_us
      · by_cases y : s = t
        · subst y
          rw [pk_us, if_pos rfl]
          exact ⟨rfl, by omega⟩
        · rw [pk_un y, pk_un y, if_neg y]
          exact hz s (by omega)
      · rw [mf_fl, pk_us, if_pos rfl]
        rw [mf_congr (sz := z) (m := a_cluesOf) (n := t) (fun i hi => ⟨if_neg (by omega), pk_un (by omega)⟩)]
        exact List.perm_append_comm
  · have e' : ¬ nI t = f_lastKind := by
      rw [hl]
      intro y
      exact e ((nI_eq (by omega) (by omega)).mp y)
    obtain ⟨z1, z2⟩ := hz t (by omega)
    refine br_f e' ⟨vt, vt, nm_r (e' := upd a_sizes t (nI (z t + 1))) (by rw [ct, z1, nI_1]) ⟨vp_in_nI hc (by omega), nm_r (e' := upd a_kindOf c (nI t)) (by rw [cc]) ?_⟩⟩
    refine h f_lastKind _ a_cluesOf _ n (fun s => if s = t then z t + 1 else z s) t hl (by omega) (by omega) (by omega) rfl (hm (by omega)) (fun s hs => rfl) (fun s h1 h2 => by omega) (fun s hs => ?_) ?_
    · by_cases y : s = t
      · subst y
        rw [pk_us, if_pos rfl]
        exact ⟨rfl, by omega⟩
      · rw [pk_un y, if_neg y]
        exact hz s hs
    · have := mf_inc (sz := z) (sz' := fun s => if s = t then z t + 1 else z s) (m := a_cluesOf) (k := t) (if_pos rfl) (n := n) (by omega) (fun i hi hne => if_neg hne)
      rw [hm (by omega)] at this
      exact this
theorem mx_join {n : Nat} (hl : f_lastKind = nI n) (hn : n ≤ 19) {z : Nat → Nat} (hz : ∀ t, t < n → a_sizes t = nI (z t) ∧ 0 < z t) {c : Nat} (hc : c < 20) {m : Int32} {post : SX → Prop}
    (h : ∀ lk ko co sz n' z' t', lk = nI n' → n' ≤ n + 1 → t' < n' → n ≤ n' → ko = upd a_kindOf c (nI t') → co t' = m → (∀ s, s < n → co s = a_cluesOf s) → (∀ s, n ≤ s → s < n' → co s = m) → (∀ s, s < n' → sz s = nI (z' s) ∧ 0 < z' s) → List.Perm (mf_fl z' co n') (m :: mf_fl z a_cluesOf n) → post (f_shown, f_total, f_knownMined, f_knownFree, lk, f_listed, f_count, f_numbers, f_countedCell, f_countedMines, f_counted, a_around, a_clueOf, ko, co, sz, a_clueList, a_missing, a_room, a_links, a_laterRoom, a_linkEnd, a_taken, a_most, a_countBefore, a_ways, a_minesIn)) : wpX_join post (f_shown, f_total, f_knownMined, f_knownFree, f_lastKind, f_listed, f_count, f_numbers, f_countedCell, f_countedMines, f_counted, a_around, a_clueOf, a_kindOf, a_cluesOf, a_sizes, a_clueList, a_missing, a_room, a_links, a_laterRoom, a_linkEnd, a_taken, a_most, a_countBefore, a_ways, a_minesIn) (nI c) m := by
  refine loop_0 (σ := Unit) (fun k i _ => wX_join_2 post (nI c) m f_shown f_total f_knownMined f_knownFree f_lastKind f_listed f_count f_numbers f_countedCell f_countedMines f_counted a_around a_clueOf a_kindOf a_cluesOf a_sizes a_clueList a_missing a_room a_links a_laterRoom a_linkEnd a_taken a_most a_countBefore a_ways a_minesIn k (nI i)) (fun _ _ => True) n () trivial (fun k s _ => ?_) (fun k i s hi _ hk => ?_)
  · refine br_t (by rw [hl]; exact nI_le (Nat.le_refl n) (by omega)) (mx_join26 hl hn hz hc (Nat.le_refl n) (fun y => by omega) h)
  · refine br_f (by rw [hl]; exact nI_ge hi (by omega)) ⟨vp_in_nI (by omega) (by omega), ?_⟩
    rw [nI_clamp (by omega)]
    exact br_c (fun y => mx_join26 hl hn hz hc (by omega) (fun _ => y) h) (fun y => nm_r (nI_1 i) (hk () trivial))
end
/-- the kinds after the cells below i -/
def mk_I (sn al : Int32) (i : Nat) (lk : Int32) (ko co sz : Nat → Int32) : Prop := ∃ (n : Nat) (z : Nat → Nat), lk = nI n ∧ (∀ t, t < n → sz t = nI (z t) ∧ 0 < z t) ∧ (∀ t, t < n → ∃ c, c < 20 ∧ co t = mk_m sn al c) ∧
  List.Perm (mf_fl z co n) (((List.range i).filter (me_ed sn)).map (mk_m sn al)) ∧ (∀ c, c < i → me_ed sn c = true → ∃ t, t < n ∧ ko c = nI t ∧ co t = mk_m sn al c)
theorem mk_In {sn al : Int32} {i : Nat} {co : Nat → Int32} {n : Nat} {z : Nat → Nat} (hz : ∀ t, t < n → 0 < z t) (hp : List.Perm (mf_fl z co n) (((List.range i).filter (me_ed sn)).map (mk_m sn al))) : n ≤ i := by
  have h1 := mf_le (sz := z) (m := co) hz
  have h2 := hp.length_eq
  have h3 := List.length_filter_le (me_ed sn) (List.range i)
  rw [List.length_map] at h2
  rw [List.length_range] at h3
  omega
theorem mk_Is {sn al : Int32} {i : Nat} {lk : Int32} {ko co sz : Nat → Int32} (h : mk_I sn al i lk ko co sz) (he : me_ed sn i = false) : mk_I sn al (i + 1) lk ko co sz := by
  obtain ⟨n, z, h1, h2, h3, h4, h5⟩ := h
  refine ⟨n, z, h1, h2, h3, ?_, fun c hc hec => ?_⟩
  · rw [List.range_succ, List.filter_append]
    simp only [List.filter_cons, he, List.filter_nil]
    simpa using h4
  · rcases Nat.lt_or_ge c i with y | y
    · exact h5 c y hec
    · have : c = i := by omega
      subst this
      rw [he] at hec; cases hec
/-- what the search is given -/
def mk_F (sn al : Int32) (lk : Int32) (ko co sz : Nat → Int32) (n : Nat) (z : Nat → Nat) : Prop := lk = nI n ∧ n ≤ 20 ∧ (∀ t, t < n → sz t = nI (z t) ∧ 0 < z t) ∧ (∀ t, t < n → ∃ c, c < 20 ∧ co t = mk_m sn al c) ∧
  List.Perm (mf_fl z co n) ((me_E sn).map (mk_m sn al)) ∧ (∀ c, c < 20 → me_ed sn c = true → ∃ t, t < n ∧ ko c = nI t ∧ co t = mk_m sn al c) ∧ co n = al ∧ sz n = nI (me_R sn) ∧ (∀ c, c < 20 → me_ot sn c = true → ko c = nI n)
section
variable {f_shown f_total f_knownMined f_knownFree f_lastKind f_listed f_count f_numbers f_countedCell f_countedMines f_counted : Int32} {a_around a_clueOf a_kindOf a_cluesOf a_sizes a_clueList a_missing a_room a_links a_laterRoom a_linkEnd a_taken a_most a_countBefore a_ways a_minesIn : Nat → Int32}
theorem mx_kinds2 {sn al x3 : Int32} (hl3 : me_lo x3) (h3 : ∀ j, j < 20 → bt x3 j = me_ot sn j) (hI : mk_I sn al 20 f_lastKind a_kindOf a_cluesOf a_sizes) {post : SX → Prop}
    (h : ∀ ko co sz n z, mk_F sn al f_lastKind ko co sz n z → post (f_shown, f_total, f_knownMined, f_knownFree, f_lastKind, f_listed, f_count, f_numbers, f_countedCell, f_countedMines, f_counted, a_around, a_clueOf, ko, co, sz, a_clueList, a_missing, a_room, a_links, a_laterRoom, a_linkEnd, a_taken, a_most, a_countBefore, a_ways, a_minesIn)) : ∃ n, wX_findKinds_119 post al x3 f_shown f_total f_knownMined f_knownFree f_lastKind f_listed f_count f_numbers f_countedCell f_countedMines f_counted n 0 a_around a_clueOf a_kindOf a_cluesOf a_sizes a_clueList a_missing a_room a_links a_laterRoom a_linkEnd a_taken a_most a_countBefore a_ways a_minesIn := by
  obtain ⟨n, z, h1, h2, h4, h5, h6⟩ := hI
  have hn : n ≤ 20 := mk_In (fun t ht => (h2 t ht).2) h5
  have vl : vp_in f_lastKind 21 := by rw [h1]; exact vp_in_nI (by omega) (by omega)
  have cl : f_lastKind.toNatClampNeg = n := by rw [h1]; exact nI_clamp (by omega)
  refine loop_0 (σ := Nat → Int32) (fun k i ko => wX_findKinds_119 post al x3 f_shown f_total f_knownMined f_knownFree f_lastKind f_listed f_count f_numbers f_countedCell f_countedMines f_counted k (nI i) a_around a_clueOf ko a_cluesOf a_sizes a_clueList a_missing a_room a_links a_laterRoom a_linkEnd a_taken a_most a_countBefore a_ways a_minesIn) (fun i ko => (∀ c, c < 20 → me_ed sn c = true → ko c = a_kindOf c) ∧ (∀ c, c < i → me_ot sn c = true → ko c = nI n)) 20 a_kindOf ⟨fun _ _ _ => rfl, fun c hc => by omega⟩ (fun k ko hs => ?_) (fun k i ko hi hs hk => ?_)
  · refine br_t (nI_le (a := 20) (by omega) (by omega)) ⟨vl, nm_r (e' := upd a_cluesOf n al) (by rw [cl]) (mx_size hl3 ⟨vl, nm_r (e' := upd a_sizes n (nI (me_c x3))) (by rw [cl]) ?_⟩)⟩
    have ec : me_c x3 = me_R sn := mb_eq h3
    refine h ko _ _ n z ⟨h1, hn, fun t ht => ?_, fun t ht => ?_, ?_, fun c hc he => ?_, pk_us, ?_, fun c hc ho => hs.2 c hc ho⟩
    · rw [pk_un (by omega)]; exact h2 t ht
    · rw [pk_un (by omega)]; exact h4 t ht
    · rw [mf_congr (sz := z) (sz' := z) (m := a_cluesOf) (n := n) (fun i hi => ⟨rfl, pk_un (by omega)⟩)]
      exact h5
    · obtain ⟨t, t1, t2, t3⟩ := h6 c hc he
      refine ⟨t, t1, ?_, ?_⟩
      · rw [hs.1 c hc he]; exact t2
      · rw [pk_un (by omega)]; exact t3
    · rw [pk_us, ec]
  · refine br_f (mx_20 hi) (mx_has (by omega) (fun hb => br_f mx_10 ⟨vp_in_nI hi (by omega), nm_r (e' := upd ko i (nI n)) (by rw [nI_clamp (by omega), h1]) (nm_r (nI_1 i) (hk _ ⟨fun c hc he => ?_, fun c hc ho => ?_⟩))⟩) (fun hb => br_t rfl (nm_r (nI_1 i) (hk ko ⟨hs.1, fun c hc ho => ?_⟩))))
    · have : c ≠ i := by
        intro y
        subst y
        rw [h3 c hi] at hb
        simp only [me_ot, me_ed] at hb he
        simp at hb he
        exact he.2 hb.2
      rw [pk_un this]
      exact hs.1 c hc he
    · by_cases y : c = i
      · subst y; exact pk_us
      · rw [pk_un y]
        exact hs.2 c (by omega) ho
    · rcases Nat.lt_or_ge c i with y | y
      · exact hs.2 c y ho
      · have : c = i := by omega
        subst this
        rw [h3 c hi, ho] at hb; cases hb
theorem mx_kinds1 (hA : mr_A a_around) {sn al : Int32} (hsn : me_lo sn) {post : SX → Prop}
    (h : ∀ lk ko co sz n z, mk_F sn al lk ko co sz n z → post (f_shown, f_total, f_knownMined, f_knownFree, lk, f_listed, f_count, f_numbers, f_countedCell, f_countedMines, f_counted, a_around, a_clueOf, ko, co, sz, a_clueList, a_missing, a_room, a_links, a_laterRoom, a_linkEnd, a_taken, a_most, a_countBefore, a_ways, a_minesIn)) : wX_findKinds_41 post al sn f_shown f_total f_knownMined f_knownFree f_lastKind f_listed f_count f_numbers f_countedCell f_countedMines f_counted a_around a_clueOf a_kindOf a_cluesOf a_sizes a_clueList a_missing a_room a_links a_laterRoom a_linkEnd a_taken a_most a_countBefore a_ways a_minesIn := by
  refine loop_0 (σ := Int32 × Int32 × (Nat → Int32) × (Nat → Int32) × (Nat → Int32)) (fun n i s => wX_findKinds_52 post al sn n s.1 (nI i) f_shown f_total f_knownMined f_knownFree s.2.1 f_listed f_count f_numbers f_countedCell f_countedMines f_counted a_around a_clueOf s.2.2.1 s.2.2.2.1 s.2.2.2.2 a_clueList a_missing a_room a_links a_laterRoom a_linkEnd a_taken a_most a_countBefore a_ways a_minesIn)
    (fun i s => (∀ j, j < 32 → bt s.1 j = (decide (j < i) && decide (me_t j &&& sn = 0))) ∧ mk_I sn al i s.2.1 s.2.2.1 s.2.2.2.1 s.2.2.2.2) 20 (0, 0, a_kindOf, a_cluesOf, a_sizes)
    ⟨fun j _ => by rw [b_0]; simp, 0, fun _ => 0, rfl, fun t ht => by omega, fun t ht => by omega, by simp [mf_fl], fun c hc => by omega⟩ (fun n s hs => ?_) (fun n i s hi hs hk => ?_)
  · obtain ⟨x3, lk, ko, co, sz⟩ := s
    obtain ⟨q1, q2⟩ := hs
    dsimp only at q1 q2
    refine br_t (nI_le (a := 20) (by omega) (by omega)) (nm_e (mx_kinds2 ?_ ?_ q2 (fun ko' co' sz' n' z' hF => h lk ko' co' sz' n' z' hF)))
    · intro j hj
      rw [b_and]
      rcases Nat.lt_or_ge j 32 with y | y
      · rw [q1 j y, decide_eq_false (by omega)]; rfl
      · rw [b_big y]; rfl
    · intro j hj
      rw [b_and, q1 j (by omega), mr_not _ (by omega), decide_eq_true hj, Bool.true_and, me_ot, Bool.and_comm]
  · obtain ⟨x3, lk, ko, co, sz⟩ := s
    obtain ⟨q1, q2⟩ := hs
    dsimp only at q1 q2
    have nx : ∀ x : Int32, (∀ j, j < 32 → bt x j = (bt x3 j || (decide (j = i) && decide (me_t i &&& sn = 0)))) → ∀ j, j < 32 → bt x j = (decide (j < i + 1) && decide (me_t j &&& sn = 0)) := by
      intro x hx j hj
      rw [hx j hj, q1 j hj]
      by_cases y : j = i
      · subst y; simp
      · have : decide (j < i + 1) = decide (j < i) := decide_eq_decide.mpr ⟨fun h => by omega, fun h => by omega⟩
        rw [this, decide_eq_false y]; simp
    refine br_f (mx_20 hi) ⟨vp_in_nI hi (by omega), nm_r (e' := me_t i &&& sn) (by rw [nI_clamp (by omega), hA i hi]) ?_⟩
    by_cases z : me_t i &&& sn = 0
    · have he : me_ed sn i = false := by simp [me_ed, z]
      refine br_t z (nm_e (nm_r (nI_1 i) (hk (x3 ||| my_bit i, lk, ko, co, sz) ⟨nx _ (fun j hj => ?_), mk_Is q2 he⟩)))
      rw [b_or, my_bitb (by omega), z]; simp
    · refine br_f z (mx_has (by omega) (fun hb => br_f mx_10 (nm_r (nI_1 i) (hk (x3, lk, ko, co, sz) ⟨nx _ (fun j hj => ?_), mk_Is q2 ?_⟩))) (fun hb => br_t rfl ?_))
      · simp [z]
      · simp [me_ed, hb]
      · have he : me_ed sn i = true := by simp [me_ed, hb, z]
        obtain ⟨n0, z0, h1, h2, h3, h4, h5⟩ := q2
        have hn0 : n0 ≤ i := mk_In (fun t ht => (h2 t ht).2) h4
        refine mx_join h1 (by omega) h2 hi (fun lk' ko' co' sz' n' z' t' e1 e2 e3 e4 e5 e6 e7 e8 e9 e10 => nm_r (nI_1 i) (hk (x3, lk', ko', co', sz') ⟨nx _ (fun j hj => ?_), n', z', e1, e9, fun t ht => ?_, ?_, fun c hc hec => ?_⟩))
        · simp [z]
        · rcases Nat.lt_or_ge t n0 with y | y
          · dsimp only
            rw [e7 t y]; exact h3 t y
          · exact ⟨i, hi, e8 t y ht⟩
        · rw [List.range_succ, List.filter_append]
          simp only [List.filter_cons, he, if_true, List.filter_nil, List.map_append, List.map_cons, List.map_nil]
          exact e10.trans ((h4.cons _).trans (List.perm_append_comm (l₁ := [_])))
        · dsimp only
          rw [e5]
          by_cases y : c = i
          · subst y
            exact ⟨t', e3, pk_us, e6⟩
          · obtain ⟨t, t1, t2, t3⟩ := h5 c (by omega) hec
            exact ⟨t, by omega, by rw [pk_un y]; exact t2, by rw [e7 t t1]; exact t3⟩
theorem mx_kinds (hA : mr_A a_around) (hS : me_lo f_shown) {sn al : Int32} (hsn : (f_countedCell = -1 ∧ sn = f_shown) ∨ ∃ w, w < 20 ∧ f_countedCell = nI w ∧ sn = f_shown ||| my_bit w) (hal : (f_countedMines = -1 ∧ al = 0) ∨ (f_countedMines ≠ -1 ∧ al = me_b)) {post : SX → Prop}
    (h : ∀ lk ko co sz n z, mk_F sn al lk ko co sz n z → post (f_shown, f_total, f_knownMined, f_knownFree, lk, f_listed, f_count, f_numbers, f_countedCell, f_countedMines, f_counted, a_around, a_clueOf, ko, co, sz, a_clueList, a_missing, a_room, a_links, a_laterRoom, a_linkEnd, a_taken, a_most, a_countBefore, a_ways, a_minesIn)) : wpX_findKinds post (f_shown, f_total, f_knownMined, f_knownFree, f_lastKind, f_listed, f_count, f_numbers, f_countedCell, f_countedMines, f_counted, a_around, a_clueOf, a_kindOf, a_cluesOf, a_sizes, a_clueList, a_missing, a_room, a_links, a_laterRoom, a_linkEnd, a_taken, a_most, a_countBefore, a_ways, a_minesIn) := by
  have step : wX_findKinds_14 post al f_shown f_total f_knownMined f_knownFree f_lastKind f_listed f_count f_numbers f_countedCell f_countedMines f_counted a_around a_clueOf a_kindOf a_cluesOf a_sizes a_clueList a_missing a_room a_links a_laterRoom a_linkEnd a_taken a_most a_countBefore a_ways a_minesIn := by
    rcases hsn with ⟨e1, e2⟩ | ⟨w, hw, e1, e2⟩
    · subst e2
      exact br_t e1 (mx_kinds1 hA hS h)
    · subst e2
      have e : f_shown ||| ((1 : Int32) <<< (f_countedCell &&& 31)) = f_shown ||| my_bit w := by rw [e1]; rfl
      refine br_f ?_ ?_
      · rw [e1]
        intro z
        have : (nI w).toInt = (-1 : Int32).toInt := by rw [← z]
        rw [nI_toInt (by omega)] at this
        have h2 : (-1 : Int32).toInt = -1 := by decide
        omega
      · rw [e]
        exact mx_kinds1 hA (mr_orl hS (my_bitlo hw)) h
  rcases hal with ⟨e1, e2⟩ | ⟨e1, e2⟩
  · subst e2; exact br_t e1 step
  · subst e2; exact br_f e1 step
end
end
section
/-! the component's clues and links -/
def ma_L (L : List Nat) (mv rv : Nat → Int32) (ls : Int32) (cl ms rm : Nat → Int32) : Prop := ls = nI L.length ∧ (∀ i j, L[i]? = some j → cl i = nI j) ∧ (∀ j, j ∈ L → j < 21 ∧ ms j = mv j ∧ rm j = rv j)
def ma_lst (S : Int32) (w : Option Nat) (t : Bool) : List Nat := (List.range 20).filter (bt S) ++ ((match w with | none => [] | some c => [c]) ++ (if t = true then [20] else []))
theorem ma_nd {S : Int32} {w : Option Nat} {t : Bool} (hw : ∀ c, w = some c → c < 20 ∧ bt S c = false) : (ma_lst S w t).Nodup := by
  unfold ma_lst
  refine List.nodup_append.mpr ⟨List.Pairwise.filter _ List.nodup_range, ?_, ?_⟩
  · cases w with
    | none => cases t <;> simp
    | some c =>
      have := hw c rfl
      cases t <;> simp
      omega
  · intro a ha b hb e
    subst e
    simp at ha
    cases w with
    | none =>
      cases t <;> simp at hb
      omega
    | some c =>
      have h2 := hw c rfl
      cases t <;> simp at hb
      · subst hb; rw [h2.2] at ha; cases ha.2
      · rcases hb with hb | hb
        · subst hb; rw [h2.2] at ha; cases ha.2
        · omega
theorem ma_mem {S : Int32} (hS : me_lo S) {w : Option Nat} {t : Bool} {j : Nat} : j ∈ ma_lst S w t ↔ bt S j = true ∨ w = some j ∨ (t = true ∧ j = 20) := by
  unfold ma_lst
  rw [List.mem_append, List.mem_append]
  have e1 : j ∈ (List.range 20).filter (bt S) ↔ bt S j = true := by
    simp
    intro h
    rcases Nat.lt_or_ge j 20 with y | y
    · exact y
    · rw [hS j y] at h; cases h
  rw [e1]
  have e2 : j ∈ (match w with | none => [] | some c => [c] : List Nat) ↔ w = some j := by
    cases w with
    | none => simp
    | some c => simp; exact ⟨fun h => h.symm, fun h => h.symm⟩
  rw [e2]
  have e3 : j ∈ (if t = true then [20] else [] : List Nat) ↔ (t = true ∧ j = 20) := by cases t <;> simp
  rw [e3]
section
variable {f_shown f_total f_knownMined f_knownFree f_lastKind f_listed f_count f_numbers f_countedCell f_countedMines f_counted : Int32} {a_around a_clueOf a_kindOf a_cluesOf a_sizes a_clueList a_missing a_room a_links a_laterRoom a_linkEnd a_taken a_most a_countBefore a_ways a_minesIn : Nat → Int32}
theorem mx_list {L : List Nat} {mv rv : Nat → Int32} (hL : ma_L L mv rv f_listed a_clueList a_missing a_room) (hlen : L.length < 21) {j : Nat} (hj : j < 21) {p1 p2 : Int32} (h1 : p1 = mv j) (h2 : p2 = rv j) {post : SX → Prop}
    (h : ∀ ls cl ms rm, ma_L (L ++ [j]) mv rv ls cl ms rm → post (f_shown, f_total, f_knownMined, f_knownFree, f_lastKind, ls, f_count, f_numbers, f_countedCell, f_countedMines, f_counted, a_around, a_clueOf, a_kindOf, a_cluesOf, a_sizes, cl, ms, rm, a_links, a_laterRoom, a_linkEnd, a_taken, a_most, a_countBefore, a_ways, a_minesIn)) : wpX_list post (f_shown, f_total, f_knownMined, f_knownFree, f_lastKind, f_listed, f_count, f_numbers, f_countedCell, f_countedMines, f_counted, a_around, a_clueOf, a_kindOf, a_cluesOf, a_sizes, a_clueList, a_missing, a_room, a_links, a_laterRoom, a_linkEnd, a_taken, a_most, a_countBefore, a_ways, a_minesIn) (nI j) p1 p2 := by
  obtain ⟨a, b, c⟩ := hL
  have vj : vp_in (nI j) 21 := vp_in_nI hj (by omega)
  have cj : (nI j).toNatClampNeg = j := nI_clamp (by omega)
  have ca : f_listed.toNatClampNeg = L.length := by rw [a]; exact nI_clamp (by omega)
  refine ⟨by rw [a]; exact vp_in_nI hlen (by omega), nm_r (e' := upd a_clueList L.length (nI j)) (by rw [ca]) ⟨vj, nm_r (e' := upd a_missing j p1) (by rw [cj]) ⟨vj, nm_r (e' := upd a_room j p2) (by rw [cj]) (nm_r (e' := nI (L.length + 1)) (by rw [a, nI_1]) (h _ _ _ _ ⟨?_, fun i x hx => ?_, fun x hx => ?_⟩))⟩⟩⟩
  · rw [List.length_append]; rfl
  · by_cases y : i = L.length
    · subst y
      rw [List.getElem?_append_right (Nat.le_refl _)] at hx
      simp at hx
      rw [pk_us, hx]
    · rw [pk_un y]
      refine b i x ?_
      rcases Nat.lt_or_ge i L.length with w | w
      · rw [List.getElem?_append_left w] at hx; exact hx
      · rw [List.getElem?_append_right w] at hx
        have := (List.getElem?_eq_some_iff.mp hx).1
        simp at this; omega
  · by_cases y : x = j
    · subst y
      rw [pk_us, pk_us]
      exact ⟨hj, h1, h2⟩
    · rw [pk_un y, pk_un y]
      rw [List.mem_append] at hx
      rcases hx with hx | hx
      · exact c x hx
      · simp at hx; exact absurd hx y
theorem mx_clues (hS : me_lo f_shown) {mv rv : Nat → Int32} (hm1 : ∀ j, j < 20 → bt f_shown j = true → mv j = a_clueOf j ∧ rv j = 0) {w : Option Nat} (hw : (f_countedCell = -1 ∧ w = none) ∨ ∃ c, c < 20 ∧ f_countedCell = nI c ∧ w = some c ∧ bt f_shown c = false ∧ mv c = 8 ∧ rv c = 8)
    {t : Bool} (ht : (f_countedMines = -1 ∧ t = false) ∨ (f_countedMines ≠ -1 ∧ t = true ∧ mv 20 = f_countedMines ∧ rv 20 = 0)) {post : SX → Prop}
    (h : ∀ ls cl ms rm, ma_L (ma_lst f_shown w t) mv rv ls cl ms rm → post (f_shown, f_total, f_knownMined, f_knownFree, f_lastKind, ls, f_count, f_numbers, f_countedCell, f_countedMines, f_counted, a_around, a_clueOf, a_kindOf, a_cluesOf, a_sizes, cl, ms, rm, a_links, a_laterRoom, a_linkEnd, a_taken, a_most, a_countBefore, a_ways, a_minesIn)) : wpX_listClues post (f_shown, f_total, f_knownMined, f_knownFree, f_lastKind, f_listed, f_count, f_numbers, f_countedCell, f_countedMines, f_counted, a_around, a_clueOf, a_kindOf, a_cluesOf, a_sizes, a_clueList, a_missing, a_room, a_links, a_laterRoom, a_linkEnd, a_taken, a_most, a_countBefore, a_ways, a_minesIn) := by
  have fin : ∀ (L : List Nat) (ls : Int32) (cl ms rm : Nat → Int32), ma_L L mv rv ls cl ms rm → L.length < 21 → L ++ (if t = true then [20] else []) = ma_lst f_shown w t → wX_listClues_62 post f_shown f_total f_knownMined f_knownFree f_lastKind ls f_count f_numbers f_countedCell f_countedMines f_counted a_around a_clueOf a_kindOf a_cluesOf a_sizes cl ms rm a_links a_laterRoom a_linkEnd a_taken a_most a_countBefore a_ways a_minesIn := by
    intro L ls cl ms rm hL hlen he
    rcases ht with ⟨e1, e2⟩ | ⟨e1, e2, e3, e4⟩
    · subst e2
      simp at he
      rw [he] at hL
      exact br_t e1 (h _ _ _ _ hL)
    · subst e2
      rw [if_pos rfl] at he
      rw [← he] at h
      exact br_f e1 (mx_list (j := 20) hL hlen (by omega) e3.symm e4.symm h)
  refine loop_0 (σ := Int32 × (Nat → Int32) × (Nat → Int32) × (Nat → Int32)) (fun n i s => wX_listClues_7 post n (nI i) f_shown f_total f_knownMined f_knownFree f_lastKind s.1 f_count f_numbers f_countedCell f_countedMines f_counted a_around a_clueOf a_kindOf a_cluesOf a_sizes s.2.1 s.2.2.1 s.2.2.2 a_links a_laterRoom a_linkEnd a_taken a_most a_countBefore a_ways a_minesIn) (fun i s => ma_L ((List.range i).filter (bt f_shown)) mv rv s.1 s.2.1 s.2.2.1 s.2.2.2) 20 (0, a_clueList, a_missing, a_room)
    ⟨rfl, fun i j hj => by simp at hj, fun j hj => by simp at hj⟩ (fun n s hs => ?_) (fun n i s hi hs hk => ?_)
  · obtain ⟨ls, cl, ms, rm⟩ := s
    dsimp only at hs
    have len : ((List.range 20).filter (bt f_shown)).length = me_c f_shown := (mb_filter _ _).symm
    have l20 := mu_c20 f_shown
    refine br_t (nI_le (a := 20) (by omega) (by omega)) ?_
    rcases hw with ⟨e1, e2⟩ | ⟨c, hc, e1, e2, e3, e4, e5⟩
    · subst e2
      exact br_t e1 (fin _ _ _ _ _ hs (by omega) (by simp [ma_lst]))
    · subst e2
      have hne : ¬ f_countedCell = -1 := by
        rw [e1]
        intro z
        have : (nI c).toInt = (-1 : Int32).toInt := by rw [← z]
        rw [nI_toInt (by omega)] at this
        have h2 : (-1 : Int32).toInt = -1 := by decide
        omega
      have l19 : me_c f_shown + 1 ≤ 20 := by
        rw [← my_cadd hc e3]; exact mu_c20 _
      refine br_f hne ?_
      have goal : wpX_list (fun u => match u with | (f_shownq, f_totalq, f_knownMinedq, f_knownFreeq, f_lastKindq, f_listedq, f_countq, f_numbersq, f_countedCellq, f_countedMinesq, f_countedq, a_aroundq, a_clueOfq, a_kindOfq, a_cluesOfq, a_sizesq, a_clueListq, a_missingq, a_roomq, a_linksq, a_laterRoomq, a_linkEndq, a_takenq, a_mostq, a_countBeforeq, a_waysq, a_minesInq) => wX_listClues_62 post f_shownq f_totalq f_knownMinedq f_knownFreeq f_lastKindq f_listedq f_countq f_numbersq f_countedCellq f_countedMinesq f_countedq a_aroundq a_clueOfq a_kindOfq a_cluesOfq a_sizesq a_clueListq a_missingq a_roomq a_linksq a_laterRoomq a_linkEndq a_takenq a_mostq a_countBeforeq a_waysq a_minesInq) (f_shown, f_total, f_knownMined, f_knownFree, f_lastKind, ls, f_count, f_numbers, f_countedCell, f_countedMines, f_counted, a_around, a_clueOf, a_kindOf, a_cluesOf, a_sizes, cl, ms, rm, a_links, a_laterRoom, a_linkEnd, a_taken, a_most, a_countBefore, a_ways, a_minesIn) (nI c) 8 8 := by
        refine mx_list hs (by omega) (by omega) e4.symm e5.symm (fun ls' cl' ms' rm' hL' => ?_)
        refine fin _ _ _ _ _ hL' ?_ (by simp [ma_lst])
        rw [List.length_append, len]
        simp; omega
      rw [← e1] at goal
      exact goal
  · obtain ⟨ls, cl, ms, rm⟩ := s
    dsimp only at hs
    have hlen : ((List.range i).filter (bt f_shown)).length ≤ i := by
      have := List.length_filter_le (bt f_shown) (List.range i)
      simpa using this
    refine br_f (mx_20 hi) (mx_has (by omega) (fun hb => br_f mx_10 ⟨vp_in_nI hi (by omega), ?_⟩) (fun hb => br_t rfl (nm_r (nI_1 i) (hk (ls, cl, ms, rm) ?_))))
    · rw [nI_clamp (by omega)]
      obtain ⟨m1, m2⟩ := hm1 i hi hb
      refine mx_list hs (by omega) (by omega) m1.symm m2.symm (fun ls' cl' ms' rm' hL' => nm_r (nI_1 i) (hk (ls', cl', ms', rm') ?_))
      rw [List.range_succ, List.filter_append]
      simp only [List.filter_cons, hb, if_true, List.filter_nil]
      exact hL'
    · rw [List.range_succ, List.filter_append]
      simp only [List.filter_cons, hb, List.filter_nil]
      simpa using hs
end
/-! the links -/
def ma_K (lst : List Nat) (ks : List (Nat × Int32)) (m : Int32) (r0 : Nat → Nat) (k : Nat) (le : Int32) (lk lr : Nat → Int32) : Prop := le = nI (9 * k + (mf_lk lst m).length) ∧ ∀ i j, (mf_lk lst m)[i]? = some j → lk (9 * k + i) = nI j ∧ lr (9 * k + i) = nI (r0 j + mg_cap j (ks.drop (k + 1)))
theorem ma_lks {lst : List Nat} {m : Int32} {i : Nat} (hi : i < lst.length) : mf_lk (lst.take (i + 1)) m = mf_lk (lst.take i) m ++ (if bt m lst[i] = true then [lst[i]] else []) := by
  rw [mf_lk, mf_lk, List.take_succ_eq_append_getElem hi, List.filter_append]
  congr 1
  by_cases z : bt m lst[i] = true <;> simp [z]
theorem ma_lkl {lst : List Nat} {m : Int32} (i : Nat) : (mf_lk (lst.take i) m).length ≤ (mf_lk lst m).length := ((List.take_sublist i lst).filter _).length_le
theorem ma_nt {lst : List Nat} (nd : lst.Nodup) {i : Nat} (hi : i < lst.length) : lst[i] ∉ lst.take i := by
  intro h
  obtain ⟨t, ht, e⟩ := List.mem_take_iff_getElem.mp h
  have := (List.getElem_inj nd).mp e
  omega
section
variable {f_shown f_total f_knownMined f_knownFree f_lastKind f_listed f_count f_numbers f_countedCell f_countedMines f_counted : Int32} {a_around a_clueOf a_kindOf a_cluesOf a_sizes a_clueList a_missing a_room a_links a_laterRoom a_linkEnd a_taken a_most a_countBefore a_ways a_minesIn : Nat → Int32}
theorem mx_link1 {lst : List Nat} (nd : lst.Nodup) (h21 : ∀ j, j ∈ lst → j < 21) (hl : lst.length ≤ 21) (hls : f_listed = nI lst.length) (hcl : ∀ i j, lst[i]? = some j → a_clueList i = nI j) {K k : Nat} (hK : K ≤ 21) (hk : k < K) {z : Nat → Nat} (hz : a_sizes k = nI (z k)) (h9 : (mf_lk lst (a_cluesOf k)).length ≤ 9) {r0 : Nat → Nat}
    (hr : ∀ j, j ∈ lst → a_room j = nI (r0 j + mg_cap j ((mf_ks z a_cluesOf K).drop (k + 1)))) {post : SX → Prop} {J : Int32 → (Nat → Int32) → (Nat → Int32) → (Nat → Int32) → (Nat → Int32) → (Nat → Int32) → (Nat → Int32) → (Nat → Int32) → (Nat → Int32) → (Nat → Int32) → (Nat → Int32) → (Nat → Int32) → (Nat → Int32) → (Nat → Int32) → (Nat → Int32) → (Nat → Int32) → (Nat → Int32) → Prop}
    (h : ∀ rm lk lr : Nat → Int32, (∀ j, j ∈ lst → rm j = nI (r0 j + mg_cap j ((mf_ks z a_cluesOf K).drop k))) → (∀ q, 9 * (k + 1) ≤ q → lk q = a_links q ∧ lr q = a_laterRoom q) → ma_K lst (mf_ks z a_cluesOf K) (a_cluesOf k) r0 k (nI (9 * k + (mf_lk lst (a_cluesOf k)).length)) lk lr → J (nI k + (-1)) a_around a_clueOf a_kindOf a_cluesOf a_sizes a_clueList a_missing rm lk lr (upd a_linkEnd k (nI (9 * k + (mf_lk lst (a_cluesOf k)).length))) a_taken a_most a_countBefore a_ways (upd a_minesIn k 0)) :
    ∃ n, wX_linkKinds_16 post J (nI k) f_shown f_total f_knownMined f_knownFree f_lastKind f_listed f_count f_numbers f_countedCell f_countedMines f_counted n (nI (9 * k)) 0 a_around a_clueOf a_kindOf a_cluesOf a_sizes a_clueList a_missing a_room a_links a_laterRoom a_linkEnd a_taken a_most a_countBefore a_ways a_minesIn := by
  have vk : vp_in (nI k) 21 := vp_in_nI (by omega) (by omega)
  have ck : (nI k).toNatClampNeg = k := nI_clamp (by omega)
  have hd := mf_drop z a_cluesOf hk
  refine loop_0 (σ := Int32 × (Nat → Int32) × (Nat → Int32) × (Nat → Int32)) (fun n i s => wX_linkKinds_16 post J (nI k) f_shown f_total f_knownMined f_knownFree f_lastKind f_listed f_count f_numbers f_countedCell f_countedMines f_counted n s.1 (nI i) a_around a_clueOf a_kindOf a_cluesOf a_sizes a_clueList a_missing s.2.1 s.2.2.1 s.2.2.2 a_linkEnd a_taken a_most a_countBefore a_ways a_minesIn)
    (fun i s => s.1 = nI (9 * k + (mf_lk (lst.take i) (a_cluesOf k)).length) ∧ (∀ j, j ∈ lst → (j ∈ lst.take i ∧ bt (a_cluesOf k) j = true → s.2.1 j = nI (r0 j + mg_cap j ((mf_ks z a_cluesOf K).drop (k + 1)) + z k)) ∧ (¬ (j ∈ lst.take i ∧ bt (a_cluesOf k) j = true) → s.2.1 j = nI (r0 j + mg_cap j ((mf_ks z a_cluesOf K).drop (k + 1))))) ∧
      (∀ q, 9 * (k + 1) ≤ q → s.2.2.1 q = a_links q ∧ s.2.2.2 q = a_laterRoom q) ∧ (∀ t j, (mf_lk (lst.take i) (a_cluesOf k))[t]? = some j → s.2.2.1 (9 * k + t) = nI j ∧ s.2.2.2 (9 * k + t) = nI (r0 j + mg_cap j ((mf_ks z a_cluesOf K).drop (k + 1))))) lst.length (nI (9 * k), a_room, a_links, a_laterRoom)
    ⟨by simp [mf_lk], fun j hj => ⟨fun y => by simp at y, fun _ => hr j hj⟩, fun _ _ => ⟨rfl, rfl⟩, fun t j ht => by simp [mf_lk] at ht⟩ (fun n s hs => ?_) (fun n i s hi hs hk' => ?_)
  · obtain ⟨x3, rm, lk, lr⟩ := s
    obtain ⟨q1, q2, q3, q4⟩ := hs
    dsimp only at q1 q2 q3 q4
    rw [List.take_length] at q1 q2 q4
    refine br_t (by rw [hls]; exact nI_le (Nat.le_refl _) (by omega)) ⟨vk, nm_r (e' := upd a_linkEnd k (nI (9 * k + (mf_lk lst (a_cluesOf k)).length))) (by rw [ck, q1]) ⟨vk, nm_r (e' := upd a_minesIn k 0) (by rw [ck]) (nm_e (h rm lk lr (fun j hj => ?_) q3 ⟨rfl, q4⟩))⟩⟩
    rw [hd]
    simp only [mg_cap]
    by_cases y : bt (a_cluesOf k) j = true
    · rw [if_pos y, (q2 j hj).1 ⟨hj, y⟩]
      congr 1
      omega
    · rw [if_neg y, (q2 j hj).2 (fun w => y w.2)]
      congr 1
      omega
  · obtain ⟨x3, rm, lk, lr⟩ := s
    obtain ⟨q1, q2, q3, q4⟩ := hs
    dsimp only at q1 q2 q3 q4
    have hi' : lst[i]? = some lst[i] := List.getElem?_eq_getElem hi
    have hmem : lst[i] ∈ lst := List.getElem_mem hi
    have j21 := h21 _ hmem
    have nt := ma_nt nd hi
    have tk : lst.take (i + 1) = lst.take i ++ [lst[i]] := List.take_succ_eq_append_getElem hi
    have lks := ma_lks (m := a_cluesOf k) hi
    refine br_f (by rw [hls]; exact nI_ge hi (by omega)) ⟨vp_in_nI (by omega) (by omega), nm_r (e' := nI lst[i]) (by rw [nI_clamp (by omega)]; exact hcl i _ hi') ⟨vk, ?_⟩⟩
    rw [ck]
    have cj : (nI lst[i]).toNatClampNeg = lst[i] := nI_clamp (by omega)
    have vj : vp_in (nI lst[i]) 21 := vp_in_nI j21 (by omega)
    refine mx_has (by omega) (fun hb => br_f mx_10 ?_) (fun hb => br_t rfl (nm_r (nI_1 i) (hk' (x3, rm, lk, lr) ⟨?_, fun j hj => ⟨fun y => ?_, fun y => ?_⟩, q3, ?_⟩)))
    · have hb' := hb
      rw [if_pos hb] at lks
      have hle : (mf_lk (lst.take i) (a_cluesOf k)).length + 1 ≤ 9 := by
        have := ma_lkl (lst := lst) (m := a_cluesOf k) (i + 1)
        rw [lks, List.length_append] at this
        simp at this
        omega
      have vx : vp_in x3 189 := by rw [q1]; exact vp_in_nI (by omega) (by omega)
      have cx : x3.toNatClampNeg = 9 * k + (mf_lk (lst.take i) (a_cluesOf k)).length := by rw [q1]; exact nI_clamp (by omega)
      have rj : rm lst[i] = nI (r0 lst[i] + mg_cap lst[i] ((mf_ks z a_cluesOf K).drop (k + 1))) := (q2 _ hmem).2 (fun w => nt w.1)
      refine ⟨vx, nm_r (e' := upd lk (9 * k + (mf_lk (lst.take i) (a_cluesOf k)).length) (nI lst[i])) (by rw [cx]) ⟨vj, vx, nm_r (e' := upd lr (9 * k + (mf_lk (lst.take i) (a_cluesOf k)).length) (rm lst[i])) (by rw [cx, cj]) ⟨vj, vk, vj, nm_r (e' := upd rm lst[i] (nI (r0 lst[i] + mg_cap lst[i] ((mf_ks z a_cluesOf K).drop (k + 1)) + z k))) (by dsimp only; rw [cj, hz, rj, nI_add]) (nm_r (e' := nI (9 * k + (mf_lk (lst.take (i + 1)) (a_cluesOf k)).length)) ?_ (nm_r (nI_1 i) (hk' (_, upd rm lst[i] (nI (r0 lst[i] + mg_cap lst[i] ((mf_ks z a_cluesOf K).drop (k + 1)) + z k)), upd lk (9 * k + (mf_lk (lst.take i) (a_cluesOf k)).length) (nI lst[i]), upd lr (9 * k + (mf_lk (lst.take i) (a_cluesOf k)).length) (rm lst[i])) ⟨rfl, fun j hj => ⟨fun y => ?_, fun y => ?_⟩, fun q hq => ?_, fun t j ht => ?_⟩)))⟩⟩⟩
      · rw [q1, nI_1, lks, List.length_append]; rfl
      · dsimp only
        by_cases w : j = lst[i]
        · rw [w, pk_us]
        · rw [pk_un w]
          refine (q2 j hj).1 ⟨?_, y.2⟩
          have := y.1
          rw [tk, List.mem_append] at this
          rcases this with v | v
          · exact v
          · simp at v; exact absurd v w
      · dsimp only
        have w : j ≠ lst[i] := fun w => y ⟨by rw [tk, w]; exact List.mem_append_right _ (List.mem_singleton.mpr rfl), by rw [w]; exact hb'⟩
        rw [pk_un w]
        refine (q2 j hj).2 (fun v => y ⟨?_, v.2⟩)
        rw [tk]; exact List.mem_append_left _ v.1
      · dsimp only
        rw [pk_un (by omega), pk_un (by omega)]
        exact q3 q hq
      · dsimp only
        rw [lks] at ht
        by_cases w : t = (mf_lk (lst.take i) (a_cluesOf k)).length
        · subst w
          rw [List.getElem?_append_right (Nat.le_refl _)] at ht
          simp at ht
          rw [pk_us, pk_us, ht]
          rw [ht] at rj
          exact ⟨rfl, rj⟩
        · rw [pk_un (by omega), pk_un (by omega)]
          refine q4 t j ?_
          rcases Nat.lt_or_ge t (mf_lk (lst.take i) (a_cluesOf k)).length with v | v
          · rw [List.getElem?_append_left v] at ht; exact ht
          · rw [List.getElem?_append_right v] at ht
            have := (List.getElem?_eq_some_iff.mp ht).1
            simp at this; omega
    · have hb' : ¬ bt (a_cluesOf k) lst[i] = true := by rw [hb]; simp
      rw [if_neg hb', List.append_nil] at lks
      rw [lks]; exact q1
    · refine (q2 j hj).1 ⟨?_, y.2⟩
      have := y.1
      rw [tk, List.mem_append] at this
      rcases this with v | v
      · exact v
      · simp at v
        rw [v, hb] at y
        exact absurd y.2 (by simp)
    · refine (q2 j hj).2 (fun v => y ⟨?_, v.2⟩)
      rw [tk]; exact List.mem_append_left _ v.1
    · have hb' : ¬ bt (a_cluesOf k) lst[i] = true := by rw [hb]; simp
      rw [if_neg hb', List.append_nil] at lks
      dsimp only
      rw [lks]; exact q4
theorem mx_link {lst : List Nat} (nd : lst.Nodup) (h21 : ∀ j, j ∈ lst → j < 21) (hl : lst.length ≤ 21) (hls : f_listed = nI lst.length) (hcl : ∀ i j, lst[i]? = some j → a_clueList i = nI j) {K : Nat} (hK : K ≤ 21) {z : Nat → Nat} (hz : ∀ k, k < K → a_sizes k = nI (z k)) (h9 : ∀ k, k < K → (mf_lk lst (a_cluesOf k)).length ≤ 9) {r0 : Nat → Nat}
    (hr : ∀ j, j ∈ lst → a_room j = nI (r0 j)) {post : SX → Prop}
    (h : ∀ rm lk lr le mi : Nat → Int32, (∀ j, j ∈ lst → rm j = nI (r0 j + mg_cap j (mf_ks z a_cluesOf K))) → (∀ k, k < K → mi k = 0 ∧ ma_K lst (mf_ks z a_cluesOf K) (a_cluesOf k) r0 k (le k) lk lr) → post (f_shown, f_total, f_knownMined, f_knownFree, f_lastKind, f_listed, f_count, f_numbers, f_countedCell, f_countedMines, f_counted, a_around, a_clueOf, a_kindOf, a_cluesOf, a_sizes, a_clueList, a_missing, rm, lk, lr, le, a_taken, a_most, a_countBefore, a_ways, mi)) :
    wpX_linkKinds post (f_shown, f_total, f_knownMined, f_knownFree, f_lastKind, f_listed, f_count, f_numbers, f_countedCell, f_countedMines, f_counted, a_around, a_clueOf, a_kindOf, a_cluesOf, a_sizes, a_clueList, a_missing, a_room, a_links, a_laterRoom, a_linkEnd, a_taken, a_most, a_countBefore, a_ways, a_minesIn) (nI K) := by
  have key := pk_loopD (σ := (Nat → Int32) × (Nat → Int32) × (Nat → Int32) × (Nat → Int32) × (Nat → Int32)) (fun n i s => i ≤ K → wX_linkKinds_4 post f_shown f_total f_knownMined f_knownFree f_lastKind f_listed f_count f_numbers f_countedCell f_countedMines f_counted n (nI i + (-1)) a_around a_clueOf a_kindOf a_cluesOf a_sizes a_clueList a_missing s.1 s.2.1 s.2.2.1 s.2.2.2.1 a_taken a_most a_countBefore a_ways s.2.2.2.2)
    (fun i s => i ≤ K → (∀ j, j ∈ lst → s.1 j = nI (r0 j + mg_cap j ((mf_ks z a_cluesOf K).drop i))) ∧ (∀ k, i ≤ k → k < K → s.2.2.2.2 k = 0 ∧ ma_K lst (mf_ks z a_cluesOf K) (a_cluesOf k) r0 k (s.2.2.2.1 k) s.2.1 s.2.2.1)) (fun n s hs hi => ?_) (fun n i s hs hk hi => ?_) K (a_room, a_links, a_laterRoom, a_linkEnd, a_minesIn) (fun _ => ⟨fun j hj => ?_, fun k h1 h2 => by omega⟩) (Nat.le_refl K)
  · refine nm_r (e' := nI K + (-1)) (by rw [Int32.sub_eq_add_neg]) ⟨K + 1, key⟩
  · obtain ⟨a, b⟩ := hs hi
    refine br_t (by rw [nI_0]; decide) (h _ _ _ _ _ a (fun k hk => b k (Nat.zero_le _) hk))
  · obtain ⟨rm, lk, lr, le, mi⟩ := s
    obtain ⟨a, b⟩ := hs hi
    dsimp only at a b
    rw [pk_m1]
    refine br_f (nI_pos (by omega)) (nm_r (e' := nI (9 * i)) (by rw [show (9 : Int32) = nI 9 from rfl, pk_mul, Nat.mul_comm]) ?_)
    refine mx_link1 nd h21 hl hls hcl hK (k := i) (by omega) (hz i (by omega)) (h9 i (by omega)) a (fun rm' lk' lr' g1 g2 g3 => hk (rm', lk', lr', upd le i (nI (9 * i + (mf_lk lst (a_cluesOf i)).length)), upd mi i 0) (fun _ => ⟨g1, fun k h1 h2 => ?_⟩) (by omega))
    dsimp only
    by_cases y : k = i
    · subst y
      rw [pk_us, pk_us]
      exact ⟨rfl, g3⟩
    · rw [pk_un y, pk_un y]
      obtain ⟨c1, c2, c3⟩ := b k (by omega) h2
      refine ⟨c1, c2, fun t j ht => ?_⟩
      obtain ⟨d1, d2⟩ := g2 (9 * k + t) (by omega)
      rw [d1, d2]
      exact c3 t j ht
  · dsimp only
    rw [mf_dropn]
    exact hr j hj
theorem mx_room {lst : List Nat} (h21 : ∀ j, j ∈ lst → j < 21) (hl : lst.length ≤ 21) (hls : f_listed = nI lst.length) (hcl : ∀ i j, lst[i]? = some j → a_clueList i = nI j) {mv rv : Nat → Nat} (hm : ∀ j, j ∈ lst → a_missing j = nI (mv j) ∧ a_room j = nI (rv j) ∧ mv j < 1000 ∧ rv j < 1000) {post : Int32 → Prop}
    (h1 : (∀ j, j ∈ lst → mv j ≤ rv j) → post 1) (h0 : (∃ j, j ∈ lst ∧ rv j < mv j) → post 0) : wpX_cluesHaveRoom post (f_shown, f_total, f_knownMined, f_knownFree, f_lastKind, f_listed, f_count, f_numbers, f_countedCell, f_countedMines, f_counted, a_around, a_clueOf, a_kindOf, a_cluesOf, a_sizes, a_clueList, a_missing, a_room, a_links, a_laterRoom, a_linkEnd, a_taken, a_most, a_countBefore, a_ways, a_minesIn) := by
  refine loop_0 (σ := Unit) (fun n i _ => wX_cluesHaveRoom_2 post f_shown f_total f_knownMined f_knownFree f_lastKind f_listed f_count f_numbers f_countedCell f_countedMines f_counted a_around a_clueOf a_kindOf a_cluesOf a_sizes a_clueList a_missing a_room a_links a_laterRoom a_linkEnd a_taken a_most a_countBefore a_ways a_minesIn n (nI i)) (fun i _ => ∀ t j, t < i → lst[t]? = some j → mv j ≤ rv j) lst.length () (fun t j ht => by omega) (fun n s hs => ?_) (fun n i s hi hs hk => ?_)
  · refine br_t (by rw [hls]; exact nI_le (Nat.le_refl _) (by omega)) (h1 (fun j hj => ?_))
    obtain ⟨t, ht⟩ := List.mem_iff_getElem?.mp hj
    exact hs t j (List.getElem?_eq_some_iff.mp ht).1 ht
  · have hi' : lst[i]? = some lst[i] := List.getElem?_eq_getElem hi
    have hmem : lst[i] ∈ lst := List.getElem_mem hi
    have j21 := h21 _ hmem
    have vj : vp_in (nI lst[i]) 21 := vp_in_nI j21 (by omega)
    obtain ⟨m1, m2, m3, m4⟩ := hm _ hmem
    refine br_f (by rw [hls]; exact nI_ge hi (by omega)) ⟨vp_in_nI (by omega) (by omega), nm_r (e' := nI lst[i]) (by rw [nI_clamp (by omega)]; exact hcl i _ hi') ⟨vj, vj, ?_⟩⟩
    rw [nI_clamp (by omega), m1, m2]
    refine pk_le (mv lst[i]) (rv lst[i]) (fun y => nm_r (nI_1 i) (hk () (fun t j ht he => ?_))) (fun y => h0 ⟨_, hmem, y⟩)
    by_cases w : t = i
    · subst w
      rw [hi'] at he
      cases he
      exact y
    · exact hs t j (by omega) he
end
end
section
/-! the component's search: one kind -/
theorem mq_capd (j : Nat) : ∀ (ks : List (Nat × Int32)) (k : Nat), mg_cap j (ks.drop k) ≤ mg_cap j ks
  | [], k => by simp
  | a :: ks, 0 => by simp
  | a :: ks, k + 1 => by
    have := mq_capd j ks k
    rw [List.drop_succ_cons, mg_cap]; omega
def mq_St (lst : List Nat) (K : Nat) (z : Nat → Nat) (co sz lk lr le : Nat → Int32) (r0 : Nat → Nat) : Prop :=
  lst.Nodup ∧ (∀ j, j ∈ lst → j < 21) ∧ K ≤ 21 ∧ (∀ j, j ∈ lst → r0 j ≤ 8) ∧ (∀ j, mg_cap j (mf_ks z co K) ≤ 40) ∧ (∀ k, k < K → sz k = nI (z k) ∧ z k ≤ 20 ∧ (mf_lk lst (co k)).length ≤ 9 ∧ ma_K lst (mf_ks z co K) (co k) r0 k (le k) lk lr)
def mq_M (lst : List Nat) (ms : Nat → Int32) (w : Nat → Int) : Prop := ∀ j, j ∈ lst → 0 ≤ w j ∧ ms j = nI (w j).toNat
def mq_r (r0 : Nat → Nat) : Nat → Int := fun j => (r0 j : Int)
/-- x is taken from the clues of m -/
def mq_D (lst : List Nat) (m x : Int32) (ms ms' : Nat → Int32) : Prop := ∀ j, j ∈ lst → (bt m j = true → ms' j = ms j - x) ∧ (bt m j = false → ms' j = ms j)
theorem mq_nt {l : List Nat} (nd : l.Nodup) {i : Nat} (hi : i < l.length) : l[i] ∉ l.take i := ma_nt nd hi
theorem mq_lknd {lst : List Nat} (nd : lst.Nodup) (m : Int32) : (mf_lk lst m).Nodup := List.Pairwise.filter _ nd
section
variable {f_shown f_total f_knownMined f_knownFree f_lastKind f_listed f_count f_numbers f_countedCell f_countedMines f_counted : Int32} {a_around a_clueOf a_kindOf a_cluesOf a_sizes a_clueList a_missing a_room a_links a_laterRoom a_linkEnd a_taken a_most a_countBefore a_ways a_minesIn : Nat → Int32}
variable {lst : List Nat} {K : Nat} {z : Nat → Nat} {r0 : Nat → Nat}
theorem mq_take (hSt : mq_St lst K z a_cluesOf a_sizes a_links a_laterRoom a_linkEnd r0) {k : Nat} (hk : k < K) {x : Int32} {post : SX → Prop}
    (h : ∀ ms, mq_D lst (a_cluesOf k) x a_missing ms → post (f_shown, f_total, f_knownMined, f_knownFree, f_lastKind, f_listed, f_count, f_numbers, f_countedCell, f_countedMines, f_counted, a_around, a_clueOf, a_kindOf, a_cluesOf, a_sizes, a_clueList, ms, a_room, a_links, a_laterRoom, a_linkEnd, upd a_taken k (a_taken k + x), a_most, upd a_countBefore k f_count, a_ways, a_minesIn)) : wpX_take post (f_shown, f_total, f_knownMined, f_knownFree, f_lastKind, f_listed, f_count, f_numbers, f_countedCell, f_countedMines, f_counted, a_around, a_clueOf, a_kindOf, a_cluesOf, a_sizes, a_clueList, a_missing, a_room, a_links, a_laterRoom, a_linkEnd, a_taken, a_most, a_countBefore, a_ways, a_minesIn) (nI k) x := by
  obtain ⟨nd, h21, hK, hr8, hc40, hkk⟩ := hSt
  obtain ⟨hs, hz, hl9, hle, hlk⟩ := hkk k hk
  have vk : vp_in (nI k) 21 := vp_in_nI (by omega) (by omega)
  have ck : (nI k).toNatClampNeg = k := nI_clamp (by omega)
  refine ⟨vk, vk, nm_r (e' := upd a_taken k (a_taken k + x)) (by rw [ck]) (nm_r (e' := nI (9 * k)) (by rw [show (9 : Int32) = nI 9 from rfl, pk_mul, Nat.mul_comm]) ?_)⟩
  refine loop_0 (σ := Nat → Int32) (fun n i ms => wX_take_15 post (nI k) x f_shown f_total f_knownMined f_knownFree f_lastKind f_listed f_count f_numbers f_countedCell f_countedMines f_counted n (nI (9 * k + i)) a_around a_clueOf a_kindOf a_cluesOf a_sizes a_clueList ms a_room a_links a_laterRoom a_linkEnd (upd a_taken k (a_taken k + x)) a_most a_countBefore a_ways a_minesIn) (fun i ms => ∀ j, j ∈ lst → (j ∈ (mf_lk lst (a_cluesOf k)).take i → ms j = a_missing j - x) ∧ (j ∉ (mf_lk lst (a_cluesOf k)).take i → ms j = a_missing j)) (mf_lk lst (a_cluesOf k)).length a_missing (fun j _ => ⟨fun y => by simp at y, fun _ => rfl⟩) (fun n ms hms => ?_) (fun n i ms hi hms hk' => ?_)
  · refine ⟨vk, br_t (by rw [ck, hle]; exact nI_le (Nat.le_refl _) (by omega)) ⟨vk, nm_r (e' := upd a_countBefore k f_count) (by rw [ck]) (h ms (fun j hj => ⟨fun hb => ?_, fun hb => ?_⟩))⟩⟩
    · rw [List.take_length] at hms
      exact (hms j hj).1 (mf_lk_mem.mpr ⟨hj, hb⟩)
    · rw [List.take_length] at hms
      exact (hms j hj).2 (fun y => by have := (mf_lk_mem.mp y).2; rw [hb] at this; cases this)
  · have hi' : (mf_lk lst (a_cluesOf k))[i]? = some (mf_lk lst (a_cluesOf k))[i] := List.getElem?_eq_getElem hi
    have hmem : (mf_lk lst (a_cluesOf k))[i] ∈ lst := (mf_lk_mem.mp (List.getElem_mem hi)).1
    have j21 := h21 _ hmem
    have nt := mq_nt (mq_lknd nd (a_cluesOf k)) hi
    have tk : (mf_lk lst (a_cluesOf k)).take (i + 1) = (mf_lk lst (a_cluesOf k)).take i ++ [(mf_lk lst (a_cluesOf k))[i]] := List.take_succ_eq_append_getElem hi
    have el : a_links (nI (9 * k + i)).toNatClampNeg = nI (mf_lk lst (a_cluesOf k))[i] := by rw [nI_clamp (by omega)]; exact (hlk i _ hi').1
    have vj : vp_in (nI (mf_lk lst (a_cluesOf k))[i]) 21 := vp_in_nI j21 (by omega)
    have cj : (nI (mf_lk lst (a_cluesOf k))[i]).toNatClampNeg = (mf_lk lst (a_cluesOf k))[i] := nI_clamp (by omega)
    refine ⟨vk, br_f (by rw [ck, hle]; exact nI_ge (by omega) (by omega)) ⟨vp_in_nI (by omega) (by omega), ?_⟩⟩
    rw [el]
    refine ⟨vj, vj, nm_r (e' := upd ms (mf_lk lst (a_cluesOf k))[i] (ms (mf_lk lst (a_cluesOf k))[i] - x)) (by rw [cj]) (nm_r (e' := nI (9 * k + (i + 1))) (nI_1 _) (hk' (upd ms (mf_lk lst (a_cluesOf k))[i] (ms (mf_lk lst (a_cluesOf k))[i] - x)) (fun j hj => ⟨fun y => ?_, fun y => ?_⟩)))⟩
    · by_cases w : j = (mf_lk lst (a_cluesOf k))[i]
      · rw [w, pk_us, (hms _ hmem).2 nt]
      · rw [pk_un w]
        rw [tk, List.mem_append] at y
        rcases y with y | y
        · exact (hms j hj).1 y
        · exact absurd (List.mem_singleton.mp y) w
    · have w : j ≠ (mf_lk lst (a_cluesOf k))[i] := fun w => y (by rw [tk, w]; exact List.mem_append_right _ (List.mem_singleton.mpr rfl))
      rw [pk_un w]
      exact (hms j hj).2 (fun v => y (by rw [tk]; exact List.mem_append_left _ v))
theorem mq_few (hSt : mq_St lst K z a_cluesOf a_sizes a_links a_laterRoom a_linkEnd r0) {k : Nat} (hk : k < K) {w : Nat → Int} (hM : mq_M lst a_missing w) (hw : ∀ j, j ∈ lst → w j ≤ 100) {post : Int32 → SX → Prop}
    (h1 : ∀ f g ms, f ≤ g → g ≤ z k → (∀ t, ms_can (mf_lk lst (a_cluesOf k)) (z k) (a_cluesOf k) (mq_r r0) ((mf_ks z a_cluesOf K).drop (k + 1)) w t ↔ f ≤ t ∧ t ≤ g) → mq_D lst (a_cluesOf k) (nI f) a_missing ms → post 1 (f_shown, f_total, f_knownMined, f_knownFree, f_lastKind, f_listed, f_count, f_numbers, f_countedCell, f_countedMines, f_counted, a_around, a_clueOf, a_kindOf, a_cluesOf, a_sizes, a_clueList, ms, a_room, a_links, a_laterRoom, a_linkEnd, upd (upd a_taken k 0) k (nI f), upd a_most k (nI g), upd a_countBefore k f_count, a_ways, a_minesIn))
    (h0 : (∀ t, ¬ ms_can (mf_lk lst (a_cluesOf k)) (z k) (a_cluesOf k) (mq_r r0) ((mf_ks z a_cluesOf K).drop (k + 1)) w t) → post 0 (f_shown, f_total, f_knownMined, f_knownFree, f_lastKind, f_listed, f_count, f_numbers, f_countedCell, f_countedMines, f_counted, a_around, a_clueOf, a_kindOf, a_cluesOf, a_sizes, a_clueList, a_missing, a_room, a_links, a_laterRoom, a_linkEnd, a_taken, a_most, a_countBefore, a_ways, a_minesIn)) : wpX_takeFewest post (f_shown, f_total, f_knownMined, f_knownFree, f_lastKind, f_listed, f_count, f_numbers, f_countedCell, f_countedMines, f_counted, a_around, a_clueOf, a_kindOf, a_cluesOf, a_sizes, a_clueList, a_missing, a_room, a_links, a_laterRoom, a_linkEnd, a_taken, a_most, a_countBefore, a_ways, a_minesIn) (nI k) := by
  have hSt' := hSt
  obtain ⟨nd, h21, hK, hr8, hc40, hkk⟩ := hSt
  obtain ⟨hs, hz, hl9, hle, hlk⟩ := hkk k hk
  have vk : vp_in (nI k) 21 := vp_in_nI (by omega) (by omega)
  have ck : (nI k).toNatClampNeg = k := nI_clamp (by omega)
  refine ⟨vk, nm_r (e' := nI (z k)) (by rw [ck]; exact hs) (nm_r (e' := nI (9 * k)) (by rw [show (9 : Int32) = nI 9 from rfl, pk_mul, Nat.mul_comm]) ?_)⟩
  refine loop_0 (σ := Int32 × Int32) (fun n i s => wX_takeFewest_15 post (nI k) f_shown f_total f_knownMined f_knownFree f_lastKind f_listed f_count f_numbers f_countedCell f_countedMines f_counted a_around a_clueOf a_kindOf a_cluesOf a_sizes a_clueList a_missing a_room a_links a_laterRoom a_linkEnd a_taken a_most a_countBefore a_ways a_minesIn n s.1 s.2 (nI (9 * k + i)))
    (fun i s => ∃ f g : Nat, s.1 = nI f ∧ s.2 = nI g ∧ f ≤ 100 ∧ g ≤ z k ∧ (∀ t : Nat, t ≤ g ↔ t ≤ z k ∧ ∀ j, j ∈ (mf_lk lst (a_cluesOf k)).take i → (t : Int) ≤ w j) ∧ (∀ t : Nat, f ≤ t ↔ ∀ j, j ∈ (mf_lk lst (a_cluesOf k)).take i → w j ≤ (t : Int) + (mq_r r0 j + (mg_cap j ((mf_ks z a_cluesOf K).drop (k + 1)) : Int))))
    (mf_lk lst (a_cluesOf k)).length (0, nI (z k)) ⟨0, z k, rfl, rfl, by omega, Nat.le_refl _, fun t => by simp, fun t => by simp⟩ (fun n s hs' => ?_) (fun n i s hi hs' hk' => ?_)
  · obtain ⟨x2, x3⟩ := s
    obtain ⟨f, g, e1, e2, hf, hg, c1, c2⟩ := hs'
    dsimp only at e1 e2
    subst e1 e2
    rw [List.take_length] at c1 c2
    have can : ∀ t, ms_can (mf_lk lst (a_cluesOf k)) (z k) (a_cluesOf k) (mq_r r0) ((mf_ks z a_cluesOf K).drop (k + 1)) w t ↔ f ≤ t ∧ t ≤ g := by
      intro t
      rw [c1 t, c2 t]
      constructor
      · rintro ⟨a, b⟩
        exact ⟨fun j hj => (b j hj).2, a, fun j hj => (b j hj).1⟩
      · rintro ⟨a, b, c⟩
        exact ⟨b, fun j hj => ⟨c j hj, a j hj⟩⟩
    refine ⟨vk, br_t (by rw [ck, hle]; exact nI_le (Nat.le_refl _) (by omega)) ?_⟩
    refine pk_le f g (fun hfg => ⟨vk, nm_r (e' := upd a_taken k 0) (by rw [ck]) ⟨vk, nm_r (e' := upd a_most k (nI g)) (by rw [ck]) (mq_take hSt' hk (fun ms hD => ?_))⟩⟩) (fun hfg => h0 (fun t ht => ?_))
    · have := h1 f g ms hfg hg can hD
      rw [pk_us, Int32.zero_add]
      exact this
    · have := (can t).mp ht
      omega
  · obtain ⟨x2, x3⟩ := s
    obtain ⟨f, g, e1, e2, hf, hg, c1, c2⟩ := hs'
    dsimp only at e1 e2
    subst e1 e2
    have hi' : (mf_lk lst (a_cluesOf k))[i]? = some (mf_lk lst (a_cluesOf k))[i] := List.getElem?_eq_getElem hi
    have hmem : (mf_lk lst (a_cluesOf k))[i] ∈ lst := (mf_lk_mem.mp (List.getElem_mem hi)).1
    have tk : (mf_lk lst (a_cluesOf k)).take (i + 1) = (mf_lk lst (a_cluesOf k)).take i ++ [(mf_lk lst (a_cluesOf k))[i]] := List.take_succ_eq_append_getElem hi
    obtain ⟨el1, el2⟩ := hlk i _ hi'
    rw [tk] at hk'
    generalize (mf_lk lst (a_cluesOf k))[i] = j0 at *
    have j21 := h21 _ hmem
    have hcap : mg_cap j0 ((mf_ks z a_cluesOf K).drop (k + 1)) ≤ 40 := Nat.le_trans (mq_capd j0 _ _) (hc40 j0)
    have hr := hr8 _ hmem
    obtain ⟨w0, wm⟩ := hM _ hmem
    have w100 := hw _ hmem
    obtain ⟨a, ha⟩ : ∃ a : Nat, w j0 = (a : Int) := ⟨(w j0).toNat, by omega⟩
    rw [ha, Int.toNat_natCast] at wm
    have c9 : (nI (9 * k + i)).toNatClampNeg = 9 * k + i := nI_clamp (by omega)
    have v9 : vp_in (nI (9 * k + i)) 189 := vp_in_nI (by omega) (by omega)
    have vj : vp_in (nI j0) 21 := vp_in_nI j21 (by omega)
    have cj : (nI j0).toNatClampNeg = j0 := nI_clamp (by omega)
    generalize hb : mg_cap j0 ((mf_ks z a_cluesOf K).drop (k + 1)) = cp at *
    have step : ∀ g' : Nat, g' ≤ z k → (∀ t : Nat, t ≤ g' ↔ t ≤ g ∧ t ≤ a) → wX_takeFewest_49 post (wX_takeFewest_15 post (nI k) f_shown f_total f_knownMined f_knownFree f_lastKind f_listed f_count f_numbers f_countedCell f_countedMines f_counted a_around a_clueOf a_kindOf a_cluesOf a_sizes a_clueList a_missing a_room a_links a_laterRoom a_linkEnd a_taken a_most a_countBefore a_ways a_minesIn n) (nI k) (nI f) (nI g') (nI (9 * k + i)) (nI a) f_shown f_total f_knownMined f_knownFree f_lastKind f_listed f_count f_numbers f_countedCell f_countedMines f_counted a_around a_clueOf a_kindOf a_cluesOf a_sizes a_clueList a_missing a_room a_links a_laterRoom a_linkEnd a_taken a_most a_countBefore a_ways a_minesIn := by
      intro g' hg' cg
      have cg2 : ∀ t : Nat, t ≤ g' ↔ t ≤ z k ∧ ∀ j, j ∈ (mf_lk lst (a_cluesOf k)).take i ++ [j0] → (t : Int) ≤ w j := by
        intro t
        rw [cg t, c1 t]
        constructor
        · rintro ⟨⟨p, q⟩, r⟩
          refine ⟨p, fun j hj => ?_⟩
          rcases List.mem_append.mp hj with y | y
          · exact q j y
          · rw [List.mem_singleton.mp y, ha]; omega
        · rintro ⟨p, q⟩
          refine ⟨⟨p, fun j hj => q j (List.mem_append_left _ hj)⟩, ?_⟩
          have := q j0 (List.mem_append_right _ (List.mem_singleton.mpr rfl))
          rw [ha] at this; omega
      refine ⟨v9, ?_⟩
      rw [c9, el2]
      have ti : (nI a - nI (r0 j0 + cp)).toInt = (a : Int) - ((r0 j0 + cp : Nat) : Int) := pk_sub_toInt (by omega) (by omega)
      have fi : (nI f).toInt = (f : Int) := nI_toInt (by omega)
      by_cases y : nI a - nI (r0 j0 + cp) ≤ nI f
      · have y' := Int32.le_iff_toInt_le.mp y
        rw [ti, fi] at y'
        refine br_t y (nm_r (e' := nI (9 * k + (i + 1))) (nI_1 _) (hk' (nI f, nI g') ⟨f, g', rfl, rfl, hf, hg', cg2, fun t => ?_⟩))
        rw [c2 t]
        constructor
        · intro p j hj
          rcases List.mem_append.mp hj with q | q
          · exact p j q
          · rw [List.mem_singleton.mp q, ha, hb]
            have := (c2 t).mpr p
            simp only [mq_r]
            omega
        · intro p j hj
          exact p j (List.mem_append_left _ hj)
      · have y' : ¬ (nI a - nI (r0 j0 + cp)).toInt ≤ (nI f).toInt := fun q => y (Int32.le_iff_toInt_le.mpr q)
        rw [ti, fi] at y'
        refine br_f y ⟨v9, nm_r (e' := nI (a - (r0 j0 + cp))) (pk_sub (by omega)) (nm_r (e' := nI (9 * k + (i + 1))) (nI_1 _) (hk' (nI (a - (r0 j0 + cp)), nI g') ⟨a - (r0 j0 + cp), g', rfl, rfl, by omega, hg', cg2, fun t => ?_⟩))⟩
        constructor
        · intro p j hj
          rcases List.mem_append.mp hj with q | q
          · exact (c2 t).mp (by omega) j q
          · rw [List.mem_singleton.mp q, ha, hb]
            simp only [mq_r]
            omega
        · intro p
          have := p j0 (List.mem_append_right _ (List.mem_singleton.mpr rfl))
          rw [ha, hb] at this
          simp only [mq_r] at this
          omega
    refine ⟨vk, br_f (by rw [ck, hle]; exact nI_ge (by omega) (by omega)) ⟨v9, ?_⟩⟩
    rw [c9, el1]
    refine ⟨vj, nm_r (e' := nI a) (by rw [cj]; exact wm) ?_⟩
    exact pk_le g a (fun y => step g hg (fun t => ⟨fun p => ⟨p, by omega⟩, fun p => p.1⟩)) (fun y => step a (by omega) (fun t => ⟨fun p => ⟨by omega, p⟩, fun p => p.2⟩))
theorem mq_more (hSt : mq_St lst K z a_cluesOf a_sizes a_links a_laterRoom a_linkEnd r0) {k : Nat} (hk : k < K) {t g : Nat} (ht : a_taken k = nI t) (hg : a_most k = nI g) (htg : t ≤ g) (hgz : g ≤ 20) {post : Int32 → SX → Prop}
    (h1 : t < g → ∀ ms, mq_D lst (a_cluesOf k) 1 a_missing ms → post 1 (f_shown, f_total, f_knownMined, f_knownFree, f_lastKind, f_listed, f_count, f_numbers, f_countedCell, f_countedMines, f_counted, a_around, a_clueOf, a_kindOf, a_cluesOf, a_sizes, a_clueList, ms, a_room, a_links, a_laterRoom, a_linkEnd, upd a_taken k (nI (t + 1)), a_most, upd a_countBefore k f_count, a_ways, upd a_minesIn k (a_minesIn k + (f_count - a_countBefore k) * nI t)))
    (h0 : t = g → ∀ ms, mq_D lst (a_cluesOf k) (-nI t) a_missing ms → post 0 (f_shown, f_total, f_knownMined, f_knownFree, f_lastKind, f_listed, f_count, f_numbers, f_countedCell, f_countedMines, f_counted, a_around, a_clueOf, a_kindOf, a_cluesOf, a_sizes, a_clueList, ms, a_room, a_links, a_laterRoom, a_linkEnd, upd a_taken k (nI t + -nI t), a_most, upd a_countBefore k f_count, a_ways, upd a_minesIn k (a_minesIn k + (f_count - a_countBefore k) * nI t))) : wpX_takeOneMore post (f_shown, f_total, f_knownMined, f_knownFree, f_lastKind, f_listed, f_count, f_numbers, f_countedCell, f_countedMines, f_counted, a_around, a_clueOf, a_kindOf, a_cluesOf, a_sizes, a_clueList, a_missing, a_room, a_links, a_laterRoom, a_linkEnd, a_taken, a_most, a_countBefore, a_ways, a_minesIn) (nI k) := by
  have hSt' := hSt
  obtain ⟨nd, h21, hK, hr8, hc40, hkk⟩ := hSt
  have vk : vp_in (nI k) 21 := vp_in_nI (by omega) (by omega)
  have ck : (nI k).toNatClampNeg = k := nI_clamp (by omega)
  refine ⟨vk, vk, vk, vk, nm_r (e' := upd a_minesIn k (a_minesIn k + (f_count - a_countBefore k) * nI t)) (by rw [ck, ht]) ⟨vk, vk, ?_⟩⟩
  rw [ck, ht, hg]
  refine pk_le g t (fun y => br_t rfl ⟨vk, ?_⟩) (fun y => br_f mx_10 ?_)
  · rw [ck, ht]
    refine mq_take hSt' hk (fun ms hD => ⟨rfl, ?_⟩)
    rw [ht]
    exact h0 (by omega) ms hD
  · refine mq_take hSt' hk (fun ms hD => ⟨rfl, ?_⟩)
    rw [ht, nI_1]
    exact h1 y ms hD
theorem mq_note {post : SX → Prop} (hK : K ≤ 21) (wt : Option Nat) (hw : (f_countedCell = -1 ∧ wt = none) ∨ ∃ c m, c < 20 ∧ m ≤ 8 ∧ f_countedCell = nI c ∧ wt = some c ∧ a_missing c = nI m)
    (h : ∀ nb, (∀ c m, wt = some c → a_missing c = nI m → m ≤ 8 → ∀ b, b < 32 → bt nb b = (bt f_numbers b || decide (b = 8 - m))) → post (f_shown, f_total, f_knownMined, f_knownFree, f_lastKind, f_listed, f_count + a_ways K, nb, f_countedCell, f_countedMines, f_counted, a_around, a_clueOf, a_kindOf, a_cluesOf, a_sizes, a_clueList, a_missing, a_room, a_links, a_laterRoom, a_linkEnd, a_taken, a_most, a_countBefore, a_ways, a_minesIn)) : wpX_noteLayouts post (f_shown, f_total, f_knownMined, f_knownFree, f_lastKind, f_listed, f_count, f_numbers, f_countedCell, f_countedMines, f_counted, a_around, a_clueOf, a_kindOf, a_cluesOf, a_sizes, a_clueList, a_missing, a_room, a_links, a_laterRoom, a_linkEnd, a_taken, a_most, a_countBefore, a_ways, a_minesIn) (nI K) := by
  refine ⟨vp_in_nI (by omega) (by omega), nm_r (e' := f_count + a_ways K) (by rw [nI_clamp (by omega)]) ?_⟩
  rcases hw with ⟨e1, e2⟩ | ⟨c, m, hc, hm, e1, e2, e3⟩
  · refine br_t e1 (h f_numbers (fun c m hcm => ?_))
    rw [e2] at hcm; cases hcm
  · have hne : ¬ f_countedCell = -1 := by
      rw [e1]
      intro y
      have : (nI c).toInt = (-1 : Int32).toInt := by rw [← y]
      rw [nI_toInt (by omega)] at this
      have h2 : (-1 : Int32).toInt = -1 := by decide
      omega
    refine br_f hne ⟨by rw [e1]; exact vp_in_nI (by omega) (by omega), nm_r (e' := f_numbers ||| my_bit (8 - m)) ?_ (h _ (fun c' m' hc' hm' hm8 b hb => ?_))⟩
    · rw [e1, nI_clamp (by omega), e3, show (8 : Int32) = nI 8 from rfl, pk_sub hm]; rfl
    · rw [e2] at hc'
      cases hc'
      rw [e3] at hm'
      have := (nI_eq (by omega) (by omega)).mp hm'
      subst this
      rw [b_or, my_bitb (by omega)]
end
end
section
/-! the component's search -/
theorem mq_ring1 (a w A c x y t : Int32) : a + w * A + ((y + w * c * x) - y) * t = a + w * (A + t * (c * x)) := by grind
theorem mq_ring2 (a w A c x : Int32) : a + w * A + w * c * x = a + w * (A + c * x) := by grind
def mq_N (wt : Option Nat) (nb nb' : Int32) (f : Nat → Nat → Nat) : Prop := ∀ c, wt = some c → ∀ b, b < 32 → bt nb' b = (bt nb b || (decide (b ≤ 8) && decide (0 < f c b)))
theorem mq_Nt {wt : Option Nat} {nb nb1 nb2 : Int32} {f f1 f2 : Nat → Nat → Nat} (h1 : mq_N wt nb nb1 f1) (h2 : mq_N wt nb1 nb2 f2) (h : ∀ c b, wt = some c → (0 < f c b ↔ 0 < f1 c b ∨ 0 < f2 c b)) : mq_N wt nb nb2 f := by
  intro c hc b hb
  rw [h2 c hc b hb, h1 c hc b hb]
  have e : decide (0 < f c b) = (decide (0 < f1 c b) || decide (0 < f2 c b)) := by
    rw [← Bool.decide_or]
    exact decide_eq_decide.mpr (h c b hc)
  rw [e]
  cases bt nb b <;> cases decide (b ≤ 8) <;> cases decide (0 < f1 c b) <;> cases decide (0 < f2 c b) <;> rfl
theorem mq_N0 {wt : Option Nat} {nb : Int32} {f : Nat → Nat → Nat} (h : ∀ c b, wt = some c → f c b = 0) : mq_N wt nb nb f := by
  intro c hc b hb
  rw [h c b hc]; simp
theorem mq_see {lst : List Nat} {J : Nat → Bool} (h21 : ∀ j, j ∈ lst → j < 21) (hJ : ∀ j, j < 21 → (J j = true ↔ j ∈ lst)) (r : Nat → Int) : ms_see (mc_L J r) lst r := by
  intro j hj
  have h1 := h21 j hj
  have h2 := (hJ j h1).mpr hj
  refine ⟨fun w hw => mg_i_f (fun z => ?_), fun w hw => mg_i_f (fun z => ?_)⟩
  · have := z j h1 h2; omega
  · have := z j h1 h2; omega
theorem mq_seeb {lst : List Nat} {J : Nat → Bool} (h21 : ∀ j, j ∈ lst → j < 21) (hJ : ∀ j, j < 21 → (J j = true ↔ j ∈ lst)) (r : Nat → Int) (c b : Nat) : ms_see (mc_Lb J r c b) lst r := by
  intro j hj
  have h1 := h21 j hj
  have h2 := (hJ j h1).mpr hj
  refine ⟨fun w hw => mg_i_f (fun z => ?_), fun w hw => mg_i_f (fun z => ?_)⟩
  · have := z.1 j h1 h2; omega
  · have := z.1 j h1 h2; omega
section
variable {f_shown f_total f_knownMined f_knownFree f_lastKind f_listed f_count f_numbers f_countedCell f_countedMines f_counted : Int32} {a_around a_clueOf a_kindOf a_cluesOf a_sizes a_clueList a_missing a_room a_links a_laterRoom a_linkEnd a_taken a_most a_countBefore a_ways a_minesIn : Nat → Int32}
variable {lst : List Nat} {K : Nat} {z : Nat → Nat} {r0 : Nat → Nat} {J : Nat → Bool} {wt : Option Nat}
/-- the search below a node comes back with its counts -/
def mq_go (post : SX → Prop) (f_shown f_total f_knownMined f_knownFree f_lastKind f_listed f_count f_numbers f_countedCell f_countedMines f_counted : Int32) (a_around a_clueOf a_kindOf a_cluesOf a_sizes a_clueList a_missing a_room a_links a_laterRoom a_linkEnd a_taken a_most a_countBefore a_ways a_minesIn : Nat → Int32) (lst : List Nat) (K : Nat) (r0 : Nat → Nat) (J : Nat → Bool) (wt : Option Nat) (ks : List (Nat × Int32)) (k : Nat) : Prop :=
  ∀ (wd : Nat → Int) (p n : Nat) (ct nb : Int32) (ms tk mo cb wy mi : Nat → Int32), ms_In lst (mq_r r0) ks wd → mq_M lst ms wd → p + ms_T ks ≤ 8388608 → 8388608 < n + p →
    (∀ (p' n' : Nat) (ct' nb' : Int32) (ms' tk' mo' cb' wy' mi' : Nat → Int32), p' ≤ p + ms_T ks → 8388608 < n' + p' → (∀ j, j ∈ lst → ms' j = ms j) → (∀ q, q < k → tk' q = tk q ∧ mo' q = mo q ∧ cb' q = cb q ∧ mi' q = mi q) → (∀ q, q ≤ k → wy' q = wy q) →
      (∀ i, i < ks.length → mi' (k + i) = mi (k + i) + wy k * nI (mg_H (mc_L J (mq_r r0)) i ks wd)) → ct' = ct + wy k * nI (mg_K (mc_L J (mq_r r0)) ks wd) → mq_N wt nb nb' (fun c b => mg_K (mc_Lb J (mq_r r0) c b) ks wd) →
      wX_search_23 post (nI K) n' (nI k + (-1)) 0 (nI p') f_shown f_total f_knownMined f_knownFree f_lastKind f_listed ct' nb' f_countedCell f_countedMines f_counted a_around a_clueOf a_kindOf a_cluesOf a_sizes a_clueList ms' a_room a_links a_laterRoom a_linkEnd tk' mo' cb' wy' mi') →
    wX_search_23 post (nI K) n (nI k) 1 (nI p) f_shown f_total f_knownMined f_knownFree f_lastKind f_listed ct nb f_countedCell f_countedMines f_counted a_around a_clueOf a_kindOf a_cluesOf a_sizes a_clueList ms a_room a_links a_laterRoom a_linkEnd tk mo cb wy mi
theorem mq_in {post : SX → Prop} (hSt : mq_St lst K z a_cluesOf a_sizes a_links a_laterRoom a_linkEnd r0) {k : Nat} (hk : k < K) (hgo : mq_go post f_shown f_total f_knownMined f_knownFree f_lastKind f_listed f_count f_numbers f_countedCell f_countedMines f_counted a_around a_clueOf a_kindOf a_cluesOf a_sizes a_clueList a_missing a_room a_links a_laterRoom a_linkEnd a_taken a_most a_countBefore a_ways a_minesIn lst K r0 J wt ((mf_ks z a_cluesOf K).drop (k + 1)) (k + 1)) {wd : Nat → Int} (hIn : ms_In lst (mq_r r0) ((z k, a_cluesOf k) :: (mf_ks z a_cluesOf K).drop (k + 1)) wd)
    {f g : Nat} (hgz : g ≤ z k) (hcan : ∀ t, ms_can (mf_lk lst (a_cluesOf k)) (z k) (a_cluesOf k) (mq_r r0) ((mf_ks z a_cluesOf K).drop (k + 1)) wd t ↔ f ≤ t ∧ t ≤ g) (p0 : Nat) (ct0 nb0 : Int32) (ms0 tk0 mo0 cb0 wy0 mi0 : Nat → Int32) (hM0 : mq_M lst ms0 wd) (hP : p0 + 1 + (g + 1 - f) * (ms_T ((mf_ks z a_cluesOf K).drop (k + 1)) + 1) ≤ 8388608)
    (Hc : ∀ (p' n' : Nat) (ct' nb' : Int32) (ms' tk' mo' cb' wy' mi' : Nat → Int32), p' ≤ p0 + 1 + (g + 1 - f) * (ms_T ((mf_ks z a_cluesOf K).drop (k + 1)) + 1) → 8388608 < n' + p' → (∀ j, j ∈ lst → ms' j = ms0 j) → (∀ q, q < k → tk' q = tk0 q ∧ mo' q = mo0 q ∧ cb' q = cb0 q ∧ mi' q = mi0 q) → (∀ q, q ≤ k → wy' q = wy0 q) →
      (∀ i, i < ((mf_ks z a_cluesOf K).drop k).length → mi' (k + i) = mi0 (k + i) + wy0 k * nI (ms_PH (mc_L J (mq_r r0)) i (z k) (a_cluesOf k) ((mf_ks z a_cluesOf K).drop (k + 1)) wd (g + 1))) → ct' = ct0 + wy0 k * nI (ms_PK (mc_L J (mq_r r0)) (z k) (a_cluesOf k) ((mf_ks z a_cluesOf K).drop (k + 1)) wd (g + 1)) → mq_N wt nb0 nb' (fun c b => ms_PK (mc_Lb J (mq_r r0) c b) (z k) (a_cluesOf k) ((mf_ks z a_cluesOf K).drop (k + 1)) wd (g + 1)) →
      wX_search_23 post (nI K) n' (nI k + (-1)) 0 (nI p') f_shown f_total f_knownMined f_knownFree f_lastKind f_listed ct' nb' f_countedCell f_countedMines f_counted a_around a_clueOf a_kindOf a_cluesOf a_sizes a_clueList ms' a_room a_links a_laterRoom a_linkEnd tk' mo' cb' wy' mi') :
    ∀ (d t : Nat), t + d = g → f ≤ t → ∀ (p n : Nat) (ct nb : Int32) (ms tk mo cb wy mi : Nat → Int32), p ≤ p0 + (t - f) * (ms_T ((mf_ks z a_cluesOf K).drop (k + 1)) + 1) → 8388608 ≤ n + p → mq_M lst ms (mg_subn wd t (a_cluesOf k)) → tk k = nI t → mo k = nI g → cb k = ct → (∀ q, q < k → tk q = tk0 q ∧ mo q = mo0 q ∧ cb q = cb0 q ∧ mi q = mi0 q) → (∀ q, q ≤ k → wy q = wy0 q) →
      (∀ i, i < ((mf_ks z a_cluesOf K).drop k).length → mi (k + i) = mi0 (k + i) + wy0 k * nI (ms_PH (mc_L J (mq_r r0)) i (z k) (a_cluesOf k) ((mf_ks z a_cluesOf K).drop (k + 1)) wd t)) → ct = ct0 + wy0 k * nI (ms_PK (mc_L J (mq_r r0)) (z k) (a_cluesOf k) ((mf_ks z a_cluesOf K).drop (k + 1)) wd t) → mq_N wt nb0 nb (fun c b => ms_PK (mc_Lb J (mq_r r0) c b) (z k) (a_cluesOf k) ((mf_ks z a_cluesOf K).drop (k + 1)) wd t) →
      wX_search_67 post (wX_search_23 post (nI K) n) (nI K) (nI k) 1 (nI p) f_shown f_total f_knownMined f_knownFree f_lastKind f_listed ct nb f_countedCell f_countedMines f_counted a_around a_clueOf a_kindOf a_cluesOf a_sizes a_clueList ms a_room a_links a_laterRoom a_linkEnd tk mo cb wy mi := by
  have hSt' := hSt
  obtain ⟨nd, h21, hK, hr8, hc40, hkk⟩ := hSt
  obtain ⟨hs, hz20, hl9, hle, hlk⟩ := hkk k hk
  have vk : vp_in (nI k) 21 := vp_in_nI (by omega) (by omega)
  have ck : (nI k).toNatClampNeg = k := nI_clamp (by omega)
  have dk := mf_drop z a_cluesOf hk
  have lenk : ((mf_ks z a_cluesOf K).drop k).length = ((mf_ks z a_cluesOf K).drop (k + 1)).length + 1 := by rw [dk, List.length_cons]
  have lk_in : ∀ j, j ∈ lst → bt (a_cluesOf k) j = true → j ∈ mf_lk lst (a_cluesOf k) := fun j hj hb => mf_lk_mem.mpr ⟨hj, hb⟩
  generalize hks : (mf_ks z a_cluesOf K).drop (k + 1) = ks at *
  generalize hX : ms_T ks + 1 = X at *
  intro d
  induction d with
  | zero =>
    intro t htg hft p n ct nb ms tk mo cb wy mi hp hn hM htk hmo hcb hlow hwy hmi hct hnb
    have htg' : t = g := by omega
    have hct' := (hcan t).mpr ⟨hft, by omega⟩
    have eX : (g + 1 - f) * X = (t - f) * X + X := by
      have : g + 1 - f = (t - f) + 1 := by omega
      rw [this, Nat.succ_mul]
    refine br_f mx_10 ⟨vk, vk, ?_⟩
    rw [ck, hs, htk]
    refine mx_choose hz20 (by omega) ⟨vp_in_nI (by omega) (by omega), ?_⟩
    rw [nI_1]
    refine ⟨vp_in_nI (by omega) (by omega), nm_r (e' := upd wy (k + 1) (wy k * nI (mg_ch (z k) t))) (by rw [nI_clamp (by omega)]) (nm_e (nm_r (nI_1 p) ?_))⟩
    refine hgo (mg_subn wd t (a_cluesOf k)) (p + 1) n ct nb ms tk mo cb _ mi (ms_step hIn lk_in hct') hM (by omega) (by omega) ?_
    intro p' n' ct' nb' ms' tk' mo' cb' wy' mi' a1 a2 a3 a4 a5 a6 a7 a8
    obtain ⟨n1, rfl⟩ : ∃ n1, n' = n1 + 1 := ⟨n' - 1, by omega⟩
    rw [pk_m1]
    obtain ⟨b1, b2, b3, b4⟩ := a4 k (by omega)
    refine br_f (nI_ge (b := 8388608) (by omega) (by omega)) (br_f (nI_pos (by omega)) (br_f (fun y => ?_) (br_t rfl (mq_more hSt' hk (b1.trans htk) (b2.trans hmo) (by omega) (by omega) (fun y => by omega) (fun _ ms2 hD => ?_)))))
    · have := (nI_eq (by omega) (by omega)).mp y; omega
    · rw [pk_us] at a7
      have w1 : wy k = wy0 k := hwy k (Nat.le_refl k)
      refine br_t rfl (nm_e (nm_r (nI_1 p') (Hc (p' + 1) n1 _ _ _ _ _ _ _ _ (by omega) (by omega) (fun j hj => ?_) (fun q hq => ?_) (fun q hq => ?_) (fun i hi => ?_) ?_ ?_)))
      · obtain ⟨m1, m2⟩ := hM j hj
        obtain ⟨m3, m4⟩ := hM0 j hj
        cases hb : bt (a_cluesOf k) j
        · rw [(hD j hj).2 hb, a3 j hj, m2, m4]
          simp only [mg_subn, hb]
          simp
        · have e : mg_subn wd t (a_cluesOf k) j = wd j - t := by simp only [mg_subn, hb, if_true]
          rw [e] at m1 m2
          rw [(hD j hj).1 hb, a3 j hj, m2, m4, Int32.sub_neg, nI_add]
          congr 1
          omega
      · obtain ⟨c1, c2, c3, c4⟩ := a4 q (by omega)
        obtain ⟨d1, d2, d3, d4⟩ := hlow q hq
        rw [pk_un (by omega), pk_un (by omega), pk_un (by omega)]
        exact ⟨c1.trans d1, c2.trans d2, c3.trans d3, c4.trans d4⟩
      · rw [a5 q (by omega), pk_un (by omega)]
        exact hwy q hq
      · rw [← htg']
        cases i with
        | zero =>
          rw [Nat.add_zero, pk_us, b4, b3, hcb, a7, w1]
          have := hmi 0 (by omega)
          rw [Nat.add_zero] at this
          rw [this]
          simp only [ms_PH, mg_sum]
          rw [mq_ring1, ← nI_add, ← pk_mul, ← pk_mul]
        | succ i =>
          rw [pk_un (by omega)]
          have e1 := a6 i (by omega)
          rw [pk_us, show k + 1 + i = k + (i + 1) by omega] at e1
          rw [e1, hmi (i + 1) (by omega), w1]
          simp only [ms_PH, mg_sum]
          rw [mq_ring2, ← nI_add, ← pk_mul]
      · rw [← htg', a7, hct, w1]
        simp only [ms_PK, mg_sum]
        rw [mq_ring2, ← nI_add, ← pk_mul]
      · refine mq_Nt hnb a8 (fun c b hc => ?_)
        rw [← htg']
        simp only [ms_PK, mg_sum]
        have := mg_chp (n := z k) (k := t) (by omega)
        constructor
        · intro y
          rcases Nat.eq_zero_or_pos (mg_K (mc_Lb J (mq_r r0) c b) ks (mg_subn wd t (a_cluesOf k))) with q | q
          · rw [q, Nat.mul_zero, Nat.add_zero] at y; exact Or.inl y
          · exact Or.inr q
        · rintro (y | y)
          · omega
          · have := Nat.mul_pos this y; omega
  | succ d ih =>
    intro t htg hft p n ct nb ms tk mo cb wy mi hp hn hM htk hmo hcb hlow hwy hmi hct hnb
    have hct' := (hcan t).mpr ⟨hft, by omega⟩
    have eX : (t + 1 - f) * X = (t - f) * X + X := by
      have : t + 1 - f = (t - f) + 1 := by omega
      rw [this, Nat.succ_mul]
    have eY : (t + 1 - f) * X ≤ (g + 1 - f) * X := Nat.mul_le_mul_right _ (by omega)
    refine br_f mx_10 ⟨vk, vk, ?_⟩
    rw [ck, hs, htk]
    refine mx_choose hz20 (by omega) ⟨vp_in_nI (by omega) (by omega), ?_⟩
    rw [nI_1]
    refine ⟨vp_in_nI (by omega) (by omega), nm_r (e' := upd wy (k + 1) (wy k * nI (mg_ch (z k) t))) (by rw [nI_clamp (by omega)]) (nm_e (nm_r (nI_1 p) ?_))⟩
    refine hgo (mg_subn wd t (a_cluesOf k)) (p + 1) n ct nb ms tk mo cb _ mi (ms_step hIn lk_in hct') hM (by omega) (by omega) ?_
    intro p' n' ct' nb' ms' tk' mo' cb' wy' mi' a1 a2 a3 a4 a5 a6 a7 a8
    obtain ⟨n1, rfl⟩ : ∃ n1, n' = n1 + 1 := ⟨n' - 1, by omega⟩
    rw [pk_m1]
    obtain ⟨b1, b2, b3, b4⟩ := a4 k (by omega)
    refine br_f (nI_ge (b := 8388608) (by omega) (by omega)) (br_f (nI_pos (by omega)) (br_f (fun y => ?_) (br_t rfl (mq_more hSt' hk (b1.trans htk) (b2.trans hmo) (by omega) (by omega) (fun _ ms2 hD => ?_) (fun y => by omega)))))
    · have := (nI_eq (by omega) (by omega)).mp y; omega
    · rw [pk_us] at a7
      have w1 : wy k = wy0 k := hwy k (Nat.le_refl k)
      have hct2 := (hcan (t + 1)).mpr ⟨by omega, by omega⟩
      refine ih (t + 1) (by omega) (by omega) p' n1 _ _ _ _ _ _ _ _ (by omega) (by omega) (fun j hj => ?_) pk_us (b2.trans hmo) pk_us (fun q hq => ?_) (fun q hq => ?_) (fun i hi => ?_) ?_ ?_
      · obtain ⟨m1, m2⟩ := hM j hj
        cases hb : bt (a_cluesOf k) j
        · rw [(hD j hj).2 hb, a3 j hj, m2]
          simp only [mg_subn, hb] at m1 ⊢
          simp at m1 ⊢
          exact m1
        · have e : mg_subn wd t (a_cluesOf k) j = wd j - t := by simp only [mg_subn, hb, if_true]
          have e2 : mg_subn wd (t + 1) (a_cluesOf k) j = wd j - ((t + 1 : Nat) : Int) := by simp only [mg_subn, hb, if_true]
          have hw := (hct2.2 j (lk_in j hj hb)).1
          rw [e] at m1 m2
          rw [e2, (hD j hj).1 hb, a3 j hj, m2]
          refine ⟨by omega, ?_⟩
          rw [show (1 : Int32) = nI 1 from rfl, pk_sub (by omega)]
          congr 1
          omega
      · obtain ⟨c1, c2, c3, c4⟩ := a4 q (by omega)
        obtain ⟨d1, d2, d3, d4⟩ := hlow q hq
        rw [pk_un (by omega), pk_un (by omega), pk_un (by omega)]
        exact ⟨c1.trans d1, c2.trans d2, c3.trans d3, c4.trans d4⟩
      · rw [a5 q (by omega), pk_un (by omega)]
        exact hwy q hq
      · cases i with
        | zero =>
          rw [Nat.add_zero, pk_us, b4, b3, hcb, a7, w1]
          have := hmi 0 (by omega)
          rw [Nat.add_zero] at this
          rw [this]
          simp only [ms_PH, mg_sum]
          rw [mq_ring1, ← nI_add, ← pk_mul, ← pk_mul]
        | succ i =>
          rw [pk_un (by omega)]
          have e1 := a6 i (by omega)
          rw [pk_us, show k + 1 + i = k + (i + 1) by omega] at e1
          rw [e1, hmi (i + 1) (by omega), w1]
          simp only [ms_PH, mg_sum]
          rw [mq_ring2, ← nI_add, ← pk_mul]
      · rw [a7, hct, w1]
        simp only [ms_PK, mg_sum]
        rw [mq_ring2, ← nI_add, ← pk_mul]
      · refine mq_Nt hnb a8 (fun c b hc => ?_)
        simp only [ms_PK, mg_sum]
        have := mg_chp (n := z k) (k := t) (by omega)
        constructor
        · intro y
          rcases Nat.eq_zero_or_pos (mg_K (mc_Lb J (mq_r r0) c b) ks (mg_subn wd t (a_cluesOf k))) with q | q
          · rw [q, Nat.mul_zero, Nat.add_zero] at y; exact Or.inl y
          · exact Or.inr q
        · rintro (y | y)
          · omega
          · have := Nat.mul_pos this y; omega
end
end
section
/-! the component's search, whole -/
section
variable {f_shown f_total f_knownMined f_knownFree f_lastKind f_listed f_count f_numbers f_countedCell f_countedMines f_counted : Int32} {a_around a_clueOf a_kindOf a_cluesOf a_sizes a_clueList a_missing a_room a_links a_laterRoom a_linkEnd a_taken a_most a_countBefore a_ways a_minesIn : Nat → Int32}
variable {lst : List Nat} {K : Nat} {z : Nat → Nat} {r0 : Nat → Nat} {J : Nat → Bool} {wt : Option Nat}
theorem mq_dfs {post : SX → Prop} (hSt : mq_St lst K z a_cluesOf a_sizes a_links a_laterRoom a_linkEnd r0) (hJ : ∀ j, j < 21 → (J j = true ↔ j ∈ lst)) (hwt : (f_countedCell = -1 ∧ wt = none) ∨ ∃ c, c < 20 ∧ f_countedCell = nI c ∧ wt = some c ∧ c ∈ lst ∧ r0 c = 8) :
    ∀ (ks : List (Nat × Int32)) (k : Nat), (mf_ks z a_cluesOf K).drop k = ks → k ≤ K → mq_go post f_shown f_total f_knownMined f_knownFree f_lastKind f_listed f_count f_numbers f_countedCell f_countedMines f_counted a_around a_clueOf a_kindOf a_cluesOf a_sizes a_clueList a_missing a_room a_links a_laterRoom a_linkEnd a_taken a_most a_countBefore a_ways a_minesIn lst K r0 J wt ks k := by
  have hSt' := hSt
  obtain ⟨nd, h21, hK, hr8, hc40, hkk⟩ := hSt
  intro ks
  induction ks with
  | nil =>
    intro k hks hkK wd p n ct nb ms tk mo cb wy mi hIn hM hp hn Hc
    have hk : k = K := by
      have := List.drop_eq_nil_iff.mp hks
      rw [mf_len] at this
      omega
    subst hk
    simp only [ms_T] at hp
    obtain ⟨n1, rfl⟩ : ∃ n1, n = n1 + 1 := ⟨n - 1, by omega⟩
    have L1 : mg_K (mc_L J (mq_r r0)) [] wd = 1 := by
      rw [mg_K, mc_L]
      refine mg_i_t (fun j hj hJj => ?_)
      have := hIn j ((hJ j hj).mp hJj)
      simp only [mg_cap] at this
      omega
    have hwt2 : (f_countedCell = -1 ∧ wt = none) ∨ ∃ c m, c < 20 ∧ m ≤ 8 ∧ f_countedCell = nI c ∧ wt = some c ∧ ms c = nI m := by
      rcases hwt with h | ⟨c, h1, h2, h3, h4, h5⟩
      · exact Or.inl h
      · obtain ⟨m1, m2⟩ := hM c h4
        have := hIn c h4
        simp only [mg_cap, mq_r, h5] at this
        exact Or.inr ⟨c, (wd c).toNat, h1, by omega, h2, h3, m2⟩
    refine br_f (nI_ge (b := 8388608) (by omega) (by omega)) (br_f (nI_pos (by omega)) (br_t rfl (mq_note hK wt hwt2 (fun nb2 hnb => br_t rfl (nm_e (nm_r (nI_1 p) (Hc (p + 1) n1 _ nb2 ms tk mo cb wy mi (by simp only [ms_T]; omega) (by omega) (fun _ _ => rfl) (fun _ _ => ⟨rfl, rfl, rfl, rfl⟩) (fun _ _ => rfl) (fun i hi => ?_) ?_ ?_)))))))
    · simp at hi
    · rw [L1, show nI 1 = 1 from rfl, Int32.mul_one]
    · intro c hc b hb
      rcases hwt with ⟨_, h⟩ | ⟨c', h1, h2, h3, h4, h5⟩
      · rw [h] at hc; cases hc
      · rw [h3] at hc
        cases hc
        obtain ⟨m1, m2⟩ := hM c h4
        have hI := hIn c h4
        simp only [mg_cap, mq_r, h5] at hI
        rw [hnb c (wd c).toNat h3 m2 (by omega) b hb]
        congr 1
        have key : (0 < mg_K (mc_Lb J (mq_r r0) c b) [] wd) ↔ wd c = 8 - (b : Int) := by
          rw [mg_K, mc_Lb, mg_i_pos]
          refine ⟨fun y => y.2, fun y => ⟨fun j hj hJj => ?_, y⟩⟩
          have := hIn j ((hJ j hj).mp hJj)
          simp only [mg_cap] at this
          omega
        rw [decide_eq_decide.mpr key, ← Bool.decide_and]
        refine decide_eq_decide.mpr ⟨fun y => by omega, fun y => by omega⟩
  | cons a ks ih =>
    intro k hks hkK wd p n ct nb ms tk mo cb wy mi hIn hM hp hn Hc
    have hk : k < K := by
      rcases Nat.lt_or_ge k K with y | y
      · exact y
      · rw [List.drop_eq_nil_iff.mpr (by rw [mf_len]; exact y)] at hks; cases hks
    have dk := mf_drop z a_cluesOf hk
    rw [hks] at dk
    obtain ⟨rfl, hks'⟩ := List.cons.inj dk
    obtain ⟨hs, hz20, hl9, hle, hlk⟩ := hkk k hk
    have hgo := ih (k + 1) hks'.symm (by omega)
    rw [hks'] at hgo
    have hInv := hIn
    rw [hks'] at hInv
    simp only [ms_T] at hp Hc
    obtain ⟨n1, rfl⟩ : ∃ n1, n = n1 + 1 := ⟨n - 1, by omega⟩
    have w100 : ∀ j, j ∈ lst → wd j ≤ 100 := by
      intro j hj
      have h1 := (hIn j hj).2
      have h2 := mq_capd j (mf_ks z a_cluesOf K) k
      rw [hks] at h2
      have h3 := hc40 j
      have h4 := hr8 j hj
      simp only [mq_r] at h1
      omega
    have lk_in : ∀ j, j ∈ mf_lk lst (a_cluesOf k) → j ∈ lst ∧ bt (a_cluesOf k) j = true := fun j hj => mf_lk_mem.mp hj
    have hne : ¬ nI k = nI K := fun y => by have := (nI_eq (by omega) (by omega)).mp y; omega
    refine br_f (nI_ge (b := 8388608) (by omega) (by omega)) (br_f (nI_pos (by omega)) (br_f hne (br_f mx_10 (mq_few hSt' hk hM w100 (fun f g ms1 hfg hgz hcan hD => ?_) (fun hno => ?_)))))
    · have zl : (g + 1 - f) * (ms_T ks + 1) ≤ (z k + 1) * (ms_T ks + 1) := Nat.mul_le_mul_right _ (by omega)
      rw [← hks'] at hcan
      have hE := fun (L : (Nat → Int) → Nat) (hL : ms_see L lst (mq_r r0)) => ms_end hL lk_in hgz hcan
      have hB := fun (L : (Nat → Int) → Nat) (hL : ms_see L lst (mq_r r0)) => ms_beg hL lk_in (f := f) (by omega) hcan
      have sL := mq_see h21 hJ (mq_r r0)
      have hp2 := hp
      rw [hks'] at hcan zl hp2
      refine mq_in hSt' hk hgo hInv hgz hcan p ct nb ms tk mo cb wy mi hM (by omega) ?_ (g - f) f (by omega) (Nat.le_refl f) p n1 _ _ _ _ _ _ _ _ (by omega) (by omega) (fun j hj => ?_) pk_us pk_us pk_us (fun q hq => ?_) (fun q hq => rfl) (fun i hi => ?_) ?_ ?_
      · intro p' n' ct' nb' ms' tk' mo' cb' wy' mi' a1 a2 a3 a4 a5 a6 a7 a8
        rw [← hks'] at a1 a6 a7 a8 zl
        refine Hc p' n' ct' nb' ms' tk' mo' cb' wy' mi' (by omega) a2 a3 a4 a5 (fun i hi => ?_) ?_ ?_
        · rw [(hE _ sL).2 i]
          exact a6 i (by rw [hks]; exact hi)
        · rw [(hE _ sL).1]
          exact a7
        · intro c hc b hb
          rw [a8 c hc b hb]
          have e := (hE _ (mq_seeb h21 hJ (mq_r r0) c b)).1
          have e2 : (0 < ms_PK (mc_Lb J (mq_r r0) c b) (z k) (a_cluesOf k) ks wd (g + 1)) ↔ (0 < mg_K (mc_Lb J (mq_r r0) c b) ((z k, a_cluesOf k) :: ks) wd) := by rw [e]
          exact congrArg (fun q => bt nb b || (decide (b ≤ 8) && q)) (decide_eq_decide.mpr e2)
      · obtain ⟨m1, m2⟩ := hM j hj
        have hcf := (hcan f).mpr ⟨Nat.le_refl f, hfg⟩
        cases hb : bt (a_cluesOf k) j
        · rw [(hD j hj).2 hb, m2]
          simp only [mg_subn, hb]
          simp
          exact m1
        · have e : mg_subn wd f (a_cluesOf k) j = wd j - f := by simp only [mg_subn, hb, if_true]
          have hw := (hcf.2 j (mf_lk_mem.mpr ⟨hj, hb⟩)).1
          rw [e, (hD j hj).1 hb, m2, pk_sub (by omega)]
          refine ⟨by omega, ?_⟩
          congr 1
          omega
      · rw [pk_un (by omega), pk_un (by omega), pk_un (by omega), pk_un (by omega)]
        exact ⟨rfl, rfl, rfl, rfl⟩
      · rw [← hks', (hB _ sL).2 i, nI_0, Int32.mul_zero, Int32.add_zero]
      · rw [← hks', (hB _ sL).1, nI_0, Int32.mul_zero, Int32.add_zero]
      · rw [← hks']
        exact mq_N0 (fun c b _ => (hB _ (mq_seeb h21 hJ (mq_r r0) c b)).1)
    · rw [← hks'] at hno
      have hN := fun (L : (Nat → Int) → Nat) (hL : ms_see L lst (mq_r r0)) => ms_none hL lk_in hno
      have sL := mq_see h21 hJ (mq_r r0)
      refine br_t rfl (nm_e (nm_r (nI_1 p) (Hc (p + 1) n1 ct nb ms tk mo cb wy mi (by omega) (by omega) (fun _ _ => rfl) (fun _ _ => ⟨rfl, rfl, rfl, rfl⟩) (fun _ _ => rfl) (fun i hi => ?_) ?_ ?_)))
      · rw [(hN _ sL).2 i, nI_0, Int32.mul_zero, Int32.add_zero]
      · rw [(hN _ sL).1, nI_0, Int32.mul_zero, Int32.add_zero]
      · exact mq_N0 (fun c b _ => (hN _ (mq_seeb h21 hJ (mq_r r0) c b)).1)
theorem mq_search {post : SX → Prop} (nd : lst.Nodup) (h21 : ∀ j, j ∈ lst → j < 21) (hl : lst.length ≤ 21) (hls : f_listed = nI lst.length) (hcl : ∀ i j, lst[i]? = some j → a_clueList i = nI j) (hK : K ≤ 21) (hz : ∀ k, k < K → a_sizes k = nI (z k) ∧ z k ≤ 20) (h9 : ∀ k, k < K → (mf_lk lst (a_cluesOf k)).length ≤ 9)
    (hr : ∀ j, j ∈ lst → a_room j = nI (r0 j) ∧ r0 j ≤ 8) (hc40 : ∀ j, mg_cap j (mf_ks z a_cluesOf K) ≤ 40) (hT : ms_T (mf_ks z a_cluesOf K) ≤ 8388608) (hJ : ∀ j, j < 21 → (J j = true ↔ j ∈ lst)) (hwt : (f_countedCell = -1 ∧ wt = none) ∨ ∃ c, c < 20 ∧ f_countedCell = nI c ∧ wt = some c ∧ c ∈ lst ∧ r0 c = 8)
    {wd : Nat → Int} (hM : mq_M lst a_missing wd) (hw : ∀ j, j ∈ lst → wd j < 1000)
    (h : ∀ rm lk lr le (ct' nb' : Int32) (ms' tk' mo' cb' wy' mi' : Nat → Int32), (∀ i, i < K → mi' i = a_ways 0 * nI (mg_H (mc_L J (mq_r r0)) i (mf_ks z a_cluesOf K) wd)) → ct' = f_count + a_ways 0 * nI (mg_K (mc_L J (mq_r r0)) (mf_ks z a_cluesOf K) wd) → mq_N wt f_numbers nb' (fun c b => mg_K (mc_Lb J (mq_r r0) c b) (mf_ks z a_cluesOf K) wd) → post (f_shown, f_total, f_knownMined, f_knownFree, f_lastKind, f_listed, ct', nb', f_countedCell, f_countedMines, f_counted, a_around, a_clueOf, a_kindOf, a_cluesOf, a_sizes, a_clueList, ms', rm, lk, lr, le, tk', mo', cb', wy', mi')) :
    wpX_search post (f_shown, f_total, f_knownMined, f_knownFree, f_lastKind, f_listed, f_count, f_numbers, f_countedCell, f_countedMines, f_counted, a_around, a_clueOf, a_kindOf, a_cluesOf, a_sizes, a_clueList, a_missing, a_room, a_links, a_laterRoom, a_linkEnd, a_taken, a_most, a_countBefore, a_ways, a_minesIn) (nI K) := by
  unfold wpX_search
  refine mx_link nd h21 hl hls hcl hK (fun k hk => (hz k hk).1) h9 (fun j hj => (hr j hj).1) (fun rm lk lr le mi hrm hkk => ?_)
  have hm : ∀ j, j ∈ lst → a_missing j = nI (wd j).toNat ∧ rm j = nI (r0 j + mg_cap j (mf_ks z a_cluesOf K)) ∧ (wd j).toNat < 1000 ∧ r0 j + mg_cap j (mf_ks z a_cluesOf K) < 1000 := by
    intro j hj
    have := hw j hj
    have := (hr j hj).2
    have := hc40 j
    exact ⟨(hM j hj).2, hrm j hj, by omega, by omega⟩
  have hSt : mq_St lst K z a_cluesOf a_sizes lk lr le r0 := ⟨nd, h21, hK, fun j hj => (hr j hj).2, hc40, fun k hk => ⟨(hz k hk).1, (hz k hk).2, h9 k hk, (hkk k hk).2⟩⟩
  refine mx_room h21 hl hls hcl hm (fun hok => br_f mx_10 ⟨8388609, ?_⟩) (fun hno => br_t rfl ⟨1, ?_⟩)
  · have hIn : ms_In lst (mq_r r0) (mf_ks z a_cluesOf K) wd := by
      intro j hj
      have h1 := hok j hj
      have h2 := (hM j hj).1
      simp only [mq_r]
      omega
    refine mq_dfs (f_count := f_count) (f_numbers := f_numbers) (a_missing := a_missing) (a_taken := a_taken) (a_most := a_most) (a_countBefore := a_countBefore) (a_ways := a_ways) (a_minesIn := mi) hSt hJ hwt _ 0 (List.drop_zero) (Nat.zero_le K) wd 0 8388609 f_count f_numbers a_missing a_taken a_most a_countBefore a_ways mi hIn hM (by omega) (by omega) ?_
    intro p' n' ct' nb' ms' tk' mo' cb' wy' mi' a1 a2 a3 a4 a5 a6 a7 a8
    obtain ⟨n1, rfl⟩ : ∃ n1, n' = n1 + 1 := ⟨n' - 1, by omega⟩
    have done := h rm lk lr le ct' nb' ms' tk' mo' cb' wy' mi' (fun i hi => by
      have := a6 i (by rw [mf_len]; exact hi)
      rw [Nat.zero_add, (hkk i hi).1, Int32.zero_add] at this
      exact this) a7 a8
    exact br_c (fun _ => done) (fun _ => br_t (by rw [nI_0]; decide) done)
  · obtain ⟨j, hj, hjw⟩ := hno
    have sL := mq_see h21 hJ (mq_r r0)
    have hh : mq_r r0 j + (mg_cap j (mf_ks z a_cluesOf K) : Int) < wd j := by
      have := (hM j hj).1
      simp only [mq_r]
      omega
    have k0 : mg_K (mc_L J (mq_r r0)) (mf_ks z a_cluesOf K) wd = 0 := mg_Khigh (sL j hj).2 _ _ hh
    refine br_f (by decide) (br_t (by decide) (h rm lk lr le f_count f_numbers a_missing a_taken a_most a_countBefore a_ways mi (fun i hi => ?_) ?_ (mq_N0 (fun c b _ => mg_Khigh (mq_seeb h21 hJ (mq_r r0) c b j hj).2 _ _ hh))))
    · rw [mg_Hhigh (sL j hj).2 _ _ _ hh, nI_0, Int32.mul_zero]
      exact (hkk i hi).1
    · rw [k0, nI_0, Int32.mul_zero, Int32.add_zero]
end
end
section
/-! the component's count -/
theorem mp_cnt (t : Nat → Bool) (N : Nat) : ∀ (l : List Nat), l.Nodup → (∀ e, e ∈ l → e < N) → mb_cn (fun j => t j && decide (j ∈ l)) N = l.countP t
  | [], _, _ => by
    rw [mb_of0 (fun i _ => by simp)]
    rfl
  | e :: l, nd, h => by
    rw [List.nodup_cons] at nd
    have ih := mp_cnt t N l nd.2 (fun x hx => h x (by simp [hx]))
    rw [List.countP_cons, ← ih]
    by_cases z : t e = true
    · rw [if_pos z]
      refine mb_one (a := e) ?_ ?_ (h e (by simp)) (fun i _ hn => ?_)
      · simp [nd.1]
      · simp [z]
      · simp [hn]
    · rw [if_neg z, Nat.add_zero]
      refine mb_eq (fun i _ => ?_)
      by_cases y : i = e
      · subst y
        have : t i = false := by simpa using z
        simp [this]
      · simp [y]
theorem mp_len (t : Nat → Bool) {N : Nat} {l : List Nat} (nd : l.Nodup) (h : ∀ e, e ∈ l → e < N) : (l.filter t).length ≤ mb_cn t N := by
  rw [← List.countP_eq_length_filter, ← mp_cnt t N l nd h]
  exact mb_mono (fun i _ y => by simp at y; exact y.1)
theorem mp_9 {l : List Nat} (nd : l.Nodup) (h : ∀ e, e ∈ l → e < 21) {sn al : Int32} (ha : ∀ j, j < 20 → bt al j = false) {c : Nat} (hc : c < 20) : (mf_lk l (mk_m sn al c)).length ≤ 9 := by
  have h1 := mp_len (fun j => bt (mk_m sn al c) j) nd h
  have h2 : mb_cn (fun j => bt (mk_m sn al c) j) 21 = mb_cn (fun j => bt (mk_m sn al c) j) 20 + (bt (mk_m sn al c) 20).toNat := rfl
  have h3 : mb_cn (fun j => bt (mk_m sn al c) j) 20 ≤ mb_cn (bt (me_t c)) 20 := mb_mono (fun i hi y => by
    rw [mk_m, b_or, b_and, ha i hi, Bool.or_false] at y
    simp at y
    exact y.1)
  have h4 := me_le8 c hc
  have h5 := mb_tn (bt (mk_m sn al c) 20)
  simp only [mf_lk]
  omega
theorem mp_9a {l : List Nat} (nd : l.Nodup) (h : ∀ e, e ∈ l → e < 21) {al : Int32} (ha : ∀ j, j < 20 → bt al j = false) : (mf_lk l al).length ≤ 9 := by
  have h1 := mp_len (fun j => bt al j) nd h
  have h2 : mb_cn (fun j => bt al j) 21 = mb_cn (fun j => bt al j) 20 + (bt al 20).toNat := rfl
  have h3 : mb_cn (fun j => bt al j) 20 = 0 := mb_of0 ha
  have h5 := mb_tn (bt al 20)
  simp only [mf_lk]
  omega
theorem mp_cap (j : Nat) : ∀ ks : List (Nat × Int32), mg_cap j ks ≤ (mg_flat ks).length
  | [] => Nat.le_refl _
  | k :: ks => by
    have := mp_cap j ks
    rw [mg_cap, mg_flat, List.length_append, List.length_replicate]
    split <;> omega
def mp_z (n R : Nat) (z : Nat → Nat) : Nat → Nat := fun t => if t = n then R else z t
theorem mp_zn (n R : Nat) (z : Nat → Nat) : mp_z n R z n = R := if_pos rfl
theorem mp_zt {n R : Nat} {z : Nat → Nat} {t : Nat} (h : t < n) : mp_z n R z t = z t := if_neg (by omega)
theorem mp_ks (n R : Nat) (z : Nat → Nat) (m : Nat → Int32) : mf_fl (mp_z n R z) m n = mf_fl z m n := mf_congr (fun i hi => ⟨mp_zt hi, rfl⟩)
/-- what the component holds when it has counted -/
def mr_XC (S : Int32) (ac : Nat → Int32) (cell mines ct nb : Int32) (ko sz mi : Nat → Int32) : Prop :=
  mr_T mines ∧ ((cell = -1 ∧ ct = nI (me_Cnt S (mu_k ac) mines.toInt) ∧ ∀ c, c < 20 → bt S c = false → ∃ k s, k < 21 ∧ s + 1 ≤ 20 ∧ ko c = nI k ∧ sz k = nI (s + 1) ∧ mi k = nI ((s + 1) * me_Min S (mu_k ac) mines.toInt c)) ∨
    (∃ w, w < 20 ∧ bt S w = false ∧ cell = nI w ∧ nb = mr_mask (mr_nb S ac w mines.toInt) 9))
/-- the needs at the root -/
def mp_w (S : Int32) (ac : Nat → Int32) (wt : Option Nat) (T : Int) : Nat → Int := fun j => if j = 20 then T else if wt = some j then 8 else if bt S j = true then mu_k ac j else 0
def mp_r (wt : Option Nat) : Nat → Nat := fun j => if wt = some j then 8 else 0
theorem mp_w0 (S : Int32) (ac : Nat → Int32) (T : Int) : mp_w S ac none T = me_w S (mu_k ac) T := by
  funext j
  simp [mp_w, me_w]
theorem mp_ww {S : Int32} {ac : Nat → Int32} {c : Nat} (hc : c < 20) (hs : bt S c = false) (T : Int) {b : Nat} (hb : b ≤ 8) : mc_sh c (8 - (b : Int)) (mp_w S ac (some c) T) = me_w (S ||| my_bit c) (mu_k (upd ac c (nI b))) T := by
  funext j
  simp only [mc_sh, mp_w, me_w, b_or]
  rw [my_bitb (by omega)]
  by_cases y : j = 20
  · subst y
    rw [if_neg (by omega)]
    simp
  · by_cases x : j = c
    · subst x
      have : mu_k (upd ac j (nI b)) j = (b : Int) := by rw [mu_k, pk_us, nI_toInt (by omega)]
      simp [y, this]
      omega
    · have : mu_k (upd ac c (nI b)) j = mu_k ac j := by rw [mu_k, pk_un x]; rfl
      have e : ¬ (some c : Option Nat) = some j := fun q => x (Option.some.inj q).symm
      rw [if_neg x, if_neg y, if_neg e, if_neg y, this, decide_eq_false x, Bool.or_false]
section
variable {f_shown f_total f_knownMined f_knownFree f_lastKind f_listed f_count f_numbers f_countedCell f_countedMines f_counted : Int32} {a_around a_clueOf a_kindOf a_cluesOf a_sizes a_clueList a_missing a_room a_links a_laterRoom a_linkEnd a_taken a_most a_countBefore a_ways a_minesIn : Nat → Int32}
variable {ac : Nat → Int32}
/-- the kinds and the clues, and then the search, without a total -/
theorem mp_sN (hC : mr_C f_shown ac) (hX : mr_X f_shown ac a_clueOf) {sn : Int32} {wt : Option Nat} (hsn : me_lo sn) (hwt : (f_countedCell = -1 ∧ wt = none ∧ sn = f_shown) ∨ ∃ c, c < 20 ∧ f_countedCell = nI c ∧ wt = some c ∧ bt f_shown c = false ∧ sn = f_shown ||| my_bit c)
    {n : Nat} {z : Nat → Nat} (hF : mk_F sn 0 f_lastKind a_kindOf a_cluesOf a_sizes n z) {T : Int} (hL : ma_L (ma_lst f_shown wt false) (fun j => nI (mp_w f_shown ac wt T j).toNat) (fun j => nI (mp_r wt j)) f_listed a_clueList a_missing a_room) {post : SX → Prop}
    (h : ∀ rm lk lr le (ct' nb' : Int32) (ms' tk' mo' cb' wy' mi' : Nat → Int32), (∀ i, i < n → mi' i = a_ways 0 * nI (mg_H (mc_L (bt (sn ||| 0)) (mq_r (mp_r wt))) i (mf_ks z a_cluesOf n) (mp_w f_shown ac wt T))) → ct' = f_count + a_ways 0 * nI (mg_K (mc_L (bt (sn ||| 0)) (mq_r (mp_r wt))) (mf_ks z a_cluesOf n) (mp_w f_shown ac wt T)) →
      mq_N wt f_numbers nb' (fun c b => mg_K (mc_Lb (bt (sn ||| 0)) (mq_r (mp_r wt)) c b) (mf_ks z a_cluesOf n) (mp_w f_shown ac wt T)) → post (f_shown, f_total, f_knownMined, f_knownFree, f_lastKind, f_listed, ct', nb', f_countedCell, f_countedMines, f_counted, a_around, a_clueOf, a_kindOf, a_cluesOf, a_sizes, a_clueList, ms', rm, lk, lr, le, tk', mo', cb', wy', mi')) :
    wpX_search post (f_shown, f_total, f_knownMined, f_knownFree, f_lastKind, f_listed, f_count, f_numbers, f_countedCell, f_countedMines, f_counted, a_around, a_clueOf, a_kindOf, a_cluesOf, a_sizes, a_clueList, a_missing, a_room, a_links, a_laterRoom, a_linkEnd, a_taken, a_most, a_countBefore, a_ways, a_minesIn) (nI n) := by
  obtain ⟨f1, f2, f3, f4, f5, f6, f7, f8, f9⟩ := hF
  have hw' : ∀ c, wt = some c → c < 20 ∧ bt f_shown c = false := by
    intro c hc
    rcases hwt with ⟨_, h, _⟩ | ⟨c', h1, _, h2, h3, _⟩
    · rw [h] at hc; cases hc
    · rw [h2] at hc; cases hc; exact ⟨h1, h3⟩
  have mem := fun j => ma_mem hC.1 (w := wt) (t := false) (j := j)
  have nd : (ma_lst f_shown wt false).Nodup := ma_nd hw'
  have h21 : ∀ j, j ∈ ma_lst f_shown wt false → j < 21 := fun j hj => (hL.2.2 j hj).1
  have hlen : (ma_lst f_shown wt false).length ≤ 21 := by
    have := mp_len (fun _ => true) nd h21
    have h2 := mb_le (fun _ => true) 21
    rw [List.filter_eq_self.mpr (fun _ _ => rfl)] at this
    omega
  have lenE : (mf_fl z a_cluesOf n).length = (me_E sn).length := by rw [f5.length_eq, List.length_map]
  have hER := me_ER20 sn
  have sj : ∀ j, bt sn j = true ↔ (bt f_shown j = true ∨ wt = some j) := by
    intro j
    rcases hwt with ⟨_, h, h2⟩ | ⟨c', h1, _, h2, h3, h4⟩
    · rw [h, h2]; simp
    · rw [h2, h4, b_or, my_bitb (by omega)]
      simp
      exact ⟨fun y => y.imp id (fun q => q.symm), fun y => y.imp id (fun q => q.symm)⟩
  have ks9 : ∀ k, k < n → (mf_lk (ma_lst f_shown wt false) (a_cluesOf k)).length ≤ 9 := by
    intro k hk
    obtain ⟨c, hc, e⟩ := f4 k hk
    rw [e]
    exact mp_9 nd h21 (fun j _ => b_0 j) hc
  have wb : ∀ j, j ∈ ma_lst f_shown wt false → 0 ≤ mp_w f_shown ac wt T j ∧ mp_w f_shown ac wt T j ≤ 20 := by
    intro j hj
    have hj' := (mem j).mp hj
    have j20 : j ≠ 20 := by
      rintro rfl
      rcases hj' with y | y | y
      · rw [hC.1 20 (by omega)] at y; cases y
      · have := (hw' 20 y).1; omega
      · cases y.1
    simp only [mp_w, j20, if_false]
    by_cases y : wt = some j
    · rw [if_pos y]; omega
    · rw [if_neg y]
      rcases hj' with x | x | x
      · rw [if_pos x]
        have j19 : j < 20 := by have := h21 j hj; omega
        obtain ⟨m, hm, e⟩ := (hC.2 j j19).1 x
        rw [mu_k, e, nI_toInt (by omega)]; omega
      · exact absurd x y
      · cases x.1
  refine mq_search (J := bt (sn ||| 0)) (wt := wt) (r0 := mp_r wt) nd h21 hlen hL.1 hL.2.1 (by omega) (fun k hk => ⟨(f3 k hk).1, ?_⟩) ks9 (fun j hj => ⟨(hL.2.2 j hj).2.2, ?_⟩) (fun j => ?_) ?_ (fun j hj => ?_) ?_ (wd := mp_w f_shown ac wt T) (fun j hj => ⟨(wb j hj).1, (hL.2.2 j hj).2.1⟩) (fun j hj => by have := (wb j hj).2; omega) h
  · have := mf_zle (z := z) (m := a_cluesOf) hk; omega
  · unfold mp_r; split <;> omega
  · have := mp_cap j (mf_ks z a_cluesOf n)
    rw [mf_flat] at this
    omega
  · refine (ms_max (mf_pos (fun i hi => (f3 i hi).2)) 0 0 ?_).1
    rw [mf_flat]; omega
  · rw [Int32.or_zero, sj, mem]
    constructor
    · rintro (y | y)
      · exact Or.inl y
      · exact Or.inr (Or.inl y)
    · rintro (y | y | y)
      · exact Or.inl y
      · exact Or.inr y
      · cases y.1
  · rcases hwt with ⟨h1, h2, _⟩ | ⟨c', h1, h0, h2, h3, h4⟩
    · exact Or.inl ⟨h1, h2⟩
    · refine Or.inr ⟨c', h1, h0, h2, (mem c').mpr (Or.inr (Or.inl h2)), ?_⟩
      rw [mp_r, if_pos h2]
/-- with a total -/
theorem mp_sT (hC : mr_C f_shown ac) (hX : mr_X f_shown ac a_clueOf) {sn : Int32} {wt : Option Nat} (hsn : me_lo sn) (hwt : (f_countedCell = -1 ∧ wt = none ∧ sn = f_shown) ∨ ∃ c, c < 20 ∧ f_countedCell = nI c ∧ wt = some c ∧ bt f_shown c = false ∧ sn = f_shown ||| my_bit c)
    {n : Nat} {z : Nat → Nat} (hF : mk_F sn me_b f_lastKind a_kindOf a_cluesOf a_sizes n z) {t : Nat} (ht : t ≤ 20) (hL : ma_L (ma_lst f_shown wt true) (fun j => nI (mp_w f_shown ac wt t j).toNat) (fun j => nI (mp_r wt j)) f_listed a_clueList a_missing a_room) {post : SX → Prop}
    (h : ∀ rm lk lr le (ct' nb' : Int32) (ms' tk' mo' cb' wy' mi' : Nat → Int32), (∀ i, i < n + 1 → mi' i = a_ways 0 * nI (mg_H (mc_L (bt (sn ||| me_b)) (mq_r (mp_r wt))) i (mf_ks (mp_z n (me_R sn) z) a_cluesOf (n + 1)) (mp_w f_shown ac wt t))) → ct' = f_count + a_ways 0 * nI (mg_K (mc_L (bt (sn ||| me_b)) (mq_r (mp_r wt))) (mf_ks (mp_z n (me_R sn) z) a_cluesOf (n + 1)) (mp_w f_shown ac wt t)) →
      mq_N wt f_numbers nb' (fun c b => mg_K (mc_Lb (bt (sn ||| me_b)) (mq_r (mp_r wt)) c b) (mf_ks (mp_z n (me_R sn) z) a_cluesOf (n + 1)) (mp_w f_shown ac wt t)) → post (f_shown, f_total, f_knownMined, f_knownFree, f_lastKind, f_listed, ct', nb', f_countedCell, f_countedMines, f_counted, a_around, a_clueOf, a_kindOf, a_cluesOf, a_sizes, a_clueList, ms', rm, lk, lr, le, tk', mo', cb', wy', mi')) :
    wpX_search post (f_shown, f_total, f_knownMined, f_knownFree, f_lastKind, f_listed, f_count, f_numbers, f_countedCell, f_countedMines, f_counted, a_around, a_clueOf, a_kindOf, a_cluesOf, a_sizes, a_clueList, a_missing, a_room, a_links, a_laterRoom, a_linkEnd, a_taken, a_most, a_countBefore, a_ways, a_minesIn) (nI (n + 1)) := by
  obtain ⟨f1, f2, f3, f4, f5, f6, f7, f8, f9⟩ := hF
  have hw' : ∀ c, wt = some c → c < 20 ∧ bt f_shown c = false := by
    intro c hc
    rcases hwt with ⟨_, h, _⟩ | ⟨c', h1, _, h2, h3, _⟩
    · rw [h] at hc; cases hc
    · rw [h2] at hc; cases hc; exact ⟨h1, h3⟩
  have mem := fun j => ma_mem hC.1 (w := wt) (t := true) (j := j)
  have nd : (ma_lst f_shown wt true).Nodup := ma_nd hw'
  have h21 : ∀ j, j ∈ ma_lst f_shown wt true → j < 21 := fun j hj => (hL.2.2 j hj).1
  have hlen : (ma_lst f_shown wt true).length ≤ 21 := by
    have := mp_len (fun _ => true) nd h21
    have h2 := mb_le (fun _ => true) 21
    rw [List.filter_eq_self.mpr (fun _ _ => rfl)] at this
    omega
  have lenE : (mf_fl z a_cluesOf n).length = (me_E sn).length := by rw [f5.length_eq, List.length_map]
  have hER := me_ER20 sn
  have sj : ∀ j, bt sn j = true ↔ (bt f_shown j = true ∨ wt = some j) := by
    intro j
    rcases hwt with ⟨_, h, h2⟩ | ⟨c', h1, _, h2, h3, h4⟩
    · rw [h, h2]; simp
    · rw [h2, h4, b_or, my_bitb (by omega)]
      simp
      exact ⟨fun y => y.imp id (fun q => q.symm), fun y => y.imp id (fun q => q.symm)⟩
  have blo : ∀ j, j < 20 → bt me_b j = false := fun j hj => by rw [me_bb, decide_eq_false (by omega)]
  have ks9 : ∀ k, k < n + 1 → (mf_lk (ma_lst f_shown wt true) (a_cluesOf k)).length ≤ 9 := by
    intro k hk
    rcases Nat.lt_or_ge k n with y | y
    · obtain ⟨c, hc, e⟩ := f4 k y
      rw [e]
      exact mp_9 nd h21 blo hc
    · have : k = n := by omega
      rw [this, f7]
      exact mp_9a nd h21 blo
  have wb : ∀ j, j ∈ ma_lst f_shown wt true → 0 ≤ mp_w f_shown ac wt t j ∧ mp_w f_shown ac wt t j ≤ 20 := by
    intro j hj
    have hj' := (mem j).mp hj
    by_cases j20 : j = 20
    · subst j20
      simp only [mp_w, if_true]; omega
    · simp only [mp_w, j20, if_false]
      by_cases y : wt = some j
      · rw [if_pos y]; omega
      · rw [if_neg y]
        rcases hj' with x | x | x
        · rw [if_pos x]
          have j19 : j < 20 := by have := h21 j hj; omega
          obtain ⟨m, hm, e⟩ := (hC.2 j j19).1 x
          rw [mu_k, e, nI_toInt (by omega)]; omega
        · exact absurd x y
        · exact absurd x.2 j20
  have fl : (mg_flat (mf_ks (mp_z n (me_R sn) z) a_cluesOf (n + 1))).length ≤ 20 := by
    rw [mf_flat, mf_fl, mp_ks, List.length_append, List.length_replicate, mp_zn]; omega
  refine mq_search (J := bt (sn ||| me_b)) (wt := wt) (r0 := mp_r wt) nd h21 hlen hL.1 hL.2.1 (by omega) (fun k hk => ⟨?_, ?_⟩) ks9 (fun j hj => ⟨(hL.2.2 j hj).2.2, ?_⟩) (fun j => ?_) ?_ (fun j hj => ?_) ?_ (wd := mp_w f_shown ac wt t) (fun j hj => ⟨(wb j hj).1, (hL.2.2 j hj).2.1⟩) (fun j hj => by have := (wb j hj).2; omega) h
  · rcases Nat.lt_or_ge k n with y | y
    · rw [mp_zt y]; exact (f3 k y).1
    · have : k = n := by omega
      rw [this, mp_zn]; exact f8
  · rcases Nat.lt_or_ge k n with y | y
    · rw [mp_zt y]
      have := mf_zle (z := z) (m := a_cluesOf) y; omega
    · have : k = n := by omega
      rw [this, mp_zn]; omega
  · unfold mp_r; split <;> omega
  · have := mp_cap j (mf_ks (mp_z n (me_R sn) z) a_cluesOf (n + 1))
    omega
  · rw [mf_ks_s]
    refine (ms_max (mf_pos (fun i hi => ?_)) _ _ ?_).2
    · rw [mp_zt hi]; exact (f3 i hi).2
    · rw [mf_flat, mp_ks, mp_zn]; omega
  · rw [b_or, Bool.or_eq_true, sj, mem, me_bb, decide_eq_true_iff]
    constructor
    · rintro ((y | y) | y)
      · exact Or.inl y
      · exact Or.inr (Or.inl y)
      · exact Or.inr (Or.inr ⟨rfl, y⟩)
    · rintro (y | y | y)
      · exact Or.inl (Or.inl y)
      · exact Or.inl (Or.inr y)
      · exact Or.inr y.2
  · rcases hwt with ⟨h1, h2, _⟩ | ⟨c', h1, h0, h2, h3, h4⟩
    · exact Or.inl ⟨h1, h2⟩
    · refine Or.inr ⟨c', h1, h0, h2, (mem c').mpr (Or.inr (Or.inl h2)), ?_⟩
      rw [mp_r, if_pos h2]
end
end
section
/-! the component has counted -/
theorem mw_m1 : (-1 : Int32).toInt = -1 := by decide
theorem mw_ne {w : Nat} (hw : w < 20) : ¬ nI w = -1 := by
  intro z
  have : (nI w).toInt = (-1 : Int32).toInt := by rw [← z]
  rw [nI_toInt (by omega), mw_m1] at this
  omega
theorem mw_mx (sn : Int32) : mk_m sn 0 = mc_mx sn := by
  funext c
  rw [mk_m, Int32.or_zero, mc_mx]
theorem mw_r0 : ∀ j, mq_r (mp_r none) j = 0 := fun j => by simp [mq_r, mp_r]
theorem mw_rc (c : Nat) : ∀ j, mq_r (mp_r (some c)) j = if j = c then 8 else 0 := fun j => by
  simp only [mq_r, mp_r]
  by_cases h : j = c
  · subst h; simp
  · rw [if_neg h, if_neg (fun z => h (Option.some.inj z).symm)]; rfl
section
variable {S : Int32} {ac : Nat → Int32} {lk : Int32} {ko co sz : Nat → Int32} {n : Nat} {z : Nat → Nat}
theorem mw_N (hC : mr_C S ac) (hF : mk_F S 0 lk ko co sz n z) {ct nb : Int32} {mi : Nat → Int32} (h1 : ∀ i, i < n → mi i = nI (2 ^ me_R S) * nI (mg_H (mc_L (bt (S ||| 0)) (mq_r (mp_r none))) i (mf_ks z co n) (mp_w S ac none (-1)))) (h2 : ct = 0 + nI (2 ^ me_R S) * nI (mg_K (mc_L (bt (S ||| 0)) (mq_r (mp_r none))) (mf_ks z co n) (mp_w S ac none (-1)))) :
    mr_XC S ac (-1) (-1) ct nb ko sz (upd mi n (ct * sz n / 2)) := by
  obtain ⟨f1, f2, f3, f4, f5, f6, f7, f8, f9⟩ := hF
  have eL : mc_L (bt (S ||| 0)) (mq_r (mp_r none)) = mg_L' (bt S) := mc_LN (fun j _ => by rw [Int32.or_zero]) (fun j _ _ => mw_r0 j) (hC.1 20 (by omega))
  rw [eL, mp_w0] at h2
  rw [eL, mp_w0] at h1
  rw [mw_mx] at f5 f4 f6
  rw [← mf_flat] at f5
  have hneg : (-1 : Int) < 0 := by omega
  have hR := me_ER20 S
  have hCb := me_Cb S (mu_k ac) (-1)
  rw [pk_mul, mc_X4 f5 (mu_k ac) hneg (-1), Int32.zero_add] at h2
  refine ⟨Or.inl rfl, Or.inl ⟨rfl, ?_, fun c hc hs => ?_⟩⟩
  · rw [mw_m1]; exact h2
  · rw [mw_m1]
    cases he : me_ed S c
    · have hRp := mr_Rp hc hs he
      have ho : me_ot S c = true := by
        simp [me_ed, hs] at he
        simp [me_ot, hs, he]
      obtain ⟨s, hsR⟩ : ∃ s, me_R S = s + 1 := ⟨me_R S - 1, by omega⟩
      have hx := mc_X6 f5 (mu_k ac) hneg (-1) (c := c) (by rw [he]; simp) hRp
      rw [mc_X4 f5 (mu_k ac) hneg (-1)] at hx
      refine ⟨n, s, by omega, by omega, f9 c hc ho, ?_, ?_⟩
      · rw [f8, hsR]
      · have hb : me_Cnt S (mu_k ac) (-1) * me_R S ≤ 2 ^ 20 * 20 := Nat.mul_le_mul hCb (by omega)
        rw [pk_us, h2, f8, pk_mul, show (2 : Int32) = nI 2 from rfl, pk_div (by omega) (by omega) (by omega), hx, hsR]
    · obtain ⟨t, t1, t2, t3⟩ := f6 c hc he
      obtain ⟨s, hs1⟩ : ∃ s, z t = s + 1 := ⟨z t - 1, by have := (f3 t t1).2; omega⟩
      have hx := mc_X5 f5 (mu_k ac) hneg (-1) hc he (i := t) (s := s) (by rw [mf_get _ _ t1, hs1, t3])
      have zl := mf_zle (z := z) (m := co) t1
      rw [mf_flat] at f5
      have ll := f5.length_eq
      rw [List.length_map] at ll
      refine ⟨t, s, by omega, by omega, t2, ?_, ?_⟩
      · rw [(f3 t t1).1, hs1]
      · rw [pk_un (by omega), h1 t t1, pk_mul, hx]
theorem mw_T (hC : mr_C S ac) (hF : mk_F S me_b lk ko co sz n z) {t : Nat} (ht : t ≤ 20) {ct nb : Int32} {mi : Nat → Int32} (h1 : ∀ i, i < n + 1 → mi i = 1 * nI (mg_H (mc_L (bt (S ||| me_b)) (mq_r (mp_r none))) i (mf_ks (mp_z n (me_R S) z) co (n + 1)) (mp_w S ac none t))) (h2 : ct = 0 + 1 * nI (mg_K (mc_L (bt (S ||| me_b)) (mq_r (mp_r none))) (mf_ks (mp_z n (me_R S) z) co (n + 1)) (mp_w S ac none t))) :
    mr_XC S ac (-1) (nI t) ct nb ko sz mi := by
  obtain ⟨f1, f2, f3, f4, f5, f6, f7, f8, f9⟩ := hF
  have eL : mc_L (bt (S ||| me_b)) (mq_r (mp_r none)) = mg_L (bt S) := mc_LT (fun j _ => by rw [b_or, me_bb]) (fun j _ _ => mw_r0 j) (hC.1 20 (by omega))
  have eK : mf_ks (mp_z n (me_R S) z) co (n + 1) = mf_ks (mp_z n (me_R S) z) co n ++ [(me_R S, me_b)] := by rw [mf_ks_s, mp_zn, f7]
  rw [eL, mp_w0, eK] at h2
  rw [eL, mp_w0, eK] at h1
  have f5' : List.Perm (mg_flat (mf_ks (mp_z n (me_R S) z) co n)) ((me_E S).map (me_mk S)) := by
    rw [mf_flat, mp_ks]; exact f5
  have hnn : ¬ (t : Int) < 0 := by omega
  have hR := me_ER20 S
  have hT : (nI t).toInt = (t : Int) := nI_toInt (by omega)
  rw [mc_X1 f5' (mu_k ac) hnn, Int32.one_mul, Int32.zero_add] at h2
  refine ⟨mr_Tn ht, Or.inl ⟨rfl, ?_, fun c hc hs => ?_⟩⟩
  · rw [hT]; exact h2
  · rw [hT]
    cases he : me_ed S c
    · have hRp := mr_Rp hc hs he
      have ho : me_ot S c = true := by
        simp [me_ed, hs] at he
        simp [me_ot, hs, he]
      obtain ⟨s, hsR⟩ : ∃ s, me_R S = s + 1 := ⟨me_R S - 1, by omega⟩
      have hx := mc_X3 f5' (mu_k ac) hnn (c := c) (by rw [he]; simp) hRp
      rw [mf_len] at hx
      refine ⟨n, s, by omega, by omega, f9 c hc ho, ?_, ?_⟩
      · rw [f8, hsR]
      · rw [h1 n (by omega), Int32.one_mul, hx, hsR]
    · obtain ⟨q, t1, t2, t3⟩ := f6 c hc he
      obtain ⟨s, hs1⟩ : ∃ s, z q = s + 1 := ⟨z q - 1, by have := (f3 q t1).2; omega⟩
      have hx := mc_X2 f5' (mu_k ac) hnn hc he (i := q) (s := s) (by rw [mf_get _ _ t1, mp_zt t1, hs1, t3]; rfl)
      have zl := mf_zle (z := z) (m := co) t1
      have ll := f5.length_eq
      rw [List.length_map] at ll
      refine ⟨q, s, by omega, by omega, t2, ?_, ?_⟩
      · rw [(f3 q t1).1, hs1]
      · rw [h1 q (by omega), Int32.one_mul, hx]
/-- watched -/
theorem mw_nbs {w : Nat} {nb : Int32} {T : Int} {f : Nat → Nat → Nat} (h : mq_N (some w) 0 nb f) (hf : ∀ b, b ≤ 8 → (0 < f w b ↔ 0 < me_Cnt (S ||| my_bit w) (mu_k (upd ac w (nI b))) T)) : nb = mr_mask (mr_nb S ac w T) 9 := by
  refine b_ext (fun b hb => ?_)
  rw [h w rfl b hb, mr_maskb _ 9 (by omega), b_0, Bool.false_or]
  by_cases y : b ≤ 8
  · rw [decide_eq_true y, decide_eq_true (show b < 9 by omega), mr_nb]
    simp only [Bool.true_and]
    exact decide_eq_decide.mpr (hf b y)
  · rw [decide_eq_false y, decide_eq_false (show ¬ b < 9 by omega)]; rfl
theorem mw_WN (hC : mr_C S ac) {w : Nat} (hw : w < 20) (hs : bt S w = false) (hF : mk_F (S ||| my_bit w) 0 lk ko co sz n z) {ct nb : Int32} {mi : Nat → Int32} (h : mq_N (some w) 0 nb (fun c b => mg_K (mc_Lb (bt ((S ||| my_bit w) ||| 0)) (mq_r (mp_r (some w))) c b) (mf_ks z co n) (mp_w S ac (some w) (-1)))) :
    mr_XC S ac (nI w) (-1) ct nb ko sz mi := by
  obtain ⟨f1, f2, f3, f4, f5, f6, f7, f8, f9⟩ := hF
  rw [mw_mx] at f5
  rw [← mf_flat] at f5
  have hneg : (-1 : Int) < 0 := by omega
  have hsn : me_lo (S ||| my_bit w) := mr_orl hC.1 (my_bitlo hw)
  have hcS : bt (S ||| my_bit w) w = true := by rw [b_or, my_bitb (by omega)]; simp
  refine ⟨Or.inl rfl, Or.inr ⟨w, hw, hs, rfl, ?_⟩⟩
  rw [mw_m1]
  refine mw_nbs h (fun b hb => ?_)
  rw [mc_LbN hw hcS hb (fun j _ => by rw [Int32.or_zero]) (fun j _ _ => mw_rc w j) (hsn 20 (by omega))]
  have hx := mc_W2 f5 (mu_k (upd ac w (nI b))) hneg (-1) hw hcS (mp_ww hw hs (-1) hb)
  rw [← hx]
  have hp : 0 < 2 ^ me_R (S ||| my_bit w) := Nat.two_pow_pos _
  exact ⟨fun y => Nat.mul_pos hp y, fun y => Nat.pos_of_mul_pos_left y⟩
theorem mw_WT (hC : mr_C S ac) {w : Nat} (hw : w < 20) (hs : bt S w = false) (hF : mk_F (S ||| my_bit w) me_b lk ko co sz n z) {t : Nat} (ht : t ≤ 20) {ct nb : Int32} {mi : Nat → Int32} (h : mq_N (some w) 0 nb (fun c b => mg_K (mc_Lb (bt ((S ||| my_bit w) ||| me_b)) (mq_r (mp_r (some w))) c b) (mf_ks (mp_z n (me_R (S ||| my_bit w)) z) co (n + 1)) (mp_w S ac (some w) t))) :
    mr_XC S ac (nI w) (nI t) ct nb ko sz mi := by
  obtain ⟨f1, f2, f3, f4, f5, f6, f7, f8, f9⟩ := hF
  have eK : mf_ks (mp_z n (me_R (S ||| my_bit w)) z) co (n + 1) = mf_ks (mp_z n (me_R (S ||| my_bit w)) z) co n ++ [(me_R (S ||| my_bit w), me_b)] := by rw [mf_ks_s, mp_zn, f7]
  have f5' : List.Perm (mg_flat (mf_ks (mp_z n (me_R (S ||| my_bit w)) z) co n)) ((me_E (S ||| my_bit w)).map (me_mk (S ||| my_bit w))) := by
    rw [mf_flat, mp_ks]; exact f5
  have hnn : ¬ (t : Int) < 0 := by omega
  have hsn : me_lo (S ||| my_bit w) := mr_orl hC.1 (my_bitlo hw)
  have hcS : bt (S ||| my_bit w) w = true := by rw [b_or, my_bitb (by omega)]; simp
  refine ⟨mr_Tn ht, Or.inr ⟨w, hw, hs, rfl, ?_⟩⟩
  rw [nI_toInt (by omega)]
  refine mw_nbs h (fun b hb => ?_)
  rw [mc_LbT hw hcS hb (fun j _ => by rw [b_or, me_bb]) (fun j _ _ => mw_rc w j) (hsn 20 (by omega)), eK]
  rw [mc_W1 f5' (mu_k (upd ac w (nI b))) hnn hw hcS (mp_ww hw hs t hb)]
end
section
variable {f_shown f_total f_knownMined f_knownFree f_lastKind f_listed f_count f_numbers f_countedCell f_countedMines f_counted : Int32} {a_around a_clueOf a_kindOf a_cluesOf a_sizes a_clueList a_missing a_room a_links a_laterRoom a_linkEnd a_taken a_most a_countBefore a_ways a_minesIn : Nat → Int32}
variable {ac : Nat → Int32}
theorem mw_24 (hC : mr_C f_shown ac) (hX : mr_X f_shown ac a_clueOf) (hA : mr_A a_around) {cell mines : Int32} (hcell : cell = -1 ∨ ∃ w, w < 20 ∧ bt f_shown w = false ∧ cell = nI w) (hm : mr_T mines) {post : SX → Prop}
    (h : ∀ (f_lastKind1 f_listed1 f_count1 f_numbers1 f_countedCell1 f_countedMines1 f_counted1 : Int32) (a_kindOf1 a_cluesOf1 a_sizes1 a_clueList1 a_missing1 a_room1 a_links1 a_laterRoom1 a_linkEnd1 a_taken1 a_most1 a_countBefore1 a_ways1 a_minesIn1 : Nat → Int32), f_counted1 = 1 → mr_XC f_shown ac f_countedCell1 f_countedMines1 f_count1 f_numbers1 a_kindOf1 a_sizes1 a_minesIn1 → f_countedCell1 = cell → f_countedMines1 = mines → post (f_shown, f_total, f_knownMined, f_knownFree, f_lastKind1, f_listed1, f_count1, f_numbers1, f_countedCell1, f_countedMines1, f_counted1, a_around, a_clueOf, a_kindOf1, a_cluesOf1, a_sizes1, a_clueList1, a_missing1, a_room1, a_links1, a_laterRoom1, a_linkEnd1, a_taken1, a_most1, a_countBefore1, a_ways1, a_minesIn1)) : wX_countWith_24 post cell mines f_shown f_total f_knownMined f_knownFree f_lastKind f_listed f_count f_numbers f_countedCell f_countedMines f_counted a_around a_clueOf a_kindOf a_cluesOf a_sizes a_clueList a_missing a_room a_links a_laterRoom a_linkEnd a_taken a_most a_countBefore a_ways a_minesIn := by
  unfold wX_countWith_24
  obtain ⟨sn, wt, hsnl, hsn, hwt⟩ : ∃ (sn : Int32) (wt : Option Nat), me_lo sn ∧ ((cell = -1 ∧ sn = f_shown) ∨ ∃ w, w < 20 ∧ cell = nI w ∧ sn = f_shown ||| my_bit w) ∧ ((cell = -1 ∧ wt = none ∧ sn = f_shown) ∨ ∃ c, c < 20 ∧ cell = nI c ∧ wt = some c ∧ bt f_shown c = false ∧ sn = f_shown ||| my_bit c) := by
    rcases hcell with e | ⟨w, hw, hs, e⟩
    · exact ⟨f_shown, none, hC.1, Or.inl ⟨e, rfl⟩, Or.inl ⟨e, rfl, rfl⟩⟩
    · exact ⟨f_shown ||| my_bit w, some w, mr_orl hC.1 (my_bitlo hw), Or.inr ⟨w, hw, e, rfl⟩, Or.inr ⟨w, hw, e, rfl, hs, rfl⟩⟩
  have shn : ∀ j, bt f_shown j = true → ¬ wt = some j := by
    intro j hj y
    rcases hwt with ⟨_, q, _⟩ | ⟨c, _, _, q, r, _⟩
    · rw [q] at y; cases y
    · rw [q] at y; cases y; rw [r] at hj; cases hj
  have hm1 : ∀ (T : Int) (j : Nat), j < 20 → bt f_shown j = true → nI (mp_w f_shown ac wt T j).toNat = a_clueOf j ∧ nI (mp_r wt j) = 0 := by
    intro T j hj hs
    obtain ⟨m, hm8, e⟩ := (hC.2 j hj).1 hs
    have e2 : mp_w f_shown ac wt T j = (m : Int) := by
      simp only [mp_w, show ¬ j = 20 by omega, if_false]
      rw [if_neg (shn j hs), if_pos hs, mu_k, e, nI_toInt (by omega)]
    rw [e2, mp_r, if_neg (shn j hs), (hX j hj).1 hs, e]
    exact ⟨rfl, rfl⟩
  have hw8 : ∀ (T : Int) (c : Nat), c < 20 → wt = some c → nI (mp_w f_shown ac wt T c).toNat = 8 ∧ nI (mp_r wt c) = 8 := by
    intro T c hc hcw
    have e2 : mp_w f_shown ac wt T c = 8 := by
      simp only [mp_w, show ¬ c = 20 by omega, if_false]
      rw [if_pos hcw]
    rw [e2, mp_r, if_pos hcw]
    exact ⟨rfl, rfl⟩
  have hwl : ∀ T : Int, (cell = -1 ∧ wt = none) ∨ ∃ c, c < 20 ∧ cell = nI c ∧ wt = some c ∧ bt f_shown c = false ∧ nI (mp_w f_shown ac wt T c).toNat = 8 ∧ nI (mp_r wt c) = 8 := by
    intro T
    rcases hwt with ⟨e, q, _⟩ | ⟨c, hc, e, q, r, _⟩
    · exact Or.inl ⟨e, q⟩
    · obtain ⟨g1, g2⟩ := hw8 T c hc q
      exact Or.inr ⟨c, hc, e, q, r, g1, g2⟩
  rcases hm with rfl | ⟨t, ht, rfl⟩
  · refine mx_kinds hA hC.1 hsn (Or.inl ⟨rfl, rfl⟩) (fun lk ko co sz n z hF => ?_)
    have hF' := hF
    obtain ⟨f1, f2, f3, f4, f5, f6, f7, f8, f9⟩ := hF'
    have hR := me_ER20 sn
    have vl : vp_in lk 21 := by rw [f1]; exact vp_in_nI (by omega) (by omega)
    have cl : lk.toNatClampNeg = n := by rw [f1]; exact nI_clamp (by omega)
    refine mx_clues hC.1 (mv := fun j => nI (mp_w f_shown ac wt (-1) j).toNat) (rv := fun j => nI (mp_r wt j)) (fun j hj hs => hm1 (-1) j hj hs) (hwl (-1)) (t := false) (Or.inl ⟨rfl, rfl⟩) (fun ls cl' ms rm hL => br_t rfl ⟨vl, nm_r (e' := upd a_ways 0 (nI (2 ^ me_R sn))) (by rw [cl, f8, my_p2 _ (by omega)]) ?_⟩)
    have goal := mp_sN (f_total := f_total) (f_knownMined := f_knownMined) (f_knownFree := f_knownFree) (f_count := 0) (f_numbers := 0) (f_countedCell := cell) (f_countedMines := -1) (f_counted := 1) (a_around := a_around) (a_links := a_links) (a_laterRoom := a_laterRoom) (a_linkEnd := a_linkEnd) (a_taken := a_taken) (a_most := a_most) (a_countBefore := a_countBefore) (a_ways := upd a_ways 0 (nI (2 ^ me_R sn))) (a_minesIn := a_minesIn) hC hX hsnl hwt hF hL
      (post := fun u => match u with | (f_shownq, f_totalq, f_knownMinedq, f_knownFreeq, f_lastKindq, f_listedq, f_countq, f_numbersq, f_countedCellq, f_countedMinesq, f_countedq, a_aroundq, a_clueOfq, a_kindOfq, a_cluesOfq, a_sizesq, a_clueListq, a_missingq, a_roomq, a_linksq, a_laterRoomq, a_linkEndq, a_takenq, a_mostq, a_countBeforeq, a_waysq, a_minesInq) => (vp_in f_lastKindq 21 ∧ (¬ (2 : Int32) = 0 ∧ (vp_in f_lastKindq 21 ∧ ∀ mi : Nat → Int32, mi = upd a_minesInq f_lastKindq.toNatClampNeg ((f_countq * (a_sizesq f_lastKindq.toNatClampNeg)) / 2) → post (f_shownq, f_totalq, f_knownMinedq, f_knownFreeq, f_lastKindq, f_listedq, f_countq, f_numbersq, f_countedCellq, f_countedMinesq, f_countedq, a_aroundq, a_clueOfq, a_kindOfq, a_cluesOfq, a_sizesq, a_clueListq, a_missingq, a_roomq, a_linksq, a_laterRoomq, a_linkEndq, a_takenq, a_mostq, a_countBeforeq, a_waysq, mi))))) ?_
    · rw [← f1] at goal
      exact goal
    · intro rm' lk' lr' le' ct' nb' ms' tk' mo' cb' wy' mi' g1 g2 g3
      refine ⟨vl, by decide, vl, nm_r (e' := upd mi' n (ct' * sz n / 2)) (by rw [cl]) (h _ _ _ _ _ _ _ _ _ _ _ _ _ _ _ _ _ _ _ _ _ rfl ?_ rfl rfl)⟩
      rw [pk_us] at g1 g2
      rcases hwt with ⟨e, q, r⟩ | ⟨c, hc, e, q, r, s⟩
      · subst e q r
        exact mw_N hC hF g1 g2
      · subst e q s
        exact mw_WN hC hc r hF g3
  · have hne : ¬ nI t = -1 := by
      intro y
      have : (nI t).toInt = (-1 : Int32).toInt := by rw [← y]
      rw [nI_toInt (by omega), mw_m1] at this
      omega
    refine mx_kinds hA hC.1 hsn (Or.inr ⟨hne, rfl⟩) (fun lk ko co sz n z hF => ?_)
    have hF' := hF
    obtain ⟨f1, f2, f3, f4, f5, f6, f7, f8, f9⟩ := hF'
    refine mx_clues hC.1 (mv := fun j => nI (mp_w f_shown ac wt t j).toNat) (rv := fun j => nI (mp_r wt j)) (fun j hj hs => hm1 t j hj hs) (hwl t) (t := true) (Or.inr ⟨hne, rfl, ?_, ?_⟩) (fun ls cl' ms rm hL => br_f hne (nm_e ?_))
    · simp [mp_w]
    · have : ¬ wt = some 20 := by
        intro y
        rcases hwt with ⟨_, q, _⟩ | ⟨c, hc, _, q, _, _⟩
        · rw [q] at y; cases y
        · rw [q] at y; cases y; omega
      rw [mp_r, if_neg this]; rfl
    have goal := mp_sT (f_total := f_total) (f_knownMined := f_knownMined) (f_knownFree := f_knownFree) (f_count := 0) (f_numbers := 0) (f_countedCell := cell) (f_countedMines := nI t) (f_counted := 1) (a_around := a_around) (a_links := a_links) (a_laterRoom := a_laterRoom) (a_linkEnd := a_linkEnd) (a_taken := a_taken) (a_most := a_most) (a_countBefore := a_countBefore) (a_ways := upd a_ways 0 1) (a_minesIn := a_minesIn) hC hX hsnl hwt hF ht hL
      (post := fun u => match u with | (f_shownq, f_totalq, f_knownMinedq, f_knownFreeq, f_lastKindq, f_listedq, f_countq, f_numbersq, f_countedCellq, f_countedMinesq, f_countedq, a_aroundq, a_clueOfq, a_kindOfq, a_cluesOfq, a_sizesq, a_clueListq, a_missingq, a_roomq, a_linksq, a_laterRoomq, a_linkEndq, a_takenq, a_mostq, a_countBeforeq, a_waysq, a_minesInq) => post (f_shownq, f_totalq, f_knownMinedq, f_knownFreeq, f_lastKindq, f_listedq, f_countq, f_numbersq, f_countedCellq, f_countedMinesq, f_countedq, a_aroundq, a_clueOfq, a_kindOfq, a_cluesOfq, a_sizesq, a_clueListq, a_missingq, a_roomq, a_linksq, a_laterRoomq, a_linkEndq, a_takenq, a_mostq, a_countBeforeq, a_waysq, a_minesInq)) ?_
    · rw [← nI_1, ← f1] at goal
      exact goal
    · intro rm' lk' lr' le' ct' nb' ms' tk' mo' cb' wy' mi' g1 g2 g3
      refine h _ _ _ _ _ _ _ _ _ _ _ _ _ _ _ _ _ _ _ _ _ rfl ?_ rfl rfl
      rw [pk_us] at g1 g2
      rcases hwt with ⟨e, q, r⟩ | ⟨c, hc, e, q, r, s⟩
      · subst e q r
        exact mw_T hC hF ht g1 g2
      · subst e q s
        exact mw_WT hC hc r hF ht g3
theorem mw_count (hC : mr_C f_shown ac) (hX : mr_X f_shown ac a_clueOf) (hA : mr_A a_around) (hcache : f_counted = 0 ∨ mr_XC f_shown ac f_countedCell f_countedMines f_count f_numbers a_kindOf a_sizes a_minesIn) {cell mines : Int32} (hcell : cell = -1 ∨ ∃ w, w < 20 ∧ bt f_shown w = false ∧ cell = nI w) (hm : mr_T mines) {post : SX → Prop}
    (h : ∀ (f_lastKind1 f_listed1 f_count1 f_numbers1 f_countedCell1 f_countedMines1 f_counted1 : Int32) (a_kindOf1 a_cluesOf1 a_sizes1 a_clueList1 a_missing1 a_room1 a_links1 a_laterRoom1 a_linkEnd1 a_taken1 a_most1 a_countBefore1 a_ways1 a_minesIn1 : Nat → Int32), (f_counted1 = 0 ∨ mr_XC f_shown ac f_countedCell1 f_countedMines1 f_count1 f_numbers1 a_kindOf1 a_sizes1 a_minesIn1) → mr_XC f_shown ac cell mines f_count1 f_numbers1 a_kindOf1 a_sizes1 a_minesIn1 → post (f_shown, f_total, f_knownMined, f_knownFree, f_lastKind1, f_listed1, f_count1, f_numbers1, f_countedCell1, f_countedMines1, f_counted1, a_around, a_clueOf, a_kindOf1, a_cluesOf1, a_sizes1, a_clueList1, a_missing1, a_room1, a_links1, a_laterRoom1, a_linkEnd1, a_taken1, a_most1, a_countBefore1, a_ways1, a_minesIn1)) : wpX_countWith post (f_shown, f_total, f_knownMined, f_knownFree, f_lastKind, f_listed, f_count, f_numbers, f_countedCell, f_countedMines, f_counted, a_around, a_clueOf, a_kindOf, a_cluesOf, a_sizes, a_clueList, a_missing, a_room, a_links, a_laterRoom, a_linkEnd, a_taken, a_most, a_countBefore, a_ways, a_minesIn) cell mines := by
  have main : wX_countWith_24 post cell mines f_shown f_total f_knownMined f_knownFree f_lastKind f_listed f_count f_numbers f_countedCell f_countedMines f_counted a_around a_clueOf a_kindOf a_cluesOf a_sizes a_clueList a_missing a_room a_links a_laterRoom a_linkEnd a_taken a_most a_countBefore a_ways a_minesIn := mw_24 hC hX hA hcell hm (by
    intro a1 a2 a3 a4 a5 a6 a7 a8 a9 b1 b2 b3 b4 b5 b6 b7 b8 b9 c1 c2 c3 hc hxc e1 e2
    refine h _ _ _ _ _ _ _ _ _ _ _ _ _ _ _ _ _ _ _ _ _ (Or.inr hxc) ?_
    rw [← e1, ← e2]
    exact hxc)
  by_cases y : f_counted = 0
  · exact br_t y main
  · have hx := hcache.resolve_left y
    refine br_f y (br_c (fun e1 => br_c (fun e2 => ?_) (fun _ => main)) (fun _ => main))
    refine h _ _ _ _ _ _ _ _ _ _ _ _ _ _ _ _ _ _ _ _ _ (Or.inr hx) ?_
    rw [e1, e2]
    exact hx
end
end
section
/-! both constructors -/
theorem mi_nb : ∀ c, c < 20 → (((((((1 : Int32) <<< (nI c &&& 31)) ||| ((((1 : Int32) <<< (nI c &&& 31)) &&& (-541201)) <<< ((1 : Int32) &&& 31))) ||| ((((1 : Int32) <<< (nI c &&& 31)) &&& (-33826)) >>> ((1 : Int32) &&& 31))) ||| (((((1 : Int32) <<< (nI c &&& 31)) ||| ((((1 : Int32) <<< (nI c &&& 31)) &&& (-541201)) <<< ((1 : Int32) &&& 31))) ||| ((((1 : Int32) <<< (nI c &&& 31)) &&& (-33826)) >>> ((1 : Int32) &&& 31))) <<< ((5 : Int32) &&& 31))) ||| (((((1 : Int32) <<< (nI c &&& 31)) ||| ((((1 : Int32) <<< (nI c &&& 31)) &&& (-541201)) <<< ((1 : Int32) &&& 31))) ||| ((((1 : Int32) <<< (nI c &&& 31)) &&& (-33826)) >>> ((1 : Int32) &&& 31))) >>> ((5 : Int32) &&& 31))) &&& 1048575) &&& (((1 : Int32) <<< (nI c &&& 31)) ^^^ (-1)) = me_t c := by decide +kernel
theorem mi_X {post : SX → Prop} (h : ∀ (f_shown f_total f_knownMined f_knownFree f_lastKind f_listed f_count f_numbers f_countedCell f_countedMines f_counted : Int32) (a_around a_clueOf a_kindOf a_cluesOf a_sizes a_clueList a_missing a_room a_links a_laterRoom a_linkEnd a_taken a_most a_countBefore a_ways a_minesIn : Nat → Int32), mr_A a_around → (∀ j, j < 20 → a_clueOf j = -2) → f_shown = 0 → f_total = -1 → f_counted = 0 → post (f_shown, f_total, f_knownMined, f_knownFree, f_lastKind, f_listed, f_count, f_numbers, f_countedCell, f_countedMines, f_counted, a_around, a_clueOf, a_kindOf, a_cluesOf, a_sizes, a_clueList, a_missing, a_room, a_links, a_laterRoom, a_linkEnd, a_taken, a_most, a_countBefore, a_ways, a_minesIn)) : wpX_init post := by
  refine loop_0 (σ := (Nat → Int32) × (Nat → Int32)) (fun n i s => wX_init_136 post 0 0 0 0 0 0 0 0 0 0 0 n (nI i) s.1 s.2 (fun _ => 0) (fun _ => 0) (fun _ => 0) (fun _ => 0) (fun _ => 0) (fun _ => 0) (fun _ => 0) (fun _ => 0) (fun _ => 0) (fun _ => 0) (fun _ => 0) (fun _ => 0) (fun _ => 0) (fun _ => 0))
    (fun i s => (∀ j, j < i → s.1 j = me_t j) ∧ (∀ j, j < i → s.2 j = -2)) 20 ((fun _ => 0), (fun _ => 0)) ⟨fun j hj => by omega, fun j hj => by omega⟩ (fun n s hs => ?_) (fun n i s hi hs hk => ?_)
  · exact br_t (nI_le (a := 20) (by omega) (by omega)) (h _ _ _ _ _ _ _ _ _ _ _ _ _ _ _ _ _ _ _ _ _ _ _ _ _ _ _ hs.1 hs.2 rfl rfl rfl)
  · obtain ⟨a, b⟩ := s
    obtain ⟨q1, q2⟩ := hs
    dsimp only at q1 q2
    refine br_f (mx_20 hi) ?_
    refine nm_e (nm_e ?_)
    rw [mi_nb i hi]
    refine ⟨vp_in_nI hi (by omega), nm_r (e' := upd a i (me_t i)) (by rw [nI_clamp (by omega)]) ⟨vp_in_nI hi (by omega), nm_r (e' := upd b i (-2)) (by rw [nI_clamp (by omega)]) (nm_r (nI_1 i) (hk (upd a i (me_t i), upd b i (-2)) ⟨fun j hj => ?_, fun j hj => ?_⟩))⟩⟩
    · dsimp only
      by_cases y : j = i
      · subst y; exact pk_us
      · rw [pk_un y]; exact q1 j (by omega)
    · dsimp only
      by_cases y : j = i
      · subst y; exact pk_us
      · rw [pk_un y]; exact q2 j (by omega)
/-- the reference's row c up to column d -/
def mi_p (c d : Nat) : Int32 := nI (me_tab.getD c 0 % 2 ^ d)
theorem mi_p20 : ∀ c, c < 20 → mi_p c 20 = me_t c := by decide +kernel
theorem mi_p1 : ∀ c, c < 20 → ∀ d, d < 20 → me_nr c d = true → mi_p c (d + 1) = mi_p c d ||| ((1 : Int32) <<< (nI d &&& 31)) := by decide +kernel
theorem mi_p0 : ∀ c, c < 20 → ∀ d, d < 20 → me_nr c d = false → mi_p c (d + 1) = mi_p c d := by decide +kernel
theorem mi_q1 : ∀ c, c < 20 → ∀ d, d < 20 → (1 < (nI c / 5 - nI d / 5) * (nI c / 5 - nI d / 5) ↔ ¬ (c / 5 ≤ d / 5 + 1 ∧ d / 5 ≤ c / 5 + 1)) := by decide +kernel
theorem mi_q2 : ∀ c, c < 20 → ∀ d, d < 20 → (1 < ((nI c - nI c / 5 * 5) - (nI d - nI d / 5 * 5)) * ((nI c - nI c / 5 * 5) - (nI d - nI d / 5 * 5)) ↔ ¬ (c % 5 ≤ d % 5 + 1 ∧ d % 5 ≤ c % 5 + 1)) := by decide +kernel
theorem mi_Y1 {post : SY → Prop} {J : Int32 → (Nat → Int32) → (Nat → Int32) → (Nat → Int32) → (Nat → Int32) → (Nat → Int32) → Prop} {c : Nat} (hc : c < 20) (f_total f_edgeCount f_coveredCount f_known f_sureMines f_sureFree : Int32) (a_clues a_around a_edge a_found a_foundWith : Nat → Int32) (h0 : a_around c = 0)
    (h : ∀ ar : Nat → Int32, ar c = me_t c → (∀ j, j ≠ c → ar j = a_around j) → J (nI (c + 1)) a_clues ar a_edge a_found a_foundWith) : ∃ n, wY_init_67 post J (nI c) f_total f_edgeCount f_coveredCount f_known f_sureMines f_sureFree n 0 a_clues a_around a_edge a_found a_foundWith := by
  have vc := vp_in_nI hc (N := 20) (by omega)
  refine loop_0 (σ := Nat → Int32) (fun n i ar => wY_init_67 post J (nI c) f_total f_edgeCount f_coveredCount f_known f_sureMines f_sureFree n (nI i) a_clues ar a_edge a_found a_foundWith) (fun i ar => ar c = mi_p c i ∧ (∀ j, j ≠ c → ar j = a_around j)) 20 a_around ⟨by rw [h0]; exact (by decide +kernel : ∀ c, c < 20 → (0 : Int32) = mi_p c 0) c hc, fun _ _ => rfl⟩ (fun n ar hs => ?_) (fun n i ar hi hs hk => ?_)
  · exact br_t (nI_le (a := 20) (by omega) (by omega)) (nm_r (nI_1 c) (h ar (by rw [hs.1]; exact mi_p20 c hc) hs.2))
  · have no : me_nr c i = false → wY_init_116 post J (wY_init_67 post J (nI c) f_total f_edgeCount f_coveredCount f_known f_sureMines f_sureFree n) (nI c) (nI i) 0 f_total f_edgeCount f_coveredCount f_known f_sureMines f_sureFree a_clues ar a_edge a_found a_foundWith := by
      intro hn
      refine br_t rfl ⟨vc, vc, nm_r (e' := upd ar c (ar c)) (by rw [nI_clamp (by omega)]) (nm_r (nI_1 i) (hk (upd ar c (ar c)) ⟨?_, fun j hj => ?_⟩))⟩
      · rw [pk_us, hs.1, mi_p0 c hc i hi hn]
      · rw [pk_un hj]; exact hs.2 j hj
    have yes : me_nr c i = true → wY_init_116 post J (wY_init_67 post J (nI c) f_total f_edgeCount f_coveredCount f_known f_sureMines f_sureFree n) (nI c) (nI i) 1 f_total f_edgeCount f_coveredCount f_known f_sureMines f_sureFree a_clues ar a_edge a_found a_foundWith := by
      intro hn
      refine br_f mx_10 ⟨vc, vc, nm_r (e' := upd ar c (ar c ||| ((1 : Int32) <<< (nI i &&& 31)))) (by rw [nI_clamp (by omega)]) (nm_r (nI_1 i) (hk (upd ar c (ar c ||| ((1 : Int32) <<< (nI i &&& 31)))) ⟨?_, fun j hj => ?_⟩))⟩
      · rw [pk_us, hs.1, mi_p1 c hc i hi hn]
      · rw [pk_un hj]; exact hs.2 j hj
    refine br_f (mx_20 hi) ⟨by decide, by decide, nm_e ⟨by decide, by decide, nm_e ?_⟩⟩
    by_cases e1 : c = i
    · exact br_t (by rw [e1]) (no (by simp [me_nr, e1]))
    · refine br_f (fun y => e1 ((nI_eq (by omega) (by omega)).mp y)) ?_
      by_cases e2 : c / 5 ≤ i / 5 + 1 ∧ i / 5 ≤ c / 5 + 1
      · refine br_f (fun y => (mi_q1 c hc i hi).mp y e2) ?_
        by_cases e3 : c % 5 ≤ i % 5 + 1 ∧ i % 5 ≤ c % 5 + 1
        · exact br_f (fun y => (mi_q2 c hc i hi).mp y e3) (yes (decide_eq_true ⟨e1, e2.1, e2.2, e3.1, e3.2⟩))
        · exact br_t ((mi_q2 c hc i hi).mpr e3) (no (decide_eq_false (fun y => e3 ⟨y.2.2.2.1, y.2.2.2.2⟩)))
      · exact br_t ((mi_q1 c hc i hi).mpr e2) (no (decide_eq_false (fun y => e2 ⟨y.2.1, y.2.2.1⟩)))
theorem mi_Y {post : SY → Prop} (h : ∀ (f_total f_edgeCount f_coveredCount f_known f_sureMines f_sureFree : Int32) (a_clues a_around a_edge a_found a_foundWith : Nat → Int32), mr_A a_around → (∀ j, j < 20 → a_clues j = -1) → f_total = -1 → f_known = 0 → post (f_total, f_edgeCount, f_coveredCount, f_known, f_sureMines, f_sureFree, a_clues, a_around, a_edge, a_found, a_foundWith)) : wpY_init post := by
  refine loop_0 (σ := (Nat → Int32) × (Nat → Int32)) (fun n i s => wY_init_52 post (-1) 0 0 0 0 0 n (nI i) s.1 s.2 (fun _ => 0) (fun _ => 0) (fun _ => 0))
    (fun i s => (∀ j, j < i → s.1 j = -1) ∧ (∀ j, j < i → s.2 j = me_t j) ∧ (∀ j, i ≤ j → s.2 j = 0)) 20 ((fun _ => 0), (fun _ => 0)) ⟨fun j hj => by omega, fun j hj => by omega, fun _ _ => rfl⟩ (fun n s hs => ?_) (fun n i s hi hs hk => ?_)
  · exact br_t (nI_le (a := 20) (by omega) (by omega)) (h _ _ _ _ _ _ _ _ _ _ _ hs.2.1 hs.1 rfl rfl)
  · obtain ⟨a, b⟩ := s
    obtain ⟨q1, q2, q3⟩ := hs
    dsimp only at q1 q2 q3
    refine br_f (mx_20 hi) ⟨vp_in_nI hi (by omega), nm_r (e' := upd a i (-1)) (by rw [nI_clamp (by omega)]) (mi_Y1 hi _ _ _ _ _ _ _ _ _ _ _ (q3 i (Nat.le_refl i)) (fun ar g1 g2 => hk (upd a i (-1), ar) ⟨fun j hj => ?_, fun j hj => ?_, fun j hj => ?_⟩))⟩
    · dsimp only
      by_cases y : j = i
      · subst y; exact pk_us
      · rw [pk_un y]; exact q1 j (by omega)
    · by_cases y : j = i
      · subst y; exact g1
      · dsimp only
        rw [g2 j y]; exact q2 j (by omega)
    · dsimp only
      rw [g2 j (by omega)]; exact q3 j (by omega)
end
section
/-! the component's questions -/
theorem mv_un {S : Int32} {ac : Nat → Int32} {mines ct nb : Int32} {ko sz mi : Nat → Int32} (h : mr_XC S ac (-1) mines ct nb ko sz mi) : ct = nI (me_Cnt S (mu_k ac) mines.toInt) ∧ ∀ c, c < 20 → bt S c = false → ∃ k s, k < 21 ∧ s + 1 ≤ 20 ∧ ko c = nI k ∧ sz k = nI (s + 1) ∧ mi k = nI ((s + 1) * me_Min S (mu_k ac) mines.toInt c) := by
  rcases h.2 with ⟨_, a, b⟩ | ⟨w, hw, _, e, _⟩
  · exact ⟨a, b⟩
  · exact absurd e.symm (mw_ne hw)
theorem mv_wt {S : Int32} {ac : Nat → Int32} {mines ct nb : Int32} {ko sz mi : Nat → Int32} {w : Nat} (hw : w < 20) (h : mr_XC S ac (nI w) mines ct nb ko sz mi) : nb = mr_mask (mr_nb S ac w mines.toInt) 9 := by
  rcases h.2 with ⟨e, _, _⟩ | ⟨w', hw', _, e, h'⟩
  · exact absurd e (mw_ne hw)
  · have := (nI_eq (by omega) (by omega)).mp e
    subst this
    exact h'
theorem mv_le (S : Int32) (kl : Nat → Int) (T : Int) {c : Nat} (hc : c < 20) (hs : bt S c = false) : me_Min S kl T c ≤ me_Cnt S kl T := by
  have key : ∀ (L : (Nat → Int) → Nat) (l l' : List Int32) (m : Int32) (w : Nat → Int), List.Perm l (m :: l') → mg_G L l' (mg_sub w m) ≤ mg_G L l w := by
    intro L l l' m w hp
    rw [mg_perm hp, mg_G]
    omega
  rw [me_Min, me_Cnt]
  by_cases he : me_ed S c = true
  · have hmem := me_E_mem.mpr ⟨hc, he⟩
    rw [if_pos he]
    split
    · exact Nat.mul_le_mul_left _ (key _ _ _ _ _ (mc_erase (me_mk S) hmem))
    · exact key _ _ _ _ _ (((mc_erase (me_mk S) hmem).append_left _).trans List.perm_middle)
  · rw [if_neg he]
    have hR := mr_Rp hc hs (by simpa using he)
    obtain ⟨s, hsR⟩ : ∃ s, me_R S = s + 1 := ⟨me_R S - 1, by omega⟩
    rw [hsR, Nat.add_sub_cancel]
    split
    · exact Nat.mul_le_mul_right _ (Nat.pow_le_pow_right (by omega) (by omega))
    · have e : mg_sub (me_w S kl T) me_b = me_w S kl (T - 1) := by
        funext j
        simp only [mg_sub, me_w, me_bb]
        by_cases z : j = 20 <;> simp [z]
      rw [← e, List.replicate_succ, List.cons_append]
      exact key _ _ _ _ _ (List.Perm.refl _)
section
variable {f_shown f_total f_knownMined f_knownFree f_lastKind f_listed f_count f_numbers f_countedCell f_countedMines f_counted : Int32} {a_around a_clueOf a_kindOf a_cluesOf a_sizes a_clueList a_missing a_room a_links a_laterRoom a_linkEnd a_taken a_most a_countBefore a_ways a_minesIn : Nat → Int32}
variable {ac : Nat → Int32}
theorem mv_mined {mines : Int32} (hx : mr_XC f_shown ac (-1) mines f_count f_numbers a_kindOf a_sizes a_minesIn) {c : Nat} (hc : c < 20) (hs : bt f_shown c = false) {post : Int32 → Prop} (h : post (nI (me_Min f_shown (mu_k ac) mines.toInt c))) : wpX_minedLayouts post (f_shown, f_total, f_knownMined, f_knownFree, f_lastKind, f_listed, f_count, f_numbers, f_countedCell, f_countedMines, f_counted, a_around, a_clueOf, a_kindOf, a_cluesOf, a_sizes, a_clueList, a_missing, a_room, a_links, a_laterRoom, a_linkEnd, a_taken, a_most, a_countBefore, a_ways, a_minesIn) (nI c) := by
  obtain ⟨k, s, hk, hs20, e1, e2, e3⟩ := (mv_un hx).2 c hc hs
  have hb := me_Mb f_shown (mu_k ac) mines.toInt c hc
  have ck : (nI k).toNatClampNeg = k := nI_clamp (by omega)
  have vk : vp_in (nI k) 21 := vp_in_nI hk (by omega)
  have hne : ¬ nI (s + 1) = 0 := nI_ne0 (by omega) (by omega)
  have hb2 : (s + 1) * me_Min f_shown (mu_k ac) mines.toInt c ≤ 20 * 2 ^ 20 := Nat.mul_le_mul hs20 hb
  refine ⟨vp_in_nI hc (by omega), nm_r (e' := nI k) (by rw [nI_clamp (by omega)]; exact e1) ⟨vk, nm_r (e' := nI (s + 1)) (by rw [ck]; exact e2) (br_f hne ⟨vk, hne, ?_⟩)⟩⟩
  rw [ck, e3, pk_div (by omega) (by omega) (by omega), Nat.mul_div_cancel_left _ (by omega)]
  exact h
theorem mv_cells {mines : Int32} (hx : mr_XC f_shown ac (-1) mines f_count f_numbers a_kindOf a_sizes a_minesIn) {w : Nat} (hw : w ≤ 2 ^ 20) {post : Int32 → Prop} (h0 : me_Cnt f_shown (mu_k ac) mines.toInt = 0 → post 0)
    (h : me_Cnt f_shown (mu_k ac) mines.toInt ≠ 0 → post (mr_mask (fun c => !bt f_shown c && decide (me_Min f_shown (mu_k ac) mines.toInt c = w)) 20)) : wpX_cellsMinedIn post (f_shown, f_total, f_knownMined, f_knownFree, f_lastKind, f_listed, f_count, f_numbers, f_countedCell, f_countedMines, f_counted, a_around, a_clueOf, a_kindOf, a_cluesOf, a_sizes, a_clueList, a_missing, a_room, a_links, a_laterRoom, a_linkEnd, a_taken, a_most, a_countBefore, a_ways, a_minesIn) (nI w) := by
  have hct := (mv_un hx).1
  have hCb := me_Cb f_shown (mu_k ac) mines.toInt
  by_cases y : f_count = 0
  · refine br_t y (h0 ?_)
    rw [hct, ← nI_0] at y
    exact (nI_eq (by omega) (by omega)).mp y
  · have hne : me_Cnt f_shown (mu_k ac) mines.toInt ≠ 0 := fun q => y (by rw [hct, q]; rfl)
    refine br_f y ?_
    refine loop_0 (σ := Int32) (fun n i x => wX_cellsMinedIn_13 post (nI w) f_shown f_total f_knownMined f_knownFree f_lastKind f_listed f_count f_numbers f_countedCell f_countedMines f_counted a_around a_clueOf a_kindOf a_cluesOf a_sizes a_clueList a_missing a_room a_links a_laterRoom a_linkEnd a_taken a_most a_countBefore a_ways a_minesIn n x (nI i)) (fun i x => x = mr_mask (fun c => !bt f_shown c && decide (me_Min f_shown (mu_k ac) mines.toInt c = w)) i) 20 0 rfl (fun n x hx' => ?_) (fun n i x hi hx' hk => ?_)
    · subst hx'
      exact br_t (nI_le (a := 20) (by omega) (by omega)) (h hne)
    · subst hx'
      refine br_f (mx_20 hi) (mx_has (by omega) (fun hb => br_f mx_10 (nm_r (nI_1 i) (hk _ ?_))) (fun hb => br_t rfl (mv_mined hx hi hb ?_)))
      · rw [mr_mask, if_neg (by simp [hb])]
      · have hMb := me_Mb f_shown (mu_k ac) mines.toInt i hi
        refine pk_eq (me_Min f_shown (mu_k ac) mines.toInt i) w (fun z => nm_e (nm_r (nI_1 i) (hk _ ?_))) (fun z => nm_r (nI_1 i) (hk _ ?_)) rfl rfl (by omega) (by omega)
        · rw [mr_mask, if_pos (by simp [hb, z])]; rfl
        · rw [mr_mask, if_neg (by simp [hb, z])]
theorem mv_best {mines : Int32} (hx : mr_XC f_shown ac (-1) mines f_count f_numbers a_kindOf a_sizes a_minesIn) {post : Int32 → SX → Prop} (h : post (mr_bv (mr_bs f_shown (me_Min f_shown (mu_k ac) mines.toInt) 20)) (f_shown, f_total, f_knownMined, f_knownFree, f_lastKind, f_listed, f_count, f_numbers, f_countedCell, f_countedMines, f_counted, a_around, a_clueOf, a_kindOf, a_cluesOf, a_sizes, a_clueList, a_missing, a_room, a_links, a_laterRoom, a_linkEnd, a_taken, a_most, a_countBefore, a_ways, a_minesIn)) : ∃ n, wX_best_31 post f_shown f_total f_knownMined f_knownFree f_lastKind f_listed f_count f_numbers f_countedCell f_countedMines f_counted a_around a_clueOf a_kindOf a_cluesOf a_sizes a_clueList a_missing a_room a_links a_laterRoom a_linkEnd a_taken a_most a_countBefore a_ways a_minesIn n (-2) (f_count + 1) 0 := by
  have hct := (mv_un hx).1
  have hCb := me_Cb f_shown (mu_k ac) mines.toInt
  refine loop_0 (σ := Int32 × Int32) (fun n i s => wX_best_31 post f_shown f_total f_knownMined f_knownFree f_lastKind f_listed f_count f_numbers f_countedCell f_countedMines f_counted a_around a_clueOf a_kindOf a_cluesOf a_sizes a_clueList a_missing a_room a_links a_laterRoom a_linkEnd a_taken a_most a_countBefore a_ways a_minesIn n s.1 s.2 (nI i)) (fun i s => s.1 = mr_bv (mr_bs f_shown (me_Min f_shown (mu_k ac) mines.toInt) i) ∧ (mr_bs f_shown (me_Min f_shown (mu_k ac) mines.toInt) i = none → s.2 = nI (me_Cnt f_shown (mu_k ac) mines.toInt + 1)) ∧ (∀ b, mr_bs f_shown (me_Min f_shown (mu_k ac) mines.toInt) i = some b → s.2 = nI (me_Min f_shown (mu_k ac) mines.toInt b))) 20 (-2, f_count + 1)
    ⟨rfl, fun _ => by rw [hct, nI_1], fun b hb => (by cases hb)⟩ (fun n s hs => ?_) (fun n i s hi hs hk => ?_)
  · rw [← hs.1] at h
    exact br_t (nI_le (a := 20) (by omega) (by omega)) h
  · obtain ⟨x1, x2⟩ := s
    obtain ⟨q1, q2, q3⟩ := hs
    dsimp only at q1 q2 q3
    refine br_f (mx_20 hi) (mx_has (by omega) (fun hb => br_f mx_10 (nm_r (nI_1 i) (hk (x1, x2) ?_))) (fun hb => br_t rfl (mv_mined hx hi hb ?_)))
    · have e : mr_bs f_shown (me_Min f_shown (mu_k ac) mines.toInt) (i + 1) = mr_bs f_shown (me_Min f_shown (mu_k ac) mines.toInt) i := by rw [mr_bs, hb, if_pos rfl]
      dsimp only
      rw [e]
      exact ⟨q1, q2, q3⟩
    · have hMb := me_Mb f_shown (mu_k ac) mines.toInt i hi
      have hle := mv_le f_shown (mu_k ac) mines.toInt hi hb
      cases hbs : mr_bs f_shown (me_Min f_shown (mu_k ac) mines.toInt) i with
      | none =>
        have e : mr_bs f_shown (me_Min f_shown (mu_k ac) mines.toInt) (i + 1) = some i := by rw [mr_bs, hb, if_neg (by simp), hbs]
        rw [q2 hbs]
        refine pk_le (me_Cnt f_shown (mu_k ac) mines.toInt + 1) (me_Min f_shown (mu_k ac) mines.toInt i) (fun z => by omega) (fun z => nm_r (nI_1 i) (hk (nI i, nI (me_Min f_shown (mu_k ac) mines.toInt i)) ⟨?_, fun y => ?_, fun b' hb' => ?_⟩)) rfl rfl (by omega) (by omega)
        · rw [e]; rfl
        · rw [e] at y; cases y
        · rw [e] at hb'; cases hb'; rfl
      | some b =>
        have hbl := mr_bsl _ _ _ _ hbs
        have hbb := me_Mb f_shown (mu_k ac) mines.toInt b (by omega)
        rw [q3 b hbs]
        refine pk_le (me_Min f_shown (mu_k ac) mines.toInt b) (me_Min f_shown (mu_k ac) mines.toInt i) (fun z => nm_r (nI_1 i) (hk (x1, nI (me_Min f_shown (mu_k ac) mines.toInt b)) ⟨?_, fun y => ?_, fun b' hb' => ?_⟩)) (fun z => nm_r (nI_1 i) (hk (nI i, nI (me_Min f_shown (mu_k ac) mines.toInt i)) ⟨?_, fun y => ?_, fun b' hb' => ?_⟩)) rfl rfl (by omega) (by omega)
        · have e : mr_bs f_shown (me_Min f_shown (mu_k ac) mines.toInt) (i + 1) = some b := by rw [mr_bs, hb, if_neg (by simp), hbs]; exact if_neg (by omega)
          rw [e]; rw [hbs] at q1; exact q1
        · have e : mr_bs f_shown (me_Min f_shown (mu_k ac) mines.toInt) (i + 1) = some b := by rw [mr_bs, hb, if_neg (by simp), hbs]; exact if_neg (by omega)
          rw [e] at y; cases y
        · have e : mr_bs f_shown (me_Min f_shown (mu_k ac) mines.toInt) (i + 1) = some b := by rw [mr_bs, hb, if_neg (by simp), hbs]; exact if_neg (by omega)
          rw [e] at hb'; cases hb'; rfl
        · have e : mr_bs f_shown (me_Min f_shown (mu_k ac) mines.toInt) (i + 1) = some i := by rw [mr_bs, hb, if_neg (by simp), hbs]; exact if_pos (by omega)
          rw [e]; rfl
        · have e : mr_bs f_shown (me_Min f_shown (mu_k ac) mines.toInt) (i + 1) = some i := by rw [mr_bs, hb, if_neg (by simp), hbs]; exact if_pos (by omega)
          rw [e] at y; cases y
        · have e : mr_bs f_shown (me_Min f_shown (mu_k ac) mines.toInt) (i + 1) = some i := by rw [mr_bs, hb, if_neg (by simp), hbs]; exact if_pos (by omega)
          rw [e] at hb'; cases hb'; rfl
end
/-! groups -/
def mv_grp (S : Int32) (c : Nat) : Int32 := mr_it S 20 (my_bit c)
theorem mv_st {S x : Int32} {N : Nat} (h : mr_it S (N + 1) x = mr_it S N x) : ∀ d, mr_it S (N + d) x = mr_it S N x
  | 0 => rfl
  | d + 1 => by
    have := mv_st h d
    rw [← Nat.add_assoc, mr_it, this]
    exact h
theorem mv_b1 {c : Nat} (hc : c < 20) : 1 ≤ me_c (my_bit c) := by
  have : me_c (0 ||| my_bit c) = me_c 0 + 1 := my_cadd hc (b_0 c)
  rw [my_c0, Int32.zero_or] at this
  omega
theorem mv_bne {c : Nat} (hc : c < 20) : my_bit c ≠ 0 := by
  intro z
  have := mv_b1 hc
  rw [z, my_c0] at this
  omega
theorem mv_lne {x : Int32} (hx : me_lo x) : (-1 : Int32) ≠ x := by
  intro z
  have h1 := b_m1 20 (by omega)
  rw [z, hx 20 (by omega)] at h1
  cases h1
theorem mv_ps0 (S : Int32) : ∀ n, mr_ps S n 0 = 0
  | 0 => rfl
  | n + 1 => by rw [mr_ps, mv_ps0 S n, mr_p1, if_neg (fun z => z.2 Int32.and_zero)]
section
variable {f_shown f_total f_knownMined f_knownFree f_lastKind f_listed f_count f_numbers f_countedCell f_countedMines f_counted : Int32} {a_around a_clueOf a_kindOf a_cluesOf a_sizes a_clueList a_missing a_room a_links a_laterRoom a_linkEnd a_taken a_most a_countBefore a_ways a_minesIn : Nat → Int32}
theorem mv_gw (hA : mr_A a_around) {c : Nat} (hc : c < 20) {post : Int32 → Prop} (h : post (mv_grp f_shown c)) : wpX_groupWith post (f_shown, f_total, f_knownMined, f_knownFree, f_lastKind, f_listed, f_count, f_numbers, f_countedCell, f_countedMines, f_counted, a_around, a_clueOf, a_kindOf, a_cluesOf, a_sizes, a_clueList, a_missing, a_room, a_links, a_laterRoom, a_linkEnd, a_taken, a_most, a_countBefore, a_ways, a_minesIn) (nI c) := by
  obtain ⟨N, hN, h1, h2⟩ := mr_stop f_shown (my_bitlo hc) (mv_b1 hc)
  have e : mv_grp f_shown c = mr_it f_shown N (my_bit c) := by
    have := mv_st h1 (20 - N)
    rw [show N + (20 - N) = 20 by omega] at this
    exact this
  rw [e] at h
  refine nm_r (e' := my_bit c) rfl ⟨N + 2, ?_⟩
  exact mx_iter hA hN h1 h2 h N 0 0 (by omega) (mv_bne hc)
end
section
variable {f_total f_edgeCount f_coveredCount f_known f_sureMines f_sureFree : Int32} {a_clues a_around a_edge a_found a_foundWith : Nat → Int32}
variable {S : Int32}
theorem mv_gs (hC : mr_C S a_clues) (hA : mr_A a_around) {c : Nat} (hc : c < 20) {post : Int32 → Prop} (h1 : me_ed S c = true → post (mv_grp S c)) (h0 : me_ed S c = false → post 0) : wpY_groupSet post (f_total, f_edgeCount, f_coveredCount, f_known, f_sureMines, f_sureFree, a_clues, a_around, a_edge, a_found, a_foundWith) (nI c) := by
  unfold wpY_groupSet
  refine my_cov hC (my_edge hC hA hc (fun he => br_f mx_10 ?_) (fun he => br_t rfl ?_))
  · obtain ⟨N, hN, g1, g2⟩ := mr_stop S (my_bitlo hc) (mv_b1 hc)
    have e : mv_grp S c = mr_it S N (my_bit c) := by
      have := mv_st g1 (20 - N)
      rw [show N + (20 - N) = 20 by omega] at this
      exact this
    have h := h1 he
    rw [e] at h
    refine nm_r (e' := my_bit c) rfl ⟨N + 2, ?_⟩
    exact my_iter hC hA g1 g2 h N 0 (-1) (by omega) (mv_lne (my_bitlo hc))
  · have e : mr_it S (0 + 1) 0 = mr_it S 0 0 := mv_ps0 S 20
    exact ⟨0 + 2, my_iter hC hA (x := 0) (N := 0) e (fun p hp => by omega) (h0 he) 0 0 (-1) rfl (mv_lne mr_0l)⟩
end
/-- the number of groups, and their cells -/
def mv_gc (S : Int32) : Nat → Nat × Int32
  | 0 => (0, 0)
  | n + 1 => if me_ed S n = true ∧ bt (mv_gc S n).2 n = false then ((mv_gc S n).1 + 1, (mv_gc S n).2 ||| mv_grp S n) else mv_gc S n
section
variable {f_shown f_total f_knownMined f_knownFree f_lastKind f_listed f_count f_numbers f_countedCell f_countedMines f_counted : Int32} {a_around a_clueOf a_kindOf a_cluesOf a_sizes a_clueList a_missing a_room a_links a_laterRoom a_linkEnd a_taken a_most a_countBefore a_ways a_minesIn : Nat → Int32}
theorem mv_gX (hA : mr_A a_around) {post : Int32 → Prop} (h : post (nI (mv_gc f_shown 20).1)) : wpX_groups post (f_shown, f_total, f_knownMined, f_knownFree, f_lastKind, f_listed, f_count, f_numbers, f_countedCell, f_countedMines, f_counted, a_around, a_clueOf, a_kindOf, a_cluesOf, a_sizes, a_clueList, a_missing, a_room, a_links, a_laterRoom, a_linkEnd, a_taken, a_most, a_countBefore, a_ways, a_minesIn) := by
  refine loop_0 (σ := Int32 × Int32) (fun n i s => wX_groups_6 post f_shown f_total f_knownMined f_knownFree f_lastKind f_listed f_count f_numbers f_countedCell f_countedMines f_counted a_around a_clueOf a_kindOf a_cluesOf a_sizes a_clueList a_missing a_room a_links a_laterRoom a_linkEnd a_taken a_most a_countBefore a_ways a_minesIn n s.1 s.2 (nI i)) (fun i s => s.1 = nI (mv_gc f_shown i).1 ∧ s.2 = (mv_gc f_shown i).2) 20 (0, 0) ⟨rfl, rfl⟩ (fun n s hs => ?_) (fun n i s hi hs hk => ?_)
  · rw [← hs.1] at h
    exact br_t (nI_le (a := 20) (by omega) (by omega)) h
  · obtain ⟨x1, x2⟩ := s
    obtain ⟨q1, q2⟩ := hs
    dsimp only at q1 q2
    subst q1 q2
    have no : ¬ (me_ed f_shown i = true ∧ bt (mv_gc f_shown i).2 i = false) → wX_groups_6 post f_shown f_total f_knownMined f_knownFree f_lastKind f_listed f_count f_numbers f_countedCell f_countedMines f_counted a_around a_clueOf a_kindOf a_cluesOf a_sizes a_clueList a_missing a_room a_links a_laterRoom a_linkEnd a_taken a_most a_countBefore a_ways a_minesIn n (nI (mv_gc f_shown i).1) (mv_gc f_shown i).2 (nI (i + 1)) := by
      intro y
      refine hk (nI (mv_gc f_shown i).1, (mv_gc f_shown i).2) ?_
      rw [mv_gc, if_neg y]
      exact ⟨rfl, rfl⟩
    refine br_f (mx_20 hi) (mx_has (by omega) (fun hb => br_f mx_10 (nm_r (nI_1 i) (no (fun y => ?_)))) (fun hb => br_t rfl (mx_edge hA hi (fun he => br_f mx_10 (mv_gw hA hi (nm_e (nm_r (nI_1 _) (nm_r (nI_1 i) (hk (nI ((mv_gc f_shown i).1 + 1), (mv_gc f_shown i).2 ||| mv_grp f_shown i) ?_)))))) (fun he => br_t rfl (nm_r (nI_1 i) (no (fun y => ?_)))))))
    · rw [hb] at y; cases y.2
    · rw [mv_gc, if_pos ⟨he, hb⟩]
      exact ⟨rfl, rfl⟩
    · rw [he] at y; cases y.1
end
section
variable {f_total f_edgeCount f_coveredCount f_known f_sureMines f_sureFree : Int32} {a_clues a_around a_edge a_found a_foundWith : Nat → Int32}
variable {S : Int32}
theorem mv_gY (hC : mr_C S a_clues) (hA : mr_A a_around) {post : Int32 → Prop} (h : post (nI (mv_gc S 20).1)) : wpY_groups post (f_total, f_edgeCount, f_coveredCount, f_known, f_sureMines, f_sureFree, a_clues, a_around, a_edge, a_found, a_foundWith) := by
  refine loop_0 (σ := Int32 × Int32) (fun n i s => wY_groups_6 post f_total f_edgeCount f_coveredCount f_known f_sureMines f_sureFree a_clues a_around a_edge a_found a_foundWith n s.1 s.2 (nI i)) (fun i s => s.1 = nI (mv_gc S i).1 ∧ s.2 = (mv_gc S i).2) 20 (0, 0) ⟨rfl, rfl⟩ (fun n s hs => ?_) (fun n i s hi hs hk => ?_)
  · rw [← hs.1] at h
    exact br_t (nI_le (a := 20) (by omega) (by omega)) h
  · obtain ⟨x1, x2⟩ := s
    obtain ⟨q1, q2⟩ := hs
    dsimp only at q1 q2
    subst q1 q2
    have no : ¬ (me_ed S i = true ∧ bt (mv_gc S i).2 i = false) → wY_groups_6 post f_total f_edgeCount f_coveredCount f_known f_sureMines f_sureFree a_clues a_around a_edge a_found a_foundWith n (nI (mv_gc S i).1) (mv_gc S i).2 (nI (i + 1)) := by
      intro y
      refine hk (nI (mv_gc S i).1, (mv_gc S i).2) ?_
      rw [mv_gc, if_neg y]
      exact ⟨rfl, rfl⟩
    refine br_f (mx_20 hi) (my_edge hC hA hi (fun he => br_f mx_10 ?_) (fun he => br_t rfl (nm_r (nI_1 i) (no (fun y => ?_)))))
    · cases hb : bt (mv_gc S i).2 i
      · refine br_t (mx_t0 (by omega) hb) (nm_r (nI_1 _) (mv_gs hC hA hi (fun _ => nm_e (nm_r (nI_1 i) (hk (nI ((mv_gc S i).1 + 1), (mv_gc S i).2 ||| mv_grp S i) ?_))) (fun y => ?_)))
        · rw [mv_gc, if_pos ⟨he, hb⟩]
          exact ⟨rfl, rfl⟩
        · rw [he] at y; cases y
      · refine br_f (mx_t0' (by omega) hb) (nm_r (nI_1 i) (no (fun y => ?_)))
        rw [hb] at y; cases y.2
    · rw [he] at y; cases y.1
end
end
section
/-! the relation, and the small calls -/
/-- both hold the same field: the same shown cells and clues, the same table, the same total; what either keeps of an earlier count is that of this field -/
def i_Rel (_ : Nat) (u : SX) (v : SY) : Prop := match u, v with
  | (f_shown, f_total, f_knownMined, f_knownFree, f_lastKind, f_listed, f_count, f_numbers, f_countedCell, f_countedMines, f_counted, a_around, a_clueOf, a_kindOf, a_cluesOf, a_sizes, a_clueList, a_missing, a_room, a_links, a_laterRoom, a_linkEnd, a_taken, a_most, a_countBefore, a_ways, a_minesIn), (f_totaly, f_edgeCounty, f_coveredCounty, f_knowny, f_sureMinesy, f_sureFreey, a_cluesy, a_aroundy, a_edgey, a_foundy, a_foundWithy) => mr_C f_shown a_cluesy ∧ mr_X f_shown a_cluesy a_clueOf ∧ mr_A a_around ∧ mr_A a_aroundy ∧ f_total = f_totaly ∧ mr_T f_total ∧
    (f_counted = 0 ∨ mr_XC f_shown a_cluesy f_countedCell f_countedMines f_count f_numbers a_kindOf a_sizes a_minesIn) ∧ (f_knowny = 0 ∨ mr_Y f_shown a_cluesy f_edgeCounty f_coveredCounty a_foundy a_foundWithy)
theorem i_up {k : Nat} {u : SX} {v : SY} (h : i_Rel k u v) : i_Rel (k + 3) u v := h
theorem i_vc0 : wpX_init (fun u => wpY_init (fun v => i_Rel 0 u v)) := by
  refine mi_X ?_
  intro f_shown f_total f_knownMined f_knownFree f_lastKind f_listed f_count f_numbers f_countedCell f_countedMines f_counted a_around a_clueOf a_kindOf a_cluesOf a_sizes a_clueList a_missing a_room a_links a_laterRoom a_linkEnd a_taken a_most a_countBefore a_ways a_minesIn hA hcl e1 e2 e3
  refine mi_Y ?_
  intro f_totaly f_edgeCounty f_coveredCounty f_knowny f_sureMinesy f_sureFreey a_cluesy a_aroundy a_edgey a_foundy a_foundWithy hA' hcl' e4 e5
  subst e1 e2 e3 e4 e5
  refine ⟨⟨mr_0l, fun j hj => ⟨fun z => ?_, fun _ => hcl' j hj⟩⟩, fun j hj => ⟨fun z => ?_, fun _ => hcl j hj⟩, hA, hA', rfl, Or.inl rfl, Or.inl rfl, Or.inl rfl⟩
  · rw [b_0] at z; cases z
  · rw [b_0] at z; cases z
theorem mj_Xs {S : Int32} {ac ax : Nat → Int32} (h : mr_X S ac ax) {j : Nat} (hj : j < 20) (x : Int32) : mr_X (S ||| my_bit j) (upd ac j x) (upd ax j x) := by
  intro i hi
  rw [b_or, my_bitb (by omega)]
  by_cases z : i = j
  · subst z
    rw [pk_us, pk_us]
    exact ⟨fun _ => rfl, fun y => by simp at y⟩
  · rw [decide_eq_false z, Bool.or_false, pk_un z, pk_un z]
    exact h i hi
theorem mj_nb {S : Int32} {i j : Nat} (hi : i < 20) (hj : j < 20) : bt (S &&& (my_bit j ^^^ (-1))) i = (bt S i && !decide (i = j)) := by rw [b_and, mr_not _ (by omega), my_bitb (by omega)]
theorem mj_Cc {S : Int32} {ac : Nat → Int32} (h : mr_C S ac) {j : Nat} (hj : j < 20) : mr_C (S &&& (my_bit j ^^^ (-1))) (upd ac j (-1)) := by
  refine ⟨mr_andl h.1 _, fun i hi => ?_⟩
  rw [mj_nb hi hj]
  by_cases z : i = j
  · subst z
    rw [pk_us]
    exact ⟨fun y => by simp at y, fun _ => rfl⟩
  · rw [decide_eq_false z, Bool.not_false, Bool.and_true, pk_un z]
    exact h.2 i hi
theorem mj_Xc {S : Int32} {ac ax : Nat → Int32} (h : mr_X S ac ax) {j : Nat} (hj : j < 20) : mr_X (S &&& (my_bit j ^^^ (-1))) (upd ac j (-1)) (upd ax j (-2)) := by
  intro i hi
  rw [mj_nb hi hj]
  by_cases z : i = j
  · subst z
    rw [pk_us, pk_us]
    exact ⟨fun y => by simp at y, fun _ => rfl⟩
  · rw [decide_eq_false z, Bool.not_false, Bool.and_true, pk_un z, pk_un z]
    exact h i hi
theorem i_vc_show {k : Nat} {u : SX} {v : SY} (I : i_Rel k u v) (hk : k + 3 ≤ 1536) (v1 : Int32) (v2 : Int32) : wpX_show (fun r u' => wpY_show (fun r' v' => r' = r ∧ i_Rel (k + 3) u' v') v v1 v2) u v1 v2 := by
  obtain ⟨f_shown, f_total, f_knownMined, f_knownFree, f_lastKind, f_listed, f_count, f_numbers, f_countedCell, f_countedMines, f_counted, a_around, a_clueOf, a_kindOf, a_cluesOf, a_sizes, a_clueList, a_missing, a_room, a_links, a_laterRoom, a_linkEnd, a_taken, a_most, a_countBefore, a_ways, a_minesIn⟩ := u
  obtain ⟨f_totaly, f_edgeCounty, f_coveredCounty, f_knowny, f_sureMinesy, f_sureFreey, a_cluesy, a_aroundy, a_edgey, a_foundy, a_foundWithy⟩ := v
  have I' := I
  obtain ⟨hC, hX, hA, hA', rfl, hT, hXC, hYC⟩ := I
  unfold wpX_show
  rcases mx_ixv v1 with hb | ⟨j, hj, rfl⟩
  · refine mx_nocell hb (br_t rfl ?_)
    unfold wpY_show
    exact my_nocell hb (br_t rfl ⟨rfl, I'⟩)
  · refine mx_cell hj (br_f mx_10 ?_)
    have vj := vp_in_nI hj (N := 20) (by omega)
    have cj : (nI j).toNatClampNeg = j := nI_clamp (by omega)
    by_cases h0 : v2 < 0
    · refine br_t h0 ?_
      unfold wpY_show
      exact my_cell hj (br_f mx_10 (br_t h0 ⟨rfl, I'⟩))
    · refine br_f h0 ?_
      by_cases h8 : v2 ≤ 8
      · obtain ⟨n, hn, rfl⟩ := nI_of2 (M := 8) (n := 8) (by decide) h0 h8
        refine br_t h8 ⟨vj, nm_e ⟨vj, nm_r (e' := upd a_clueOf j (nI n)) (by rw [cj]) (nm_r (e' := f_shown ||| my_bit j) rfl ?_)⟩⟩
        unfold wpY_show
        refine my_cell hj (br_f mx_10 (br_f h0 (br_t h8 ⟨vj, nm_e ⟨vj, nm_r (e' := upd a_cluesy j (nI n)) (by rw [cj]) ?_⟩⟩)))
        rw [cj]
        have hC' := mr_Cw hC hj hn (ac' := a_cluesy) (fun _ _ _ => rfl)
        have hX' := mj_Xs hX hj (nI n)
        cases hs : bt f_shown j
        · exact br_f (mr_nge hC hj hs) ⟨((hX j hj).2 hs).symm, hC', hX', hA, hA', rfl, hT, Or.inl rfl, Or.inl rfl⟩
        · exact br_t (mr_ge hC hj hs) ⟨((hX j hj).1 hs).symm, hC', hX', hA, hA', rfl, hT, Or.inl rfl, Or.inl rfl⟩
      · refine br_f h8 ?_
        unfold wpY_show
        exact my_cell hj (br_f mx_10 (br_f h0 (br_f h8 ⟨rfl, I'⟩)))
theorem i_vc_cover {k : Nat} {u : SX} {v : SY} (I : i_Rel k u v) (hk : k + 3 ≤ 1536) (v1 : Int32) : wpX_cover (fun r u' => wpY_cover (fun r' v' => r' = r ∧ i_Rel (k + 3) u' v') v v1) u v1 := by
  obtain ⟨f_shown, f_total, f_knownMined, f_knownFree, f_lastKind, f_listed, f_count, f_numbers, f_countedCell, f_countedMines, f_counted, a_around, a_clueOf, a_kindOf, a_cluesOf, a_sizes, a_clueList, a_missing, a_room, a_links, a_laterRoom, a_linkEnd, a_taken, a_most, a_countBefore, a_ways, a_minesIn⟩ := u
  obtain ⟨f_totaly, f_edgeCounty, f_coveredCounty, f_knowny, f_sureMinesy, f_sureFreey, a_cluesy, a_aroundy, a_edgey, a_foundy, a_foundWithy⟩ := v
  have I' := I
  obtain ⟨hC, hX, hA, hA', rfl, hT, hXC, hYC⟩ := I
  unfold wpX_cover
  rcases mx_ixv v1 with hb | ⟨j, hj, rfl⟩
  · refine mx_nocell hb (br_t rfl ?_)
    unfold wpY_cover
    exact my_nocell hb (br_t rfl ⟨rfl, I'⟩)
  · have vj := vp_in_nI hj (N := 20) (by omega)
    have cj : (nI j).toNatClampNeg = j := nI_clamp (by omega)
    refine mx_cell hj (br_f mx_10 ⟨vj, nm_e ⟨vj, nm_r (e' := upd a_clueOf j (-2)) (by rw [cj]) (nm_r (e' := f_shown &&& (my_bit j ^^^ (-1))) rfl ?_)⟩⟩)
    unfold wpY_cover
    refine my_cell hj (br_f mx_10 ⟨vj, nm_e ⟨vj, nm_r (e' := upd a_cluesy j (-1)) (by rw [cj]) ?_⟩⟩)
    rw [cj]
    have hC' := mj_Cc hC hj
    have hX' := mj_Xc hX hj
    cases hs : bt f_shown j
    · exact br_f (mr_nge hC hj hs) ⟨((hX j hj).2 hs).symm, hC', hX', hA, hA', rfl, hT, Or.inl rfl, Or.inl rfl⟩
    · exact br_t (mr_ge hC hj hs) ⟨((hX j hj).1 hs).symm, hC', hX', hA, hA', rfl, hT, Or.inl rfl, Or.inl rfl⟩
theorem i_vc_total {k : Nat} {u : SX} {v : SY} (I : i_Rel k u v) (hk : k + 3 ≤ 1536) (v1 : Int32) : wpX_total (fun r u' => wpY_total (fun r' v' => r' = r ∧ i_Rel (k + 3) u' v') v v1) u v1 := by
  obtain ⟨f_shown, f_total, f_knownMined, f_knownFree, f_lastKind, f_listed, f_count, f_numbers, f_countedCell, f_countedMines, f_counted, a_around, a_clueOf, a_kindOf, a_cluesOf, a_sizes, a_clueList, a_missing, a_room, a_links, a_laterRoom, a_linkEnd, a_taken, a_most, a_countBefore, a_ways, a_minesIn⟩ := u
  obtain ⟨f_totaly, f_edgeCounty, f_coveredCounty, f_knowny, f_sureMinesy, f_sureFreey, a_cluesy, a_aroundy, a_edgey, a_foundy, a_foundWithy⟩ := v
  have I' := I
  obtain ⟨hC, hX, hA, hA', rfl, hT, hXC, hYC⟩ := I
  by_cases h0 : v1 < -1
  · exact br_t h0 (br_t h0 ⟨rfl, I'⟩)
  · by_cases h20 : v1 ≤ 20
    · have hT' : mr_T v1 := by
        by_cases hn : v1 < 0
        · left
          have a1 : ¬ v1.toInt < (-1 : Int32).toInt := fun y => h0 (Int32.lt_iff_toInt_lt.mpr y)
          have a2 := Int32.lt_iff_toInt_lt.mp hn
          have a3 : (0 : Int32).toInt = 0 := by decide
          rw [mw_m1] at a1
          exact Int32.toInt_inj.mp (by rw [mw_m1]; omega)
        · obtain ⟨n, hn20, rfl⟩ := nI_of2 (M := 20) (n := 20) (by decide) hn h20
          exact mr_Tn hn20
      exact br_f h0 (br_t h20 (br_f h0 (br_t h20 ⟨rfl, hC, hX, hA, hA', rfl, hT', hXC, hYC⟩)))
    · exact br_f h0 (br_f h20 (br_f h0 (br_f h20 ⟨rfl, I'⟩)))
theorem i_vc_clue {k : Nat} {u : SX} {v : SY} (I : i_Rel k u v) (hk : k + 3 ≤ 1536) (v1 : Int32) : wpX_clue (fun r => wpY_clue (fun r' => r' = r ∧ i_Rel (k + 3) u v) v v1) u v1 := by
  obtain ⟨f_shown, f_total, f_knownMined, f_knownFree, f_lastKind, f_listed, f_count, f_numbers, f_countedCell, f_countedMines, f_counted, a_around, a_clueOf, a_kindOf, a_cluesOf, a_sizes, a_clueList, a_missing, a_room, a_links, a_laterRoom, a_linkEnd, a_taken, a_most, a_countBefore, a_ways, a_minesIn⟩ := u
  obtain ⟨f_totaly, f_edgeCounty, f_coveredCounty, f_knowny, f_sureMinesy, f_sureFreey, a_cluesy, a_aroundy, a_edgey, a_foundy, a_foundWithy⟩ := v
  have I' := I
  obtain ⟨hC, hX, hA, hA', rfl, hT, hXC, hYC⟩ := I
  unfold wpX_clue
  rcases mx_ixv v1 with hb | ⟨j, hj, rfl⟩
  · refine mx_nocell hb (br_t rfl ?_)
    unfold wpY_clue
    exact my_nocell hb (br_t rfl ⟨rfl, I'⟩)
  · have vj := vp_in_nI hj (N := 20) (by omega)
    have cj : (nI j).toNatClampNeg = j := nI_clamp (by omega)
    refine mx_cell hj (br_f mx_10 ⟨vj, ?_⟩)
    rw [cj]
    unfold wpY_clue
    refine my_cell hj (br_f mx_10 ⟨vj, ?_⟩)
    rw [cj]
    cases hs : bt f_shown j
    · exact br_f (mr_nge hC hj hs) ⟨((hX j hj).2 hs).symm, I'⟩
    · exact br_t (mr_ge hC hj hs) ⟨vj, ((hX j hj).1 hs).symm, I'⟩
theorem i_vc_groups {k : Nat} {u : SX} {v : SY} (I : i_Rel k u v) (hk : k + 3 ≤ 1536) : wpX_groups (fun r => wpY_groups (fun r' => r' = r ∧ i_Rel (k + 3) u v) v) u := by
  obtain ⟨f_shown, f_total, f_knownMined, f_knownFree, f_lastKind, f_listed, f_count, f_numbers, f_countedCell, f_countedMines, f_counted, a_around, a_clueOf, a_kindOf, a_cluesOf, a_sizes, a_clueList, a_missing, a_room, a_links, a_laterRoom, a_linkEnd, a_taken, a_most, a_countBefore, a_ways, a_minesIn⟩ := u
  obtain ⟨f_totaly, f_edgeCounty, f_coveredCounty, f_knowny, f_sureMinesy, f_sureFreey, a_cluesy, a_aroundy, a_edgey, a_foundy, a_foundWithy⟩ := v
  have I' := I
  obtain ⟨hC, hX, hA, hA', rfl, hT, hXC, hYC⟩ := I
  exact mv_gX hA (mv_gY hC hA' ⟨rfl, I'⟩)
theorem i_vc_groupOf {k : Nat} {u : SX} {v : SY} (I : i_Rel k u v) (hk : k + 3 ≤ 1536) (v1 : Int32) : wpX_groupOf (fun r => wpY_groupOf (fun r' => r' = r ∧ i_Rel (k + 3) u v) v v1) u v1 := by
  obtain ⟨f_shown, f_total, f_knownMined, f_knownFree, f_lastKind, f_listed, f_count, f_numbers, f_countedCell, f_countedMines, f_counted, a_around, a_clueOf, a_kindOf, a_cluesOf, a_sizes, a_clueList, a_missing, a_room, a_links, a_laterRoom, a_linkEnd, a_taken, a_most, a_countBefore, a_ways, a_minesIn⟩ := u
  obtain ⟨f_totaly, f_edgeCounty, f_coveredCounty, f_knowny, f_sureMinesy, f_sureFreey, a_cluesy, a_aroundy, a_edgey, a_foundy, a_foundWithy⟩ := v
  have I' := I
  obtain ⟨hC, hX, hA, hA', rfl, hT, hXC, hYC⟩ := I
  unfold wpX_groupOf
  rcases mx_ixv v1 with hb | ⟨j, hj, rfl⟩
  · refine mx_nocell hb (br_t rfl ?_)
    unfold wpY_groupOf
    exact my_nocell hb (br_t rfl ⟨rfl, I'⟩)
  · have hg : me_lo (mv_grp f_shown j) := mr_itl (my_bitlo hj) 20
    refine mx_cell hj (br_f mx_10 (mx_edge hA hj (fun he => br_f mx_10 (mv_gw hA hj (mx_size hg ?_))) (fun he => br_t rfl ?_)))
    · unfold wpY_groupOf
      refine my_cell hj (br_f mx_10 (mv_gs hC hA' hj (fun _ => my_bits hg ⟨rfl, I'⟩) (fun y => ?_)))
      rw [he] at y; cases y
    · unfold wpY_groupOf
      refine my_cell hj (br_f mx_10 (mv_gs hC hA' hj (fun y => ?_) (fun _ => my_bits mr_0l ⟨?_, I'⟩)))
      · rw [he] at y; cases y
      · rw [my_c0]; rfl
end
section
/-! the counting calls and the rules -/
theorem i_vc_layouts {k : Nat} {u : SX} {v : SY} (I : i_Rel k u v) (hk : k + 3 ≤ 1536) : wpX_layouts (fun r u' => wpY_layouts (fun r' v' => r' = r ∧ i_Rel (k + 3) u' v') v) u := by
  obtain ⟨f_shown, f_total, f_knownMined, f_knownFree, f_lastKind, f_listed, f_count, f_numbers, f_countedCell, f_countedMines, f_counted, a_around, a_clueOf, a_kindOf, a_cluesOf, a_sizes, a_clueList, a_missing, a_room, a_links, a_laterRoom, a_linkEnd, a_taken, a_most, a_countBefore, a_ways, a_minesIn⟩ := u
  obtain ⟨f_totaly, f_edgeCounty, f_coveredCounty, f_knowny, f_sureMinesy, f_sureFreey, a_cluesy, a_aroundy, a_edgey, a_foundy, a_foundWithy⟩ := v
  obtain ⟨hC, hX, hA, hA', rfl, hT, hXC, hYC⟩ := I
  unfold wpX_layouts
  refine mw_count hC hX hA hXC (Or.inl rfl) hT ?_
  intro a1 a2 a3 a4 a5 a6 a7 a8 a9 b1 b2 b3 b4 b5 b6 b7 b8 b9 c1 c2 c3 hc hx
  unfold wpY_layouts
  refine my_count hC hA' hT hYC (fun ec cc kn ae fd fw hkn hY => ?_)
  exact ⟨((mv_un hx).1).symm, hC, hX, hA, hA', rfl, hT, hc, Or.inr hY⟩
theorem i_vc_mined {k : Nat} {u : SX} {v : SY} (I : i_Rel k u v) (hk : k + 3 ≤ 1536) (v1 : Int32) : wpX_mined (fun r u' => wpY_mined (fun r' v' => r' = r ∧ i_Rel (k + 3) u' v') v v1) u v1 := by
  obtain ⟨f_shown, f_total, f_knownMined, f_knownFree, f_lastKind, f_listed, f_count, f_numbers, f_countedCell, f_countedMines, f_counted, a_around, a_clueOf, a_kindOf, a_cluesOf, a_sizes, a_clueList, a_missing, a_room, a_links, a_laterRoom, a_linkEnd, a_taken, a_most, a_countBefore, a_ways, a_minesIn⟩ := u
  obtain ⟨f_totaly, f_edgeCounty, f_coveredCounty, f_knowny, f_sureMinesy, f_sureFreey, a_cluesy, a_aroundy, a_edgey, a_foundy, a_foundWithy⟩ := v
  have I' := I
  obtain ⟨hC, hX, hA, hA', rfl, hT, hXC, hYC⟩ := I
  unfold wpX_mined
  rcases mx_ixv v1 with hb | ⟨j, hj, rfl⟩
  · refine mx_nocell hb (br_t rfl ?_)
    unfold wpY_mined
    exact my_nocell hb (br_t rfl ⟨rfl, I'⟩)
  · refine mx_cell hj (br_f mx_10 (mx_has (by omega) (fun hs => br_f mx_10 ?_) (fun hs => br_t rfl ?_)))
    · unfold wpY_mined
      refine my_cell hj (br_f mx_10 (my_mined hC hA' hT hYC hj (fun ec cc kn ae fd fw hkn hY => ?_)))
      rw [hs, if_pos rfl]
      exact ⟨rfl, hC, hX, hA, hA', rfl, hT, hXC, Or.inr hY⟩
    · refine mw_count hC hX hA hXC (Or.inl rfl) hT ?_
      intro a1 a2 a3 a4 a5 a6 a7 a8 a9 b1 b2 b3 b4 b5 b6 b7 b8 b9 c1 c2 c3 hc hx
      refine mv_mined hx hj hs ?_
      unfold wpY_mined
      refine my_cell hj (br_f mx_10 (my_mined hC hA' hT hYC hj (fun ec cc kn ae fd fw hkn hY => ?_)))
      rw [hs, if_neg (by simp)]
      exact ⟨rfl, hC, hX, hA, hA', rfl, hT, hc, Or.inr hY⟩
theorem i_vc_free {k : Nat} {u : SX} {v : SY} (I : i_Rel k u v) (hk : k + 3 ≤ 1536) : wpX_free (fun r u' => wpY_free (fun r' v' => r' = r ∧ i_Rel (k + 3) u' v') v) u := by
  obtain ⟨f_shown, f_total, f_knownMined, f_knownFree, f_lastKind, f_listed, f_count, f_numbers, f_countedCell, f_countedMines, f_counted, a_around, a_clueOf, a_kindOf, a_cluesOf, a_sizes, a_clueList, a_missing, a_room, a_links, a_laterRoom, a_linkEnd, a_taken, a_most, a_countBefore, a_ways, a_minesIn⟩ := u
  obtain ⟨f_totaly, f_edgeCounty, f_coveredCounty, f_knowny, f_sureMinesy, f_sureFreey, a_cluesy, a_aroundy, a_edgey, a_foundy, a_foundWithy⟩ := v
  obtain ⟨hC, hX, hA, hA', rfl, hT, hXC, hYC⟩ := I
  have hCb := me_Cb f_shown (mu_k a_cluesy) f_total.toInt
  unfold wpX_free
  refine mw_count hC hX hA hXC (Or.inl rfl) hT ?_
  intro a1 a2 a3 a4 a5 a6 a7 a8 a9 b1 b2 b3 b4 b5 b6 b7 b8 b9 c1 c2 c3 hc hx
  refine mv_cells hx (w := 0) (by omega) (fun h0 => ?_) (fun hn => ?_)
  · unfold wpY_free
    refine my_count hC hA' hT hYC (fun ec cc kn ae fd fw hkn hY => ?_)
    exact br_t (by rw [h0]; rfl) ⟨rfl, hC, hX, hA, hA', rfl, hT, hc, Or.inr hY⟩
  · unfold wpY_free
    refine my_count hC hA' hT hYC (fun ec cc kn ae fd fw hkn hY => br_f (nI_ne0 (by omega) (by omega)) ?_)
    exact my_cells hC hA' hT (Or.inr hY) (w := 0) (by omega) (fun ec' cc' kn' ae' fd' fw' hY' => ⟨rfl, hC, hX, hA, hA', rfl, hT, hc, hY'⟩)
theorem i_vc_sure {k : Nat} {u : SX} {v : SY} (I : i_Rel k u v) (hk : k + 3 ≤ 1536) : wpX_sure (fun r u' => wpY_sure (fun r' v' => r' = r ∧ i_Rel (k + 3) u' v') v) u := by
  obtain ⟨f_shown, f_total, f_knownMined, f_knownFree, f_lastKind, f_listed, f_count, f_numbers, f_countedCell, f_countedMines, f_counted, a_around, a_clueOf, a_kindOf, a_cluesOf, a_sizes, a_clueList, a_missing, a_room, a_links, a_laterRoom, a_linkEnd, a_taken, a_most, a_countBefore, a_ways, a_minesIn⟩ := u
  obtain ⟨f_totaly, f_edgeCounty, f_coveredCounty, f_knowny, f_sureMinesy, f_sureFreey, a_cluesy, a_aroundy, a_edgey, a_foundy, a_foundWithy⟩ := v
  obtain ⟨hC, hX, hA, hA', rfl, hT, hXC, hYC⟩ := I
  have hCb := me_Cb f_shown (mu_k a_cluesy) f_total.toInt
  unfold wpX_sure
  refine mw_count hC hX hA hXC (Or.inl rfl) hT ?_
  intro a1 a2 a3 a4 a5 a6 a7 a8 a9 b1 b2 b3 b4 b5 b6 b7 b8 b9 c1 c2 c3 hc hx
  have ect := (mv_un hx).1
  subst ect
  refine mv_cells hx (w := me_Cnt f_shown (mu_k a_cluesy) f_total.toInt) hCb (fun h0 => ?_) (fun hn => ?_)
  · unfold wpY_sure
    refine my_count hC hA' hT hYC (fun ec cc kn ae fd fw hkn hY => ?_)
    exact br_t (by rw [h0]; rfl) ⟨rfl, hC, hX, hA, hA', rfl, hT, hc, Or.inr hY⟩
  · unfold wpY_sure
    refine my_count hC hA' hT hYC (fun ec cc kn ae fd fw hkn hY => br_f (nI_ne0 (by omega) (by omega)) ?_)
    exact my_cells hC hA' hT (Or.inr hY) (w := me_Cnt f_shown (mu_k a_cluesy) f_total.toInt) hCb (fun ec' cc' kn' ae' fd' fw' hY' => ⟨rfl, hC, hX, hA, hA', rfl, hT, hc, hY'⟩)
theorem i_vc_best {k : Nat} {u : SX} {v : SY} (I : i_Rel k u v) (hk : k + 3 ≤ 1536) : wpX_best (fun r u' => wpY_best (fun r' v' => r' = r ∧ i_Rel (k + 3) u' v') v) u := by
  obtain ⟨f_shown, f_total, f_knownMined, f_knownFree, f_lastKind, f_listed, f_count, f_numbers, f_countedCell, f_countedMines, f_counted, a_around, a_clueOf, a_kindOf, a_cluesOf, a_sizes, a_clueList, a_missing, a_room, a_links, a_laterRoom, a_linkEnd, a_taken, a_most, a_countBefore, a_ways, a_minesIn⟩ := u
  obtain ⟨f_totaly, f_edgeCounty, f_coveredCounty, f_knowny, f_sureMinesy, f_sureFreey, a_cluesy, a_aroundy, a_edgey, a_foundy, a_foundWithy⟩ := v
  obtain ⟨hC, hX, hA, hA', rfl, hT, hXC, hYC⟩ := I
  have hCb := me_Cb f_shown (mu_k a_cluesy) f_total.toInt
  unfold wpX_best
  refine mw_count hC hX hA hXC (Or.inl rfl) hT ?_
  intro a1 a2 a3 a4 a5 a6 a7 a8 a9 b1 b2 b3 b4 b5 b6 b7 b8 b9 c1 c2 c3 hc hx
  have ect := (mv_un hx).1
  refine br_c (fun z => ?_) (fun z => nm_e (mv_best hx ?_))
  · unfold wpY_best
    refine my_count hC hA' hT hYC (fun ec cc kn ae fd fw hkn hY => ?_)
    rw [← ect]
    exact br_t z ⟨rfl, hC, hX, hA, hA', rfl, hT, hc, Or.inr hY⟩
  · unfold wpY_best
    refine my_count hC hA' hT hYC (fun ec cc kn ae fd fw hkn hY => br_f (by rw [← ect]; exact z) ?_)
    exact my_bestl hC hA' hT (Or.inr hY) (fun ec' cc' kn' ae' fd' fw' hY' => ⟨rfl, hC, hX, hA, hA', rfl, hT, hc, hY'⟩)
theorem i_vc_clues {k : Nat} {u : SX} {v : SY} (I : i_Rel k u v) (hk : k + 3 ≤ 1536) (v1 : Int32) : wpX_clues (fun r u' => wpY_clues (fun r' v' => r' = r ∧ i_Rel (k + 3) u' v') v v1) u v1 := by
  obtain ⟨f_shown, f_total, f_knownMined, f_knownFree, f_lastKind, f_listed, f_count, f_numbers, f_countedCell, f_countedMines, f_counted, a_around, a_clueOf, a_kindOf, a_cluesOf, a_sizes, a_clueList, a_missing, a_room, a_links, a_laterRoom, a_linkEnd, a_taken, a_most, a_countBefore, a_ways, a_minesIn⟩ := u
  obtain ⟨f_totaly, f_edgeCounty, f_coveredCounty, f_knowny, f_sureMinesy, f_sureFreey, a_cluesy, a_aroundy, a_edgey, a_foundy, a_foundWithy⟩ := v
  have I' := I
  obtain ⟨hC, hX, hA, hA', rfl, hT, hXC, hYC⟩ := I
  unfold wpX_clues
  rcases mx_ixv v1 with hb | ⟨j, hj, rfl⟩
  · refine mx_nocell hb (br_t rfl ?_)
    unfold wpY_clues
    exact my_nocell hb (br_t rfl ⟨rfl, I'⟩)
  · have vj := vp_in_nI hj (N := 20) (by omega)
    have cj : (nI j).toNatClampNeg = j := nI_clamp (by omega)
    refine mx_cell hj (br_f mx_10 (mx_has (by omega) (fun hs => br_f mx_10 ?_) (fun hs => br_t rfl ?_)))
    · unfold wpY_clues
      refine my_cell hj (br_f mx_10 ⟨vj, ?_⟩)
      rw [cj]
      exact br_f (mr_nlt hC hj hs) ⟨rfl, I'⟩
    · refine mw_count hC hX hA hXC (Or.inr ⟨j, hj, hs, rfl⟩) hT ?_
      intro a1 a2 a3 a4 a5 a6 a7 a8 a9 b1 b2 b3 b4 b5 b6 b7 b8 b9 c1 c2 c3 hc hx
      have enb := mv_wt hj hx
      unfold wpY_clues
      refine my_cell hj (br_f mx_10 ⟨vj, ?_⟩)
      rw [cj]
      exact br_t (mr_lt hC hj hs) (my_clues hC hA' hT hj hs (fun ec cc ae fd fw => ⟨enb.symm, hC, hX, hA, hA', rfl, hT, hc, Or.inl rfl⟩))
theorem i_vc_withMines {k : Nat} {u : SX} {v : SY} (I : i_Rel k u v) (hk : k + 3 ≤ 1536) (v1 : Int32) : wpX_withMines (fun r u' => wpY_withMines (fun r' v' => r' = r ∧ i_Rel (k + 3) u' v') v v1) u v1 := by
  obtain ⟨f_shown, f_total, f_knownMined, f_knownFree, f_lastKind, f_listed, f_count, f_numbers, f_countedCell, f_countedMines, f_counted, a_around, a_clueOf, a_kindOf, a_cluesOf, a_sizes, a_clueList, a_missing, a_room, a_links, a_laterRoom, a_linkEnd, a_taken, a_most, a_countBefore, a_ways, a_minesIn⟩ := u
  obtain ⟨f_totaly, f_edgeCounty, f_coveredCounty, f_knowny, f_sureMinesy, f_sureFreey, a_cluesy, a_aroundy, a_edgey, a_foundy, a_foundWithy⟩ := v
  obtain ⟨hC, hX, hA, hA', rfl, hT, hXC, hYC⟩ := I
  by_cases h0 : v1 < 0
  · refine br_t h0 ?_
    unfold wpY_withMines
    exact my_findAll hC hA' hYC (fun ec cc kn ae fd fw hkn hY => br_t h0 ⟨rfl, hC, hX, hA, hA', rfl, hT, hXC, Or.inr hY⟩)
  · refine br_f h0 ?_
    by_cases h20 : 20 < v1
    · refine br_t h20 ?_
      unfold wpY_withMines
      exact my_findAll hC hA' hYC (fun ec cc kn ae fd fw hkn hY => br_f h0 (br_t h20 ⟨rfl, hC, hX, hA, hA', rfl, hT, hXC, Or.inr hY⟩))
    · refine br_f h20 ?_
      obtain ⟨n, hn, rfl⟩ := nI_of2 (M := 20) (n := 20) (by decide) h0 (Int32.not_lt.mp h20)
      have go : ∀ (hYgo : ∀ ec cc kn ae fd fw, mr_Y f_shown a_cluesy ec cc fd fw → ∀ (P : Int32 → SY → Prop), (∃ q, wY_withMines_35 P (nI n) f_total ec cc kn f_sureMinesy f_sureFreey a_cluesy a_aroundy ae fd fw q 0 0) → ((f_total < 0 → (∃ n35 : Nat, wY_withMines_35 P (nI n) f_total ec cc kn f_sureMinesy f_sureFreey a_cluesy a_aroundy ae fd fw n35 0 0)) ∧ (¬ f_total < 0 → (((nI n = f_total → (∃ n35 : Nat, wY_withMines_35 P (nI n) f_total ec cc kn f_sureMinesy f_sureFreey a_cluesy a_aroundy ae fd fw n35 0 0)) ∧ (¬ nI n = f_total → (P 0 (f_total, ec, cc, kn, f_sureMinesy, f_sureFreey, a_cluesy, a_aroundy, ae, fd, fw)))))))),
          wX_withMines_28 (fun r u' => wpY_withMines (fun r' v' => r' = r ∧ i_Rel (k + 3) u' v') (f_total, f_edgeCounty, f_coveredCounty, f_knowny, f_sureMinesy, f_sureFreey, a_cluesy, a_aroundy, a_edgey, a_foundy, a_foundWithy) (nI n)) (nI n) f_shown f_total f_knownMined f_knownFree f_lastKind f_listed f_count f_numbers f_countedCell f_countedMines f_counted a_around a_clueOf a_kindOf a_cluesOf a_sizes a_clueList a_missing a_room a_links a_laterRoom a_linkEnd a_taken a_most a_countBefore a_ways a_minesIn := by
        intro hYgo
        unfold wX_withMines_28
        refine mw_count hC hX hA hXC (Or.inl rfl) (mr_Tn hn) ?_
        intro a1 a2 a3 a4 a5 a6 a7 a8 a9 b1 b2 b3 b4 b5 b6 b7 b8 b9 c1 c2 c3 hc hx
        have ect := (mv_un hx).1
        rw [nI_toInt (by omega)] at ect
        unfold wpY_withMines
        refine my_findAll hC hA' hYC (fun ec cc kn ae fd fw hkn hY => br_f h0 (br_f h20 (hYgo ec cc kn ae fd fw hY _ ?_)))
        exact my_with hC hA' hT (Or.inr hY) hn hY ⟨ect.symm, hC, hX, hA, hA', rfl, hT, hc, Or.inr hY⟩
      have hT' := hT
      rcases hT with e | ⟨t, ht, e⟩
      · refine br_t e (go (fun ec cc kn ae fd fw hY P hq => br_t ?_ hq))
        rw [e]; decide
      · have hne : ¬ f_total = -1 := by
          rw [e]
          intro y
          have : (nI t).toInt = (-1 : Int32).toInt := by rw [← y]
          rw [nI_toInt (by omega), mw_m1] at this
          omega
        have hnn : ¬ f_total < 0 := by rw [e]; exact nI_pos (by omega)
        refine br_f hne (br_c (fun z => go (fun ec cc kn ae fd fw hY P hq => br_f hnn (br_t z.symm hq))) (fun z => ?_))
        unfold wpY_withMines
        exact my_findAll hC hA' hYC (fun ec cc kn ae fd fw hkn hY => br_f h0 (br_f h20 (br_f hnn (br_f (fun y => z y.symm) ⟨rfl, hC, hX, hA, hA', rfl, hT', hXC, Or.inr hY⟩))))
theorem mj_ans {S : Int32} {ac : Nat → Int32} {p : Bool} {M F M' F' : Int32} (l1 : me_lo M) (l2 : me_lo F) (l3 : me_lo M') (l4 : me_lo F') (h : ml_S mu_N (mu_v S) (mu_k ac) p true (bt M) (bt F)) (h' : ml_S mu_N (mu_v S) (mu_k ac) p true (bt M') (bt F')) : M = M' ∧ F = F' := by
  have := (ml_uniq h h').2 rfl
  exact ⟨me_ext l1 l3 (fun j hj => (this j hj).1), me_ext l2 l4 (fun j hj => (this j hj).2)⟩
theorem i_vc_simple {k : Nat} {u : SX} {v : SY} (I : i_Rel k u v) (hk : k + 3 ≤ 1536) : wpX_simple (fun r u' => wpY_simple (fun r' v' => r' = r ∧ i_Rel (k + 3) u' v') v) u := by
  obtain ⟨f_shown, f_total, f_knownMined, f_knownFree, f_lastKind, f_listed, f_count, f_numbers, f_countedCell, f_countedMines, f_counted, a_around, a_clueOf, a_kindOf, a_cluesOf, a_sizes, a_clueList, a_missing, a_room, a_links, a_laterRoom, a_linkEnd, a_taken, a_most, a_countBefore, a_ways, a_minesIn⟩ := u
  obtain ⟨f_totaly, f_edgeCounty, f_coveredCounty, f_knowny, f_sureMinesy, f_sureFreey, a_cluesy, a_aroundy, a_edgey, a_foundy, a_foundWithy⟩ := v
  obtain ⟨hC, hX, hA, hA', rfl, hT, hXC, hYC⟩ := I
  unfold wpX_simple
  refine mx_rules hC hX hA false (Or.inr ⟨rfl, rfl⟩) (fun M F hS => br_t rfl ?_) (fun M F l1 l2 hS => br_f mx_10 (mx_size (mr_orl l1 l2) ?_))
  · unfold wpY_simple
    refine my_decide hC hA' (p := false) (Or.inr ⟨rfl, rfl⟩) (fun M' F' hS' => ⟨rfl, hC, hX, hA, hA', rfl, hT, hXC, hYC⟩) (fun M' F' l3 l4 hS' => ?_)
    have := (ml_uniq hS hS').1
    cases this
  · unfold wpY_simple
    refine my_decide hC hA' (p := false) (Or.inr ⟨rfl, rfl⟩) (fun M' F' hS' => ?_) (fun M' F' l3 l4 hS' => ?_)
    · have := (ml_uniq hS hS').1
      cases this
    · obtain ⟨e1, e2⟩ := mj_ans l1 l2 l3 l4 hS hS'
      subst e1 e2
      exact ⟨rfl, hC, hX, hA, hA', rfl, hT, hXC, hYC⟩
theorem i_vc_paired {k : Nat} {u : SX} {v : SY} (I : i_Rel k u v) (hk : k + 3 ≤ 1536) : wpX_paired (fun r u' => wpY_paired (fun r' v' => r' = r ∧ i_Rel (k + 3) u' v') v) u := by
  obtain ⟨f_shown, f_total, f_knownMined, f_knownFree, f_lastKind, f_listed, f_count, f_numbers, f_countedCell, f_countedMines, f_counted, a_around, a_clueOf, a_kindOf, a_cluesOf, a_sizes, a_clueList, a_missing, a_room, a_links, a_laterRoom, a_linkEnd, a_taken, a_most, a_countBefore, a_ways, a_minesIn⟩ := u
  obtain ⟨f_totaly, f_edgeCounty, f_coveredCounty, f_knowny, f_sureMinesy, f_sureFreey, a_cluesy, a_aroundy, a_edgey, a_foundy, a_foundWithy⟩ := v
  obtain ⟨hC, hX, hA, hA', rfl, hT, hXC, hYC⟩ := I
  unfold wpX_paired
  refine mx_rules hC hX hA true (Or.inl ⟨rfl, rfl⟩) (fun M F hS => br_t rfl ?_) (fun M F l1 l2 hS => br_f mx_10 (mx_size (mr_orl l1 l2) ?_))
  · unfold wpY_paired
    refine my_decide hC hA' (p := true) (Or.inl ⟨rfl, rfl⟩) (fun M' F' hS' => ⟨rfl, hC, hX, hA, hA', rfl, hT, hXC, hYC⟩) (fun M' F' l3 l4 hS' => ?_)
    have := (ml_uniq hS hS').1
    cases this
  · unfold wpY_paired
    refine my_decide hC hA' (p := true) (Or.inl ⟨rfl, rfl⟩) (fun M' F' hS' => ?_) (fun M' F' l3 l4 hS' => ?_)
    · have := (ml_uniq hS hS').1
      cases this
    · obtain ⟨e1, e2⟩ := mj_ans l1 l2 l3 l4 hS hS'
      subst e1 e2
      exact ⟨rfl, hC, hX, hA, hA', rfl, hT, hXC, hYC⟩
theorem i_vc_decided {k : Nat} {u : SX} {v : SY} (I : i_Rel k u v) (hk : k + 3 ≤ 1536) (v1 : Int32) : wpX_decided (fun r u' => wpY_decided (fun r' v' => r' = r ∧ i_Rel (k + 3) u' v') v v1) u v1 := by
  obtain ⟨f_shown, f_total, f_knownMined, f_knownFree, f_lastKind, f_listed, f_count, f_numbers, f_countedCell, f_countedMines, f_counted, a_around, a_clueOf, a_kindOf, a_cluesOf, a_sizes, a_clueList, a_missing, a_room, a_links, a_laterRoom, a_linkEnd, a_taken, a_most, a_countBefore, a_ways, a_minesIn⟩ := u
  obtain ⟨f_totaly, f_edgeCounty, f_coveredCounty, f_knowny, f_sureMinesy, f_sureFreey, a_cluesy, a_aroundy, a_edgey, a_foundy, a_foundWithy⟩ := v
  have I' := I
  obtain ⟨hC, hX, hA, hA', rfl, hT, hXC, hYC⟩ := I
  unfold wpX_decided
  rcases mx_ixv v1 with hb | ⟨j, hj, rfl⟩
  · refine mx_nocell hb (br_t rfl ?_)
    unfold wpY_decided
    exact my_nocell hb (br_t rfl ⟨rfl, I'⟩)
  · refine mx_cell hj (br_f mx_10 (mx_rules hC hX hA true (Or.inl ⟨rfl, rfl⟩) (fun M F hS => br_t rfl ?_) (fun M F l1 l2 hS => br_f mx_10 ?_)))
    · unfold wpY_decided
      refine my_cell hj (br_f mx_10 (my_decide hC hA' (p := true) (Or.inl ⟨rfl, rfl⟩) (fun M' F' hS' => br_t rfl ⟨rfl, hC, hX, hA, hA', rfl, hT, hXC, hYC⟩) (fun M' F' l3 l4 hS' => ?_)))
      have := (ml_uniq hS hS').1
      cases this
    · have yes : ∀ (x : Int32), (bt M j = true → x = 1) → (bt M j = false → bt F j = true → x = 0) → (bt M j = false → bt F j = false → x = -2) → wpY_decided (fun r' v' => r' = x ∧ i_Rel (k + 3) (f_shown, f_total, M, F, f_lastKind, f_listed, f_count, f_numbers, f_countedCell, f_countedMines, f_counted, a_around, a_clueOf, a_kindOf, a_cluesOf, a_sizes, a_clueList, a_missing, a_room, a_links, a_laterRoom, a_linkEnd, a_taken, a_most, a_countBefore, a_ways, a_minesIn) v') (f_total, f_edgeCounty, f_coveredCounty, f_knowny, f_sureMinesy, f_sureFreey, a_cluesy, a_aroundy, a_edgey, a_foundy, a_foundWithy) (nI j) := by
        intro x x1 x2 x3
        unfold wpY_decided
        refine my_cell hj (br_f mx_10 (my_decide hC hA' (p := true) (Or.inl ⟨rfl, rfl⟩) (fun M' F' hS' => ?_) (fun M' F' l3 l4 hS' => ?_)))
        · have := (ml_uniq hS hS').1
          cases this
        · obtain ⟨e1, e2⟩ := mj_ans l1 l2 l3 l4 hS hS'
          subst e1 e2
          have c20 := mu_c20 (M ||| F)
          have hne : ¬ nI (me_c (M ||| F)) = -3 := by
            intro y
            have : (nI (me_c (M ||| F))).toInt = (-3 : Int32).toInt := by rw [← y]
            rw [nI_toInt (by omega)] at this
            have h3 : (-3 : Int32).toInt = -3 := by decide
            omega
          refine br_f hne ?_
          cases hm : bt M j
          · refine br_f (mx_t1' (by omega) hm) ?_
            cases hf : bt F j
            · exact br_f (mx_t1' (by omega) hf) ⟨(x3 hm hf).symm, hC, hX, hA, hA', rfl, hT, hXC, hYC⟩
            · exact br_t (mx_t1 (by omega) hf) ⟨(x2 hm hf).symm, hC, hX, hA, hA', rfl, hT, hXC, hYC⟩
          · exact br_t (mx_t1 (by omega) hm) ⟨(x1 hm).symm, hC, hX, hA, hA', rfl, hT, hXC, hYC⟩
      refine mx_has (by omega) (fun hm => br_f mx_10 ?_) (fun hm => br_t rfl (mx_has (by omega) (fun hf => br_f mx_10 ?_) (fun hf => br_t rfl ?_)))
      · exact yes 1 (fun _ => rfl) (fun q => by rw [hm] at q; cases q) (fun q => by rw [hm] at q; cases q)
      · exact yes 0 (fun q => by rw [hm] at q; cases q) (fun _ _ => rfl) (fun _ q => by rw [hf] at q; cases q)
      · exact yes (-2) (fun q => by rw [hm] at q; cases q) (fun _ q => by rw [hf] at q; cases q) (fun _ _ => rfl)
end
