/-! counting bits -/
def mb_cn (p : Nat → Bool) : Nat → Nat
  | 0 => 0
  | n + 1 => mb_cn p n + (p n).toNat
theorem mb_tn (b : Bool) : b.toNat ≤ 1 := by cases b <;> decide
theorem mb_le (p : Nat → Bool) : ∀ n, mb_cn p n ≤ n
  | 0 => Nat.le_refl _
  | n + 1 => by have := mb_le p n; have := mb_tn (p n); simp only [mb_cn]; omega
theorem mb_eq {p q : Nat → Bool} : ∀ {n : Nat}, (∀ i, i < n → p i = q i) → mb_cn p n = mb_cn q n
  | 0, _ => rfl
  | n + 1, h => by simp only [mb_cn]; rw [mb_eq (n := n) (fun i hi => h i (by omega)), h n (by omega)]
theorem mb_split (p q : Nat → Bool) : ∀ n, mb_cn p n = mb_cn (fun i => p i && q i) n + mb_cn (fun i => p i && !q i) n
  | 0 => rfl
  | n + 1 => by
    have h := mb_split p q n
    simp only [mb_cn]
    cases p n <;> cases q n <;> simp <;> omega
theorem mb_mono {p q : Nat → Bool} : ∀ {n : Nat}, (∀ i, i < n → p i = true → q i = true) → mb_cn p n ≤ mb_cn q n
  | 0, _ => Nat.le_refl _
  | n + 1, h => by
    have a := mb_mono (p := p) (q := q) (n := n) (fun i hi => h i (by omega))
    have b := h n (by omega)
    simp only [mb_cn]
    cases hp : p n
    · simp; omega
    · rw [b hp]; omega
theorem mb_zero {p : Nat → Bool} : ∀ {n : Nat}, mb_cn p n = 0 → ∀ i, i < n → p i = false
  | 0, _, i, hi => by omega
  | n + 1, h, i, hi => by
    simp only [mb_cn] at h
    rcases Nat.lt_or_ge i n with z | z
    · exact mb_zero (n := n) (by omega) i z
    · have e : i = n := by omega
      subst e
      cases hp : p i
      · rfl
      · rw [hp] at h; simp at h
theorem mb_of0 {p : Nat → Bool} {n : Nat} (h : ∀ i, i < n → p i = false) : mb_cn p n = 0 := by
  rw [mb_eq (q := fun _ => false) h]
  induction n with
  | zero => rfl
  | succ n ih => simp only [mb_cn]; rw [ih (fun i hi => h i (by omega))]; rfl
theorem mb_one {p q : Nat → Bool} {a : Nat} (hp : p a = false) (hq : q a = true) : ∀ {n : Nat}, a < n → (∀ i, i < n → i ≠ a → q i = p i) → mb_cn q n = mb_cn p n + 1
  | 0, h, _ => by omega
  | n + 1, h, e => by
    simp only [mb_cn]
    rcases Nat.lt_or_ge a n with z | z
    · rw [mb_one hp hq z (fun i hi => e i (by omega)), e n (by omega) (by omega)]; omega
    · have y : a = n := by omega
      subst y
      rw [hp, hq, mb_eq (p := q) (q := p) (fun i hi => e i (by omega) (by omega))]; rfl
theorem mb_lt {p q : Nat → Bool} {a n : Nat} (ha : a < n) (hp : p a = false) (hq : q a = true) (h : ∀ i, i < n → p i = true → q i = true) : mb_cn p n < mb_cn q n := by
  have e1 := mb_one (p := p) (q := fun i => if i = a then true else p i) hp (if_pos rfl) ha (fun i _ hn => if_neg hn)
  have e2 := mb_mono (p := fun i => if i = a then true else p i) (q := q) (n := n) (fun i hi => by
    by_cases z : i = a
    · intro _; rw [z]; exact hq
    · simp only [z, if_false]; exact h i hi)
  omega
theorem mb_full {p : Nat → Bool} : ∀ {n : Nat}, n ≤ mb_cn p n → ∀ i, i < n → p i = true := by
  intro n h i hi
  cases hp : p i
  · have := mb_lt (q := fun _ => true) hi hp rfl (fun _ _ _ => rfl)
    have := mb_le (fun _ => true) n
    omega
  · rfl
theorem mb_filter (p : Nat → Bool) : ∀ n, mb_cn p n = ((List.range n).filter p).length
  | 0 => rfl
  | n + 1 => by
    simp only [mb_cn]
    rw [List.range_succ, List.filter_append, List.length_append, mb_filter p n]
    cases h : p n <;> simp [h]
/-! the number of set bits of n below 2^k -/
def mb_pb : Nat → Nat → Nat
  | 0, _ => 0
  | k + 1, n => n % 2 + mb_pb k (n / 2)
theorem mb_front (p : Nat → Bool) : ∀ n, mb_cn p (n + 1) = (p 0).toNat + mb_cn (fun i => p (i + 1)) n
  | 0 => by simp [mb_cn]
  | n + 1 => by
    have h := mb_front p n
    simp only [mb_cn] at h ⊢
    omega
theorem mb_pbcn : ∀ k n, mb_cn n.testBit k = mb_pb k n
  | 0, _ => rfl
  | k + 1, n => by
    rw [mb_front, mb_pb, ← mb_pbcn k (n / 2)]
    have e1 : (n.testBit 0).toNat = n % 2 := by
      rw [Nat.testBit_zero]
      rcases Nat.mod_two_eq_zero_or_one n with h | h <;> simp [h]
    rw [e1]
    congr 1
    exact mb_eq (fun i _ => Nat.testBit_succ n i)
theorem mb_and (k b d : Nat) {a c : Nat} (ha : a < 2 ^ k) (hc : c < 2 ^ k) : (2 ^ k * b + a) &&& (2 ^ k * d + c) = 2 ^ k * (b &&& d) + (a &&& c) := by
  apply Nat.eq_of_testBit_eq
  intro j
  rw [Nat.testBit_and, Nat.testBit_two_pow_mul_add _ ha, Nat.testBit_two_pow_mul_add _ hc, Nat.testBit_two_pow_mul_add _ (Nat.lt_of_le_of_lt Nat.and_le_left ha)]
  split <;> simp
def mb_M1 : Nat → Nat
  | 0 => 0
  | k + 1 => 4 * mb_M1 k + 1
def mb_M2 : Nat → Nat
  | 0 => 0
  | k + 1 => 16 * mb_M2 k + 3
def mb_M3 : Nat → Nat
  | 0 => 0
  | k + 1 => 256 * mb_M3 k + 15
def mb_T1 : Nat → Nat → Nat
  | 0, _ => 0
  | k + 1, n => n % 2 + n / 2 % 2 + 4 * mb_T1 k (n / 4)
def mb_T2 : Nat → Nat → Nat
  | 0, _ => 0
  | k + 1, n => n % 4 + n / 4 % 4 + 16 * mb_T2 k (n / 16)
def mb_T3 : Nat → Nat → Nat
  | 0, _ => 0
  | k + 1, n => n % 16 + n / 16 % 16 + 256 * mb_T3 k (n / 256)
theorem mb_t1 : ∀ k n, (n &&& mb_M1 k) + ((n / 2) &&& mb_M1 k) = mb_T1 k n
  | 0, n => by simp [mb_M1, mb_T1]
  | k + 1, n => by
    have ih := mb_t1 k (n / 4)
    have e1 := mb_and 2 (n / 4) (mb_M1 k) (a := n % 4) (c := 1) (by omega) (by omega)
    have e2 := mb_and 2 (n / 2 / 4) (mb_M1 k) (a := n / 2 % 4) (c := 1) (by omega) (by omega)
    have f1 : n % 4 &&& 1 = n % 4 % 2 := Nat.and_two_pow_sub_one_eq_mod _ 1
    have f2 : n / 2 % 4 &&& 1 = n / 2 % 4 % 2 := Nat.and_two_pow_sub_one_eq_mod _ 1
    have g1 : 2 ^ 2 * (n / 4) + n % 4 = n := by omega
    have g2 : 2 ^ 2 * (n / 2 / 4) + n / 2 % 4 = n / 2 := by omega
    have g3 : n / 2 / 4 = n / 4 / 2 := by omega
    have g4 : 2 ^ 2 * mb_M1 k + 1 = mb_M1 (k + 1) := rfl
    rw [g1, g4, f1] at e1
    rw [g2, g4, f2, g3] at e2
    rw [e1, e2]
    simp only [mb_T1]
    omega
theorem mb_t2 : ∀ k n, (n &&& mb_M2 k) + ((n / 4) &&& mb_M2 k) = mb_T2 k n
  | 0, n => by simp [mb_M2, mb_T2]
  | k + 1, n => by
    have ih := mb_t2 k (n / 16)
    have e1 := mb_and 4 (n / 16) (mb_M2 k) (a := n % 16) (c := 3) (by omega) (by omega)
    have e2 := mb_and 4 (n / 4 / 16) (mb_M2 k) (a := n / 4 % 16) (c := 3) (by omega) (by omega)
    have f1 : n % 16 &&& 3 = n % 16 % 4 := Nat.and_two_pow_sub_one_eq_mod _ 2
    have f2 : n / 4 % 16 &&& 3 = n / 4 % 16 % 4 := Nat.and_two_pow_sub_one_eq_mod _ 2
    have g1 : 2 ^ 4 * (n / 16) + n % 16 = n := by omega
    have g2 : 2 ^ 4 * (n / 4 / 16) + n / 4 % 16 = n / 4 := by omega
    have g3 : n / 4 / 16 = n / 16 / 4 := by omega
    have g4 : 2 ^ 4 * mb_M2 k + 3 = mb_M2 (k + 1) := rfl
    rw [g1, g4, f1] at e1
    rw [g2, g4, f2, g3] at e2
    rw [e1, e2]
    simp only [mb_T2]
    omega
theorem mb_t3 : ∀ k n, (n &&& mb_M3 k) + ((n / 16) &&& mb_M3 k) = mb_T3 k n
  | 0, n => by simp [mb_M3, mb_T3]
  | k + 1, n => by
    have ih := mb_t3 k (n / 256)
    have e1 := mb_and 8 (n / 256) (mb_M3 k) (a := n % 256) (c := 15) (by omega) (by omega)
    have e2 := mb_and 8 (n / 16 / 256) (mb_M3 k) (a := n / 16 % 256) (c := 15) (by omega) (by omega)
    have f1 : n % 256 &&& 15 = n % 256 % 16 := Nat.and_two_pow_sub_one_eq_mod _ 4
    have f2 : n / 16 % 256 &&& 15 = n / 16 % 256 % 16 := Nat.and_two_pow_sub_one_eq_mod _ 4
    have g1 : 2 ^ 8 * (n / 256) + n % 256 = n := by omega
    have g2 : 2 ^ 8 * (n / 16 / 256) + n / 16 % 256 = n / 16 := by omega
    have g3 : n / 16 / 256 = n / 256 / 16 := by omega
    have g4 : 2 ^ 8 * mb_M3 k + 15 = mb_M3 (k + 1) := rfl
    rw [g1, g4, f1] at e1
    rw [g2, g4, f2, g3] at e2
    rw [e1, e2]
    simp only [mb_T3]
    omega
theorem mb_pb8 (k n : Nat) : mb_pb (k + 8) n = n % 2 + n / 2 % 2 + (n / 4 % 2 + n / 4 / 2 % 2) + (n / 4 / 4 % 2 + n / 4 / 4 / 2 % 2) + (n / 4 / 4 / 4 % 2 + n / 4 / 4 / 4 / 2 % 2) + mb_pb k (n / 256) := by
  simp only [mb_pb]
  have h : n / 2 / 2 / 2 / 2 / 2 / 2 / 2 / 2 = n / 256 := by omega
  rw [h]
  omega
theorem mb_stage (n j1 j2 j3 : Nat) : mb_T3 (j3 + 1) (mb_T2 (j2 + 2) (mb_T1 (j1 + 4) n)) = mb_pb 8 n + 256 * mb_T3 j3 (mb_T2 j2 (mb_T1 j1 (n / 256))) := by
  have hp := mb_pb8 0 n
  simp only [mb_pb.eq_1 (n / 256), Nat.zero_add, Nat.add_zero] at hp
  rw [hp]
  have h1 : mb_T1 (j1 + 4) n = (n % 2 + n / 2 % 2) + 4 * (n / 4 % 2 + n / 4 / 2 % 2) + 16 * (n / 4 / 4 % 2 + n / 4 / 4 / 2 % 2) + 64 * (n / 4 / 4 / 4 % 2 + n / 4 / 4 / 4 / 2 % 2) + 256 * mb_T1 j1 (n / 256) := by
    simp only [mb_T1]
    have h : n / 4 / 4 / 4 / 4 = n / 256 := by omega
    rw [h]; omega
  rw [h1]
  have b0 : n % 2 + n / 2 % 2 ≤ 2 := by omega
  have b1 : n / 4 % 2 + n / 4 / 2 % 2 ≤ 2 := by omega
  have b2 : n / 4 / 4 % 2 + n / 4 / 4 / 2 % 2 ≤ 2 := by omega
  have b3 : n / 4 / 4 / 4 % 2 + n / 4 / 4 / 4 / 2 % 2 ≤ 2 := by omega
  generalize n % 2 + n / 2 % 2 = p0 at *
  generalize n / 4 % 2 + n / 4 / 2 % 2 = p1 at *
  generalize n / 4 / 4 % 2 + n / 4 / 4 / 2 % 2 = p2 at *
  generalize n / 4 / 4 / 4 % 2 + n / 4 / 4 / 4 / 2 % 2 = p3 at *
  generalize mb_T1 j1 (n / 256) = r
  have h2 : mb_T2 (j2 + 2) (p0 + 4 * p1 + 16 * p2 + 64 * p3 + 256 * r) = (p0 + p1) + 16 * (p2 + p3) + 256 * mb_T2 j2 r := by
    simp only [mb_T2]
    have h : (p0 + 4 * p1 + 16 * p2 + 64 * p3 + 256 * r) / 16 / 16 = r := by omega
    rw [h]; omega
  rw [h2]
  generalize mb_T2 j2 r = r2
  simp only [mb_T3]
  have h : (p0 + p1 + 16 * (p2 + p3) + 256 * r2) / 256 = r2 := by omega
  rw [h]; omega
theorem mb_pb_le : ∀ k n, mb_pb k n ≤ k
  | 0, _ => Nat.le_refl _
  | k + 1, n => by have := mb_pb_le k (n / 2); simp only [mb_pb]; omega
theorem mb_pb0 : ∀ k, mb_pb k 0 = 0
  | 0 => rfl
  | k + 1 => by rw [mb_pb, Nat.zero_mod, Nat.zero_div, mb_pb0 k]
theorem mb_pb_app : ∀ a b n, mb_pb (a + b) n = mb_pb a n + mb_pb b (n / 2 ^ a)
  | 0, b, n => by simp [mb_pb]
  | a + 1, b, n => by
    rw [Nat.add_right_comm]
    simp only [mb_pb]
    rw [mb_pb_app a b (n / 2), Nat.div_div_eq_div_mul, Nat.pow_succ, Nat.mul_comm (2 ^ a) 2]
    omega
theorem mb_pb20 (n : Nat) : mb_pb 20 n = mb_pb 8 n + mb_pb 8 (n / 256) + mb_pb 4 (n / 65536) := by
  have h1 : mb_pb 20 n = mb_pb 8 n + mb_pb 12 (n / 256) := mb_pb_app 8 12 n
  have h2 : mb_pb 12 (n / 256) = mb_pb 8 (n / 256) + mb_pb 4 (n / 256 / 256) := mb_pb_app 8 4 (n / 256)
  have e : n / 256 / 256 = n / 65536 := by omega
  rw [h1, h2, e, Nat.add_assoc]
theorem mb_T30 (x : Nat) : mb_T3 0 x = 0 := by rw [mb_T3]
theorem mb_X (n : Nat) (h : n < 2 ^ 20) : mb_T3 4 (mb_T2 8 (mb_T1 16 n)) = mb_pb 8 n + 256 * mb_pb 8 (n / 256) + 65536 * mb_pb 4 (n / 65536) := by
  have s1 := mb_stage n 12 6 3
  have s2 := mb_stage (n / 256) 8 4 2
  have s3 := mb_stage (n / 256 / 256) 4 2 1
  have s4 := mb_stage (n / 256 / 256 / 256) 0 0 0
  have e1 : n / 256 / 256 = n / 65536 := by omega
  have e2 : n / 65536 / 256 = 0 := by omega
  have e4 : n / 65536 / 16 = 0 := by omega
  have e3 : mb_pb 8 (n / 65536) = mb_pb 4 (n / 65536) + mb_pb 4 (n / 65536 / 16) := mb_pb_app 4 4 (n / 65536)
  rw [e4, mb_pb0] at e3
  rw [e1, e2] at s4
  rw [e1, e2] at s3
  rw [e1] at s2
  rw [mb_T30, mb_pb0] at s4
  generalize mb_pb 8 n = x0 at *
  generalize mb_pb 8 (n / 256) = x1 at *
  generalize mb_pb 8 (n / 65536) = x2 at *
  generalize mb_pb 4 (n / 65536) = x3 at *
  have t1 : mb_T3 4 (mb_T2 8 (mb_T1 16 n)) = x0 + 256 * mb_T3 3 (mb_T2 6 (mb_T1 12 (n / 256))) := s1
  have t2 : mb_T3 3 (mb_T2 6 (mb_T1 12 (n / 256))) = x1 + 256 * mb_T3 2 (mb_T2 4 (mb_T1 8 (n / 65536))) := s2
  have t3 : mb_T3 2 (mb_T2 4 (mb_T1 8 (n / 65536))) = x2 + 256 * mb_T3 1 (mb_T2 2 (mb_T1 4 0)) := s3
  have t4 : mb_T3 1 (mb_T2 2 (mb_T1 4 0)) = 0 + 256 * 0 := s4
  rw [t1, t2, t3, t4, e3]
  omega
theorem mb_Y0 (m : Nat) (h : m < 16) : mb_T3 1 (mb_T2 1 (mb_T1 2 m)) = mb_pb 4 m := (by decide +kernel : ∀ m, m < 16 → mb_T3 1 (mb_T2 1 (mb_T1 2 m)) = mb_pb 4 m) m h
theorem mb_Y (n : Nat) (h : n < 2 ^ 20) : mb_T3 3 (mb_T2 5 (mb_T1 10 n)) = mb_pb 8 n + 256 * mb_pb 8 (n / 256) + 65536 * mb_pb 4 (n / 65536) := by
  have s1 : mb_T3 3 (mb_T2 5 (mb_T1 10 n)) = mb_pb 8 n + 256 * mb_T3 2 (mb_T2 3 (mb_T1 6 (n / 256))) := mb_stage n 6 3 2
  have s2 : mb_T3 2 (mb_T2 3 (mb_T1 6 (n / 256))) = mb_pb 8 (n / 256) + 256 * mb_T3 1 (mb_T2 1 (mb_T1 2 (n / 256 / 256))) := mb_stage (n / 256) 2 1 1
  have e1 : n / 256 / 256 = n / 65536 := by omega
  have e4 : n / 65536 < 16 := by omega
  rw [e1, mb_Y0 _ e4] at s2
  rw [s1, s2]
  generalize mb_pb 8 n = x0
  generalize mb_pb 8 (n / 256) = x1
  generalize mb_pb 4 (n / 65536) = x3
  omega
