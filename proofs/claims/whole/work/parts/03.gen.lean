/-! subsets of a list of cells (each a mask of the clues that count it) against needs -/
noncomputable def mg_i (P : Prop) : Nat := @ite Nat P (Classical.propDecidable P) 1 0
theorem mg_i_t {P : Prop} (h : P) : mg_i P = 1 := by unfold mg_i; rw [if_pos h]
theorem mg_i_f {P : Prop} (h : ¬ P) : mg_i P = 0 := by unfold mg_i; rw [if_neg h]
theorem mg_i_le (P : Prop) : mg_i P ≤ 1 := by
  rcases Classical.em P with h | h
  · rw [mg_i_t h]; omega
  · rw [mg_i_f h]; omega
theorem mg_i_eq {P Q : Prop} (h : P ↔ Q) : mg_i P = mg_i Q := by rw [propext h]
theorem mg_i_pos {P : Prop} : 0 < mg_i P ↔ P := by
  rcases Classical.em P with h | h
  · rw [mg_i_t h]; exact ⟨fun _ => h, fun _ => by omega⟩
  · rw [mg_i_f h]; exact ⟨fun z => absurd z (by omega), fun z => absurd z h⟩
def mg_sub (w : Nat → Int) (m : Int32) : Nat → Int := fun j => w j - (if bt m j = true then 1 else 0)
def mg_subn (w : Nat → Int) (t : Nat) (m : Int32) : Nat → Int := fun j => w j - (if bt m j = true then (t : Int) else 0)
def mg_G (L : (Nat → Int) → Nat) : List Int32 → (Nat → Int) → Nat
  | [], w => L w
  | m :: ms, w => mg_G L ms w + mg_G L ms (mg_sub w m)
theorem mg_comm (w : Nat → Int) (a b : Int32) : mg_sub (mg_sub w a) b = mg_sub (mg_sub w b) a := by
  funext j
  simp only [mg_sub]
  omega
theorem mg_perm {L : (Nat → Int) → Nat} {l1 l2 : List Int32} (h : List.Perm l1 l2) : ∀ w, mg_G L l1 w = mg_G L l2 w := by
  induction h with
  | nil => intro w; rfl
  | cons x _ ih => intro w; simp only [mg_G]; rw [ih, ih]
  | swap x y l =>
    intro w
    simp only [mg_G]
    rw [mg_comm w y x]
    omega
  | trans _ _ ih1 ih2 => intro w; rw [ih1, ih2]
theorem mg_app (L : (Nat → Int) → Nat) : ∀ (a b : List Int32) (w : Nat → Int), mg_G L (a ++ b) w = mg_G (mg_G L b) a w
  | [], _, _ => rfl
  | m :: a, b, w => by simp only [List.cons_append, mg_G]; rw [mg_app L a b, mg_app L a b]
theorem mg_bound {L : (Nat → Int) → Nat} (h : ∀ w, L w ≤ 1) : ∀ (l : List Int32) (w : Nat → Int), mg_G L l w ≤ 2 ^ l.length
  | [], w => by simpa [mg_G] using h w
  | m :: l, w => by
    have a := mg_bound h l w
    have b := mg_bound h l (mg_sub w m)
    simp only [mg_G, List.length_cons, Nat.pow_succ]
    omega
theorem mg_neg {L : (Nat → Int) → Nat} {j : Nat} (h : ∀ w : Nat → Int, w j < 0 → L w = 0) : ∀ (l : List Int32) (w : Nat → Int), w j < 0 → mg_G L l w = 0
  | [], w, hw => h w hw
  | m :: l, w, hw => by
    have e : mg_sub w m j < 0 := by simp only [mg_sub]; split <;> omega
    simp only [mg_G]
    rw [mg_neg h l w hw, mg_neg h l _ e]
theorem mg_high {L : (Nat → Int) → Nat} {j : Nat} {r : Int} (h : ∀ w : Nat → Int, r < w j → L w = 0) : ∀ (l : List Int32) (w : Nat → Int), r + (l.length : Int) < w j → mg_G L l w = 0
  | [], w, hw => h w (by simpa using hw)
  | m :: l, w, hw => by
    rw [List.length_cons] at hw
    have e : r + (l.length : Int) < mg_sub w m j := by simp only [mg_sub]; split <;> omega
    simp only [mg_G]
    rw [mg_high h l w (by omega), mg_high h l _ e]
/-! sums and choices -/
def mg_sum (f : Nat → Nat) : Nat → Nat
  | 0 => 0
  | n + 1 => mg_sum f n + f n
theorem mg_sum_eq {f g : Nat → Nat} : ∀ {n : Nat}, (∀ i, i < n → f i = g i) → mg_sum f n = mg_sum g n
  | 0, _ => rfl
  | n + 1, h => by simp only [mg_sum]; rw [mg_sum_eq (n := n) (fun i hi => h i (by omega)), h n (by omega)]
theorem mg_sum_z {f : Nat → Nat} : ∀ {n : Nat}, (∀ i, i < n → f i = 0) → mg_sum f n = 0
  | 0, _ => rfl
  | n + 1, h => by simp only [mg_sum]; rw [mg_sum_z (n := n) (fun i hi => h i (by omega)), h n (by omega)]
theorem mg_sum_add (f g : Nat → Nat) : ∀ n, mg_sum (fun i => f i + g i) n = mg_sum f n + mg_sum g n
  | 0 => rfl
  | n + 1 => by simp only [mg_sum]; rw [mg_sum_add f g n]; omega
theorem mg_sum_mul (f : Nat → Nat) (c : Nat) : ∀ n, mg_sum (fun i => c * f i) n = c * mg_sum f n
  | 0 => rfl
  | n + 1 => by simp only [mg_sum]; rw [mg_sum_mul f c n, Nat.mul_add]
theorem mg_sum_f (f : Nat → Nat) : ∀ n, mg_sum f (n + 1) = f 0 + mg_sum (fun i => f (i + 1)) n
  | 0 => by simp [mg_sum]
  | n + 1 => by
    have h := mg_sum_f f n
    simp only [mg_sum] at h ⊢
    omega
theorem mg_sum_tail {f : Nat → Nat} {a : Nat} : ∀ {n : Nat}, a ≤ n → (∀ i, a ≤ i → i < n → f i = 0) → mg_sum f n = mg_sum f a
  | 0, ha, _ => by rw [show a = 0 by omega]
  | n + 1, ha, h => by
    rcases Nat.lt_or_ge n a with z | z
    · rw [show a = n + 1 by omega]
    · simp only [mg_sum]
      rw [mg_sum_tail z (fun i h1 h2 => h i h1 (by omega)), h n z (by omega), Nat.add_zero]
theorem mg_sum_pt {f : Nat → Nat} {a : Nat} : ∀ {n : Nat}, a < n → (∀ i, i < n → i ≠ a → f i = 0) → mg_sum f n = f a
  | 0, ha, _ => by omega
  | n + 1, ha, h => by
    simp only [mg_sum]
    rcases Nat.lt_or_ge a n with z | z
    · rw [mg_sum_pt z (fun i h1 h2 => h i (by omega) h2), h n (by omega) (by omega)]; omega
    · have e : a = n := by omega
      subst e
      rw [mg_sum_z (fun i hi => h i (by omega) (by omega))]; omega
theorem mg_sum_pos {f : Nat → Nat} : ∀ {n : Nat}, 0 < mg_sum f n ↔ ∃ i, i < n ∧ 0 < f i
  | 0 => ⟨fun h => absurd h (by simp [mg_sum]), fun ⟨i, h, _⟩ => by omega⟩
  | n + 1 => by
    have ih := mg_sum_pos (f := f) (n := n)
    simp only [mg_sum]
    constructor
    · intro h
      rcases Nat.eq_zero_or_pos (mg_sum f n) with z | z
      · exact ⟨n, by omega, by omega⟩
      · obtain ⟨i, h1, h2⟩ := ih.mp z
        exact ⟨i, by omega, h2⟩
    · rintro ⟨i, h1, h2⟩
      rcases Nat.lt_or_ge i n with z | z
      · have := ih.mpr ⟨i, z, h2⟩; omega
      · have e : i = n := by omega
        subst e; omega
def mg_ch : Nat → Nat → Nat
  | _, 0 => 1
  | 0, _ + 1 => 0
  | n + 1, k + 1 => mg_ch n k + mg_ch n (k + 1)
theorem mg_ch0 (n : Nat) : mg_ch n 0 = 1 := by cases n <;> rfl
theorem mg_chz : ∀ {n k : Nat}, n < k → mg_ch n k = 0
  | 0, k + 1, _ => rfl
  | n + 1, k + 1, h => by simp only [mg_ch]; rw [mg_chz (n := n) (k := k) (by omega), mg_chz (n := n) (k := k + 1) (by omega)]
  | _, 0, h => by omega
theorem mg_chp : ∀ {n k : Nat}, k ≤ n → 0 < mg_ch n k
  | n, 0, _ => by rw [mg_ch0]; omega
  | 0, k + 1, h => by omega
  | n + 1, k + 1, h => by simp only [mg_ch]; have := mg_chp (n := n) (k := k) (by omega); omega
theorem mg_abs : ∀ n k, (k + 1) * mg_ch (n + 1) (k + 1) = (n + 1) * mg_ch n k
  | 0, 0 => rfl
  | 0, k + 1 => by simp [mg_ch]
  | n + 1, 0 => by
    have h := mg_abs n 0
    have e : mg_ch (n + 1 + 1) (0 + 1) = mg_ch (n + 1) 0 + mg_ch (n + 1) (0 + 1) := rfl
    rw [e]
    simp only [mg_ch0] at h ⊢
    omega
  | n + 1, k + 1 => by
    have h1 := mg_abs n k
    have h2 := mg_abs n (k + 1)
    rw [mg_ch, Nat.mul_add, h2]
    have h3 : (k + 1 + 1) * mg_ch (n + 1) (k + 1) = (k + 1) * mg_ch (n + 1) (k + 1) + mg_ch (n + 1) (k + 1) := by rw [Nat.add_mul, Nat.one_mul]
    rw [h3, h1]
    have h4 : (n + 1 + 1) * mg_ch (n + 1) (k + 1) = (n + 1) * mg_ch (n + 1) (k + 1) + mg_ch (n + 1) (k + 1) := by rw [Nat.add_mul, Nat.one_mul]
    rw [h4]
    have h5 : (n + 1) * mg_ch (n + 1) (k + 1) = (n + 1) * mg_ch n k + (n + 1) * mg_ch n (k + 1) := by rw [mg_ch, Nat.mul_add]
    omega
/-- the step of the loop: ch n (k + 1) * (k + 1) = ch n k * (n - k) -/
theorem mg_chs : ∀ n k, (k + 1) * mg_ch n (k + 1) = (n - k) * mg_ch n k
  | 0, k => by simp [mg_ch]
  | n + 1, k => by
    rw [mg_abs]
    cases k with
    | zero => simp [mg_ch0]
    | succ k =>
      have h := mg_chs n k
      rw [mg_ch, Nat.mul_add]
      have e : n + 1 - (k + 1) = n - k := by omega
      rw [e, ← h]
      rcases Nat.lt_or_ge n k with z | z
      · rw [mg_chz (n := n) (k := k + 1) (by omega)]; simp
      · rw [← Nat.add_mul, show k + 1 + (n - k) = n + 1 by omega]
theorem mg_chb : ∀ n k, mg_ch n k ≤ 2 ^ n
  | n, 0 => by rw [mg_ch0]; exact Nat.one_le_two_pow
  | 0, k + 1 => by simp [mg_ch]
  | n + 1, k + 1 => by
    have := mg_chb n k
    have := mg_chb n (k + 1)
    simp only [mg_ch, Nat.pow_succ]; omega
theorem mg_pas (f : Nat → Nat) (s : Nat) : mg_sum (fun t => mg_ch (s + 1) t * f t) (s + 1 + 1) = mg_sum (fun t => mg_ch s t * f t) (s + 1) + mg_sum (fun t => mg_ch s t * f (t + 1)) (s + 1) := by
  rw [mg_sum_f]
  have e1 : mg_sum (fun i => mg_ch (s + 1) (i + 1) * f (i + 1)) (s + 1) = mg_sum (fun i => mg_ch s i * f (i + 1) + mg_ch s (i + 1) * f (i + 1)) (s + 1) :=
    mg_sum_eq (fun i _ => by rw [mg_ch, Nat.add_mul])
  rw [e1, mg_sum_add]
  have e2 := mg_sum_f (fun t => mg_ch s t * f t) (s + 1)
  have e3 : mg_sum (fun t => mg_ch s t * f t) (s + 1 + 1) = mg_sum (fun t => mg_ch s t * f t) (s + 1) := by
    rw [mg_sum, mg_chz (n := s) (k := s + 1) (by omega)]; omega
  simp only [mg_ch0] at e2 ⊢
  omega
theorem mg_subn0 (w : Nat → Int) (m : Int32) : mg_subn w 0 m = w := by funext j; simp [mg_subn]
theorem mg_subn1 (w : Nat → Int) (t : Nat) (m : Int32) : mg_subn (mg_sub w m) t m = mg_subn w (t + 1) m := by
  funext j
  simp only [mg_subn, mg_sub]
  split <;> omega
theorem mg_subnc (w : Nat → Int) (t : Nat) (m n : Int32) : mg_subn (mg_sub w n) t m = mg_sub (mg_subn w t m) n := by
  funext j
  simp only [mg_subn, mg_sub]
  omega
theorem mg_subna (w : Nat → Int) (t s : Nat) (m : Int32) : mg_subn (mg_subn w t m) s m = mg_subn w (t + s) m := by
  funext j
  simp only [mg_subn]
  split <;> omega
theorem mg_bin (L : (Nat → Int) → Nat) (m : Int32) : ∀ (s : Nat) (w : Nat → Int), mg_G L (List.replicate s m) w = mg_sum (fun t => mg_ch s t * L (mg_subn w t m)) (s + 1)
  | 0, w => by simp [mg_sum, mg_G, mg_ch0, mg_subn0]
  | s + 1, w => by
    rw [List.replicate_succ, mg_G, mg_bin L m s w, mg_bin L m s (mg_sub w m), mg_pas (fun t => L (mg_subn w t m)) s]
    congr 1
    exact mg_sum_eq (fun t _ => by rw [mg_subn1])
/-! kinds: (size, mask) -/
def mg_flat : List (Nat × Int32) → List Int32
  | [] => []
  | k :: ks => List.replicate k.1 k.2 ++ mg_flat ks
def mg_K (L : (Nat → Int) → Nat) : List (Nat × Int32) → (Nat → Int) → Nat
  | [], w => L w
  | k :: ks, w => mg_sum (fun t => mg_ch k.1 t * mg_K L ks (mg_subn w t k.2)) (k.1 + 1)
def mg_H (L : (Nat → Int) → Nat) : Nat → List (Nat × Int32) → (Nat → Int) → Nat
  | _, [], _ => 0
  | 0, k :: ks, w => mg_sum (fun t => t * (mg_ch k.1 t * mg_K L ks (mg_subn w t k.2))) (k.1 + 1)
  | i + 1, k :: ks, w => mg_sum (fun t => mg_ch k.1 t * mg_H L i ks (mg_subn w t k.2)) (k.1 + 1)
def mg_dec : Nat → List (Nat × Int32) → List (Nat × Int32)
  | _, [] => []
  | 0, k :: ks => (k.1 - 1, k.2) :: ks
  | i + 1, k :: ks => k :: mg_dec i ks
theorem mg_KG (L : (Nat → Int) → Nat) : ∀ (ks : List (Nat × Int32)) (w : Nat → Int), mg_K L ks w = mg_G L (mg_flat ks) w
  | [], _ => rfl
  | k :: ks, w => by
    rw [mg_K, mg_flat, mg_app, mg_bin]
    exact mg_sum_eq (fun t _ => by rw [mg_KG L ks])
theorem mg_HK (L : (Nat → Int) → Nat) : ∀ (i : Nat) (ks : List (Nat × Int32)) (s : Nat) (m : Int32) (w : Nat → Int), ks[i]? = some (s, m) → mg_H L i ks w = s * mg_K L (mg_dec i ks) (mg_sub w m)
  | i, [], s, m, w, h => by simp at h
  | 0, k :: ks, s, m, w, h => by
    simp at h
    subst h
    rw [mg_H, mg_dec, mg_K]
    cases s with
    | zero => simp [mg_sum]
    | succ s =>
      rw [mg_sum_f]
      simp only [Nat.add_sub_cancel, Nat.zero_mul, Nat.zero_add]
      rw [← mg_sum_mul]
      exact mg_sum_eq (fun t _ => by rw [← Nat.mul_assoc, mg_abs, mg_subn1, Nat.mul_assoc])
  | i + 1, k :: ks, s, m, w, h => by
    simp at h
    rw [mg_H, mg_dec, mg_K, ← mg_sum_mul]
    exact mg_sum_eq (fun t _ => by rw [mg_HK L i ks s m _ h, mg_subnc, Nat.mul_left_comm])
theorem mg_decp : ∀ (i : Nat) (ks : List (Nat × Int32)) (s : Nat) (m : Int32), ks[i]? = some (s + 1, m) → List.Perm (m :: mg_flat (mg_dec i ks)) (mg_flat ks)
  | i, [], s, m, h => by simp at h
  | 0, k :: ks, s, m, h => by
    simp at h
    subst h
    rw [mg_dec, mg_flat, mg_flat]
    simp only [Nat.add_sub_cancel]
    rw [List.replicate_succ, List.cons_append]
  | i + 1, k :: ks, s, m, h => by
    simp at h
    rw [mg_dec, mg_flat, mg_flat]
    exact (List.perm_middle.symm).trans ((mg_decp i ks s m h).append_left _)
def mg_cap (j : Nat) : List (Nat × Int32) → Nat
  | [] => 0
  | k :: ks => (if bt k.2 j = true then k.1 else 0) + mg_cap j ks
theorem mg_Kneg {L : (Nat → Int) → Nat} {j : Nat} (h : ∀ w : Nat → Int, w j < 0 → L w = 0) (ks : List (Nat × Int32)) (w : Nat → Int) (hw : w j < 0) : mg_K L ks w = 0 := by
  rw [mg_KG]; exact mg_neg h _ _ hw
theorem mg_Khigh {L : (Nat → Int) → Nat} {j : Nat} {r : Int} (h : ∀ w : Nat → Int, r < w j → L w = 0) : ∀ (ks : List (Nat × Int32)) (w : Nat → Int), r + (mg_cap j ks : Int) < w j → mg_K L ks w = 0
  | [], w, hw => h w (by simpa [mg_cap] using hw)
  | k :: ks, w, hw => by
    rw [mg_K]
    refine mg_sum_z (fun t ht => ?_)
    rw [mg_cap] at hw
    have e : r + (mg_cap j ks : Int) < mg_subn w t k.2 j := by
      simp only [mg_subn]
      by_cases hb : bt k.2 j = true
      · rw [if_pos hb] at hw ⊢; omega
      · rw [if_neg hb] at hw ⊢; omega
    rw [mg_Khigh h ks _ e, Nat.mul_zero]
theorem mg_Hneg {L : (Nat → Int) → Nat} {j : Nat} (h : ∀ w : Nat → Int, w j < 0 → L w = 0) : ∀ (i : Nat) (ks : List (Nat × Int32)) (w : Nat → Int), w j < 0 → mg_H L i ks w = 0
  | i, [], w, hw => by rw [mg_H]
  | 0, k :: ks, w, hw => by
    rw [mg_H]
    refine mg_sum_z (fun t ht => ?_)
    have e : mg_subn w t k.2 j < 0 := by simp only [mg_subn]; split <;> omega
    rw [mg_Kneg h ks _ e, Nat.mul_zero, Nat.mul_zero]
  | i + 1, k :: ks, w, hw => by
    rw [mg_H]
    refine mg_sum_z (fun t ht => ?_)
    have e : mg_subn w t k.2 j < 0 := by simp only [mg_subn]; split <;> omega
    rw [mg_Hneg h i ks _ e, Nat.mul_zero]
theorem mg_Hhigh {L : (Nat → Int) → Nat} {j : Nat} {r : Int} (h : ∀ w : Nat → Int, r < w j → L w = 0) : ∀ (i : Nat) (ks : List (Nat × Int32)) (w : Nat → Int), r + (mg_cap j ks : Int) < w j → mg_H L i ks w = 0
  | i, [], w, hw => by rw [mg_H]
  | 0, k :: ks, w, hw => by
    rw [mg_H]
    refine mg_sum_z (fun t ht => ?_)
    rw [mg_cap] at hw
    have e : r + (mg_cap j ks : Int) < mg_subn w t k.2 j := by
      simp only [mg_subn]
      by_cases hb : bt k.2 j = true
      · rw [if_pos hb] at hw ⊢; omega
      · rw [if_neg hb] at hw ⊢; omega
    rw [mg_Khigh h ks _ e, Nat.mul_zero, Nat.mul_zero]
  | i + 1, k :: ks, w, hw => by
    rw [mg_H]
    refine mg_sum_z (fun t ht => ?_)
    rw [mg_cap] at hw
    have e : r + (mg_cap j ks : Int) < mg_subn w t k.2 j := by
      simp only [mg_subn]
      by_cases hb : bt k.2 j = true
      · rw [if_pos hb] at hw ⊢; omega
      · rw [if_neg hb] at hw ⊢; omega
    rw [mg_Hhigh h i ks _ e, Nat.mul_zero]
/-! the total as clue 20 -/
def mg_set (w : Nat → Int) (t : Int) : Nat → Int := fun j => if j = 20 then t else w j
theorem mg_set_sub {w : Nat → Int} {t : Int} {m : Int32} (hm : bt m 20 = true) : mg_sub (mg_set w t) m = mg_set (mg_sub w m) (t - 1) := by
  funext j
  simp only [mg_sub, mg_set]
  by_cases h : j = 20
  · subst h; simp [hm]
  · simp [h]
/-- leaves: all clues of sh met -/
noncomputable def mg_L' (sh : Nat → Bool) (w : Nat → Int) : Nat := mg_i (∀ j, j < 20 → sh j = true → w j = 0)
/-- and the total too -/
noncomputable def mg_L (sh : Nat → Bool) (w : Nat → Int) : Nat := mg_i ((∀ j, j < 20 → sh j = true → w j = 0) ∧ w 20 = 0)
theorem mg_L_20 (sh : Nat → Bool) (w : Nat → Int) (t : Int) : mg_L sh (mg_set w t) = if t = 0 then mg_L' sh w else 0 := by
  unfold mg_L mg_L'
  by_cases h : t = 0
  · rw [if_pos h]
    apply mg_i_eq
    constructor
    · intro z j hj hs
      have := z.1 j hj hs
      simpa [mg_set, show j ≠ 20 by omega] using this
    · intro z
      refine ⟨fun j hj hs => ?_, by simp [mg_set, h]⟩
      have := z j hj hs
      simpa [mg_set, show j ≠ 20 by omega] using this
  · rw [if_neg h]
    apply mg_i_f
    intro z
    exact h (by simpa [mg_set] using z.2)
theorem mg_nt (sh : Nat → Bool) : ∀ (es : List Int32) (w : Nat → Int) (a : Nat), (∀ m, m ∈ es → bt m 20 = true) → a + es.length ≤ 20 → mg_sum (fun m => mg_G (mg_L sh) es (mg_set w ((m : Int) - a))) 21 = mg_G (mg_L' sh) es w
  | [], w, a, _, h => by
    simp only [mg_G]
    rw [mg_sum_pt (a := a) (by simp at h; omega)]
    · rw [mg_L_20, if_pos (by omega)]
    · intro i _ hn
      rw [mg_L_20, if_neg (by omega)]
  | e :: es, w, a, hm, h => by
    simp only [List.length_cons] at h
    have he : bt e 20 = true := hm e (by simp)
    have h1 := mg_nt sh es w a (fun m hm' => hm m (by simp [hm'])) (by omega)
    have h2 := mg_nt sh es (mg_sub w e) (a + 1) (fun m hm' => hm m (by simp [hm'])) (by omega)
    simp only [mg_G]
    rw [mg_sum_add, h1, ← h2]
    congr 1
    refine mg_sum_eq (fun m _ => ?_)
    rw [mg_set_sub he]
    congr 2
    omega
/-- the masks' bit 20 is nothing to the leaves without a total -/
theorem mg_b20 (sh : Nat → Bool) : ∀ (es fs : List Int32) (w w' : Nat → Int), es.length = fs.length → (∀ (i : Nat) (h1 : i < es.length) (h2 : i < fs.length) (j : Nat), j < 20 → bt es[i] j = bt fs[i] j) → (∀ j, j < 20 → w j = w' j) → mg_G (mg_L' sh) es w = mg_G (mg_L' sh) fs w'
  | [], [], w, w', _, _, hw => by
    simp only [mg_G, mg_L']
    apply mg_i_eq
    exact ⟨fun z j hj hs => by rw [← hw j hj]; exact z j hj hs, fun z j hj hs => by rw [hw j hj]; exact z j hj hs⟩
  | [], _ :: _, _, _, h, _, _ => by simp at h
  | _ :: _, [], _, _, h, _, _ => by simp at h
  | e :: es, f :: fs, w, w', h, hb, hw => by
    simp only [List.length_cons] at h
    have hb' : ∀ (i : Nat) (h1 : i < es.length) (h2 : i < fs.length) (j : Nat), j < 20 → bt es[i] j = bt fs[i] j := fun i h1 h2 j hj => by
      have := hb (i + 1) (by simp; omega) (by simp; omega) j hj
      simpa using this
    have h0 : ∀ j, j < 20 → bt e j = bt f j := fun j hj => by
      have := hb 0 (by simp) (by simp) j hj
      simpa using this
    simp only [mg_G]
    rw [mg_b20 sh es fs w w' (by omega) hb' hw, mg_b20 sh es fs (mg_sub w e) (mg_sub w' f) (by omega) hb' (fun j hj => by simp only [mg_sub]; rw [h0 j hj, hw j hj])]
def mg_C (r : Nat) (k : Int) : Nat := if k < 0 then 0 else mg_ch r k.toNat
theorem mg_Cs (r : Nat) (k : Int) : mg_C (r + 1) k = mg_C r k + mg_C r (k - 1) := by
  unfold mg_C
  by_cases h : k < 0
  · rw [if_pos h, if_pos h, if_pos (by omega)]
  · by_cases h0 : k = 0
    · subst h0; simp [mg_ch0]
    · rw [if_neg h, if_neg h, if_neg (by omega)]
      obtain ⟨n, hn⟩ : ∃ n : Nat, k = n + 1 := ⟨(k - 1).toNat, by omega⟩
      subst hn
      rw [show ((n : Int) + 1).toNat = n + 1 by omega, show ((n : Int) + 1 - 1).toNat = n by omega, mg_ch]
      omega
theorem mg_wt (sh : Nat → Bool) (b : Int32) (hb : ∀ j, bt b j = decide (j = 20)) (es : List Int32) (w : Nat → Int) (a : Nat) (ha : a + es.length ≤ 20) : ∀ (r : Nat) (T : Int),
    mg_sum (fun m => mg_G (mg_L sh) es (mg_set w ((m : Int) - a)) * mg_C r (T - m)) 21 = mg_G (mg_L sh) (List.replicate r b ++ es) (mg_set w (T - a))
  | 0, T => by
    have hC : ∀ k : Int, mg_C 0 k = if k = 0 then 1 else 0 := by
      intro k
      unfold mg_C
      by_cases h : k < 0
      · rw [if_pos h, if_neg (by omega)]
      · rw [if_neg h]
        by_cases h0 : k = 0
        · subst h0; simp [mg_ch0]
        · rw [if_neg h0, mg_chz (by omega)]
    simp only [List.replicate_zero, List.nil_append]
    by_cases h1 : 0 ≤ T ∧ T ≤ 20
    · rw [mg_sum_pt (a := T.toNat) (by omega)]
      · rw [hC, if_pos (by omega), Nat.mul_one]
        congr 2
        omega
      · intro i _ hn
        rw [hC, if_neg (by omega), Nat.mul_zero]
    · rw [mg_sum_z (fun i hi => by rw [hC, if_neg (by omega), Nat.mul_zero])]
      symm
      by_cases h2 : T < 0
      · refine mg_neg (j := 20) (fun w hw => mg_i_f (fun z => by omega)) _ _ ?_
        simp [mg_set]; omega
      · refine mg_high (j := 20) (r := 0) (fun w hw => mg_i_f (fun z => by omega)) _ _ ?_
        simp [mg_set]; omega
  | r + 1, T => by
    have h1 := mg_wt sh b hb es w a ha r T
    have h2 := mg_wt sh b hb es w a ha r (T - 1)
    rw [List.replicate_succ, List.cons_append, mg_G, mg_set_sub (by rw [hb]; rfl)]
    have e : mg_sub w b = fun j => if j = 20 then w 20 - 1 else w j := by
      funext j
      simp only [mg_sub, hb]
      by_cases z : j = 20 <;> simp [z]
    have e2 : mg_set (mg_sub w b) (T - a - 1) = mg_set w (T - 1 - a) := by
      funext j
      simp only [mg_set, e]
      by_cases z : j = 20
      · simp [z]; omega
      · simp [z]
    rw [e2, ← h1, ← h2, ← mg_sum_add]
    refine mg_sum_eq (fun m _ => ?_)
    rw [mg_Cs, Nat.mul_add, show T - 1 - (m : Int) = T - m - 1 by omega]
