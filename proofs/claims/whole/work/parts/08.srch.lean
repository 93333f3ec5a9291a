/-! the component's search, its mathematics -/
def ms_T : List (Nat × Int32) → Nat
  | [] => 1
  | k :: ks => 1 + (k.1 + 1) * (ms_T ks + 1)
def ms_w : List (Nat × Int32) → Nat
  | [] => 0
  | k :: ks => (if k.1 = 0 then 1 else k.1) + ms_w ks
theorem ms_p1 : ∀ s, s + 1 ≤ 2 ^ s
  | 0 => by decide
  | s + 1 => by have := ms_p1 s; rw [Nat.pow_succ]; omega
theorem ms_Tb : ∀ ks, ms_T ks + 3 ≤ 4 * 2 ^ ms_w ks
  | [] => by simp [ms_T, ms_w]
  | k :: ks => by
    have ih := ms_Tb ks
    rw [ms_T, ms_w]
    generalize ms_T ks = x at *
    rcases Nat.eq_zero_or_pos k.1 with h | h
    · rw [h, if_pos rfl, Nat.pow_add]
      have : (2 : Nat) ^ 1 = 2 := rfl
      rw [this]
      generalize 2 ^ ms_w ks = y at *
      omega
    · rw [if_neg (by omega), Nat.pow_add]
      obtain ⟨s, hs⟩ : ∃ s, k.1 = s + 1 := ⟨k.1 - 1, by omega⟩
      rw [hs]
      have h1 := ms_p1 (s + 1)
      have h2 : (s + 1 + 1) * (x + 3) ≤ 2 ^ (s + 1) * (4 * 2 ^ ms_w ks) := Nat.mul_le_mul h1 ih
      have h3 : (s + 1 + 1) * (x + 3) = (s + 1 + 1) * (x + 1) + (s + 1 + 1) * 2 := by rw [← Nat.mul_add]
      have h4 : 2 ^ (s + 1) * (4 * 2 ^ ms_w ks) = 4 * (2 ^ (s + 1) * 2 ^ ms_w ks) := Nat.mul_left_comm _ _ _
      omega
theorem ms_wl {ks : List (Nat × Int32)} (h : ∀ k, k ∈ ks → 0 < k.1) : ms_w ks = (mg_flat ks).length := by
  induction ks with
  | nil => rfl
  | cons k ks ih =>
    rw [ms_w, mg_flat, List.length_append, List.length_replicate, ih (fun x hx => h x (by simp [hx])), if_neg (by have := h k (by simp); omega)]
theorem ms_wa (a b : List (Nat × Int32)) : ms_w (a ++ b) = ms_w a + ms_w b := by
  induction a with
  | nil => simp [ms_w]
  | cons k a ih => rw [List.cons_append, ms_w, ms_w, ih]; omega
/-- the steps never run out -/
theorem ms_max {ks : List (Nat × Int32)} (h : ∀ k, k ∈ ks → 0 < k.1) (n : Nat) (m : Int32) (hl : (mg_flat ks).length + n ≤ 20) : ms_T ks ≤ 8388608 ∧ ms_T (ks ++ [(n, m)]) ≤ 8388608 := by
  have e1 := ms_Tb ks
  have e2 := ms_Tb (ks ++ [(n, m)])
  rw [ms_wa, ms_w, ms_w, ms_wl h] at e2
  rw [ms_wl h] at e1
  dsimp only at e2
  have m1 : 2 ^ (mg_flat ks).length ≤ 2 ^ 20 := Nat.pow_le_pow_right (by omega) (by omega)
  have m2 : 2 ^ ((mg_flat ks).length + ((if n = 0 then 1 else n) + 0)) ≤ 2 ^ 21 := Nat.pow_le_pow_right (by omega) (by split <;> omega)
  constructor <;> omega
/-- the leaf sees what is missing and what is too much -/
def ms_see (L : (Nat → Int) → Nat) (lst : List Nat) (r : Nat → Int) : Prop := ∀ j, j ∈ lst → (∀ w : Nat → Int, w j < 0 → L w = 0) ∧ (∀ w : Nat → Int, r j < w j → L w = 0)
/-- the numbers of mines that a kind can have -/
def ms_can (lk : List Nat) (s : Nat) (m : Int32) (r : Nat → Int) (ks : List (Nat × Int32)) (w : Nat → Int) (t : Nat) : Prop := t ≤ s ∧ ∀ j, j ∈ lk → (t : Int) ≤ w j ∧ w j ≤ (t : Int) + (r j + (mg_cap j ks : Int))
theorem ms_not {L : (Nat → Int) → Nat} {lst lk : List Nat} {r : Nat → Int} (hL : ms_see L lst r) {s : Nat} {m : Int32} {ks : List (Nat × Int32)} {w : Nat → Int} (hlk : ∀ j, j ∈ lk → j ∈ lst ∧ bt m j = true) {t : Nat} (ht : t ≤ s) (h : ¬ ms_can lk s m r ks w t) :
    mg_K L ks (mg_subn w t m) = 0 ∧ ∀ i, mg_H L i ks (mg_subn w t m) = 0 := by
  have h2 : ∃ j, j ∈ lk ∧ ¬ ((t : Int) ≤ w j ∧ w j ≤ (t : Int) + (r j + (mg_cap j ks : Int))) := by
    apply Classical.byContradiction
    intro z
    refine h ⟨ht, fun j hj => ?_⟩
    apply Classical.byContradiction
    intro y
    exact z ⟨j, hj, y⟩
  obtain ⟨j, hj, hn⟩ := h2
  obtain ⟨h1, hb⟩ := hlk j hj
  obtain ⟨l1, l2⟩ := hL j h1
  have e : mg_subn w t m j = w j - (t : Int) := by simp only [mg_subn, hb, if_true]
  by_cases z : (t : Int) ≤ w j
  · have hh : r j + (mg_cap j ks : Int) < mg_subn w t m j := by rw [e]; omega
    exact ⟨mg_Khigh l2 ks _ hh, fun i => mg_Hhigh l2 i ks _ hh⟩
  · have hh : mg_subn w t m j < 0 := by rw [e]; omega
    exact ⟨mg_Kneg l1 ks _ hh, fun i => mg_Hneg l1 i ks _ hh⟩
/-- what a kind has brought with fewer than t mines -/
def ms_PK (L : (Nat → Int) → Nat) (s : Nat) (m : Int32) (ks : List (Nat × Int32)) (w : Nat → Int) (t : Nat) : Nat := mg_sum (fun t => mg_ch s t * mg_K L ks (mg_subn w t m)) t
def ms_PH (L : (Nat → Int) → Nat) (i : Nat) (s : Nat) (m : Int32) (ks : List (Nat × Int32)) (w : Nat → Int) (t : Nat) : Nat :=
  match i with
  | 0 => mg_sum (fun t => t * (mg_ch s t * mg_K L ks (mg_subn w t m))) t
  | i + 1 => mg_sum (fun t => mg_ch s t * mg_H L i ks (mg_subn w t m)) t
theorem ms_end {L : (Nat → Int) → Nat} {lst lk : List Nat} {r : Nat → Int} (hL : ms_see L lst r) {s : Nat} {m : Int32} {ks : List (Nat × Int32)} {w : Nat → Int} (hlk : ∀ j, j ∈ lk → j ∈ lst ∧ bt m j = true) {f g : Nat} (hg : g ≤ s) (hc : ∀ t, ms_can lk s m r ks w t ↔ f ≤ t ∧ t ≤ g) :
    mg_K L ((s, m) :: ks) w = ms_PK L s m ks w (g + 1) ∧ ∀ i, mg_H L i ((s, m) :: ks) w = ms_PH L i s m ks w (g + 1) := by
  have hz : ∀ t, g + 1 ≤ t → t < s + 1 → ¬ ms_can lk s m r ks w t := fun t h1 h2 z => by have := (hc t).mp z; omega
  refine ⟨?_, fun i => ?_⟩
  · rw [mg_K]
    exact mg_sum_tail (by omega) (fun t h1 h2 => by rw [(ms_not hL hlk (by omega) (hz t h1 h2)).1, Nat.mul_zero])
  · cases i with
    | zero =>
      rw [mg_H]
      exact mg_sum_tail (by omega) (fun t h1 h2 => by rw [(ms_not hL hlk (by omega) (hz t h1 h2)).1, Nat.mul_zero, Nat.mul_zero])
    | succ i =>
      rw [mg_H]
      exact mg_sum_tail (by omega) (fun t h1 h2 => by rw [(ms_not hL hlk (by omega) (hz t h1 h2)).2, Nat.mul_zero])
theorem ms_beg {L : (Nat → Int) → Nat} {lst lk : List Nat} {r : Nat → Int} (hL : ms_see L lst r) {s : Nat} {m : Int32} {ks : List (Nat × Int32)} {w : Nat → Int} (hlk : ∀ j, j ∈ lk → j ∈ lst ∧ bt m j = true) {f g : Nat} (hf : f ≤ s + 1) (hc : ∀ t, ms_can lk s m r ks w t ↔ f ≤ t ∧ t ≤ g) :
    ms_PK L s m ks w f = 0 ∧ ∀ i, ms_PH L i s m ks w f = 0 := by
  have hz : ∀ t, t < f → ¬ ms_can lk s m r ks w t := fun t h1 z => by have := (hc t).mp z; omega
  refine ⟨mg_sum_z (fun t h => by rw [(ms_not hL hlk (by omega) (hz t h)).1, Nat.mul_zero]), fun i => ?_⟩
  cases i with
  | zero => exact mg_sum_z (fun t h => by rw [(ms_not hL hlk (by omega) (hz t h)).1, Nat.mul_zero, Nat.mul_zero])
  | succ i => exact mg_sum_z (fun t h => by rw [(ms_not hL hlk (by omega) (hz t h)).2, Nat.mul_zero])
theorem ms_none {L : (Nat → Int) → Nat} {lst lk : List Nat} {r : Nat → Int} (hL : ms_see L lst r) {s : Nat} {m : Int32} {ks : List (Nat × Int32)} {w : Nat → Int} (hlk : ∀ j, j ∈ lk → j ∈ lst ∧ bt m j = true) (hc : ∀ t, ¬ ms_can lk s m r ks w t) :
    mg_K L ((s, m) :: ks) w = 0 ∧ ∀ i, mg_H L i ((s, m) :: ks) w = 0 := by
  refine ⟨mg_sum_z (fun t h => by rw [(ms_not hL hlk (by omega) (hc t)).1, Nat.mul_zero]), fun i => ?_⟩
  cases i with
  | zero => exact mg_sum_z (fun t h => by rw [(ms_not hL hlk (by omega) (hc t)).1, Nat.mul_zero, Nat.mul_zero])
  | succ i => exact mg_sum_z (fun t h => by rw [(ms_not hL hlk (by omega) (hc t)).2, Nat.mul_zero])
/-- the needs stay within the room -/
def ms_In (lst : List Nat) (r : Nat → Int) (ks : List (Nat × Int32)) (w : Nat → Int) : Prop := ∀ j, j ∈ lst → 0 ≤ w j ∧ w j ≤ r j + (mg_cap j ks : Int)
theorem ms_step {lst lk : List Nat} {r : Nat → Int} {s : Nat} {m : Int32} {ks : List (Nat × Int32)} {w : Nat → Int} (h : ms_In lst r ((s, m) :: ks) w) (hlk : ∀ j, j ∈ lst → bt m j = true → j ∈ lk) {t : Nat} (hc : ms_can lk s m r ks w t) : ms_In lst r ks (mg_subn w t m) := by
  intro j hj
  have h1 := h j hj
  simp only [mg_cap] at h1
  simp only [mg_subn]
  by_cases hb : bt m j = true
  · have h2 := hc.2 j (hlk j hj hb)
    simp only [hb, if_true] at h1 ⊢
    omega
  · simp only [hb, if_false] at h1 ⊢
    simp at h1 ⊢
    omega
