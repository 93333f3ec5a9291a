/-! kinds held in arrays -/
def mf_fl (sz : Nat → Nat) (m : Nat → Int32) : Nat → List Int32
  | 0 => []
  | n + 1 => mf_fl sz m n ++ List.replicate (sz n) (m n)
def mf_ks (sz : Nat → Nat) (m : Nat → Int32) (n : Nat) : List (Nat × Int32) := (List.range n).map (fun i => (sz i, m i))
theorem mf_ks_s (sz : Nat → Nat) (m : Nat → Int32) (n : Nat) : mf_ks sz m (n + 1) = mf_ks sz m n ++ [(sz n, m n)] := by
  simp [mf_ks, List.range_succ]
theorem mf_len (sz : Nat → Nat) (m : Nat → Int32) (n : Nat) : (mf_ks sz m n).length = n := by simp [mf_ks]
theorem mf_get (sz : Nat → Nat) (m : Nat → Int32) {n i : Nat} (h : i < n) : (mf_ks sz m n)[i]? = some (sz i, m i) := by
  simp [mf_ks, h]
theorem mf_flat (sz : Nat → Nat) (m : Nat → Int32) : ∀ n, mg_flat (mf_ks sz m n) = mf_fl sz m n
  | 0 => rfl
  | n + 1 => by rw [mf_ks_s, mc_flat_app, mf_flat sz m n, mc_flat1, mf_fl]
theorem mf_congr {sz sz' : Nat → Nat} {m m' : Nat → Int32} : ∀ {n : Nat}, (∀ i, i < n → sz' i = sz i ∧ m' i = m i) → mf_fl sz' m' n = mf_fl sz m n
  | 0, _ => rfl
  | n + 1, h => by rw [mf_fl, mf_fl, mf_congr (n := n) (fun i hi => h i (by omega)), (h n (by omega)).1, (h n (by omega)).2]
theorem mf_inc {sz sz' : Nat → Nat} {m : Nat → Int32} {k : Nat} (hk : sz' k = sz k + 1) : ∀ {n : Nat}, k < n → (∀ i, i < n → i ≠ k → sz' i = sz i) → List.Perm (mf_fl sz' m n) (m k :: mf_fl sz m n)
  | 0, h, _ => by omega
  | n + 1, h, hs => by
    rw [mf_fl, mf_fl]
    by_cases z : k = n
    · subst z
      rw [hk, List.replicate_succ, mf_congr (sz' := sz') (m' := m) (sz := sz) (m := m) (n := k) (fun i hi => ⟨hs i (by omega) (by omega), rfl⟩)]
      exact List.perm_middle
    · rw [hs n (by omega) (fun y => z y.symm)]
      exact (mf_inc hk (n := n) (by omega) (fun i hi hn => hs i (by omega) hn)).append_right _
theorem mf_drop (sz : Nat → Nat) (m : Nat → Int32) {n k : Nat} (h : k < n) : (mf_ks sz m n).drop k = (sz k, m k) :: (mf_ks sz m n).drop (k + 1) := by
  have hl : k < (mf_ks sz m n).length := by rw [mf_len]; exact h
  rw [List.drop_eq_getElem_cons hl]
  congr 1
  simp [mf_ks]
theorem mf_dropn (sz : Nat → Nat) (m : Nat → Int32) (n : Nat) : (mf_ks sz m n).drop n = [] := by
  rw [List.drop_eq_nil_iff, mf_len]; exact Nat.le_refl _
theorem mf_pos {sz : Nat → Nat} {m : Nat → Int32} {n : Nat} (h : ∀ i, i < n → 0 < sz i) : ∀ k, k ∈ mf_ks sz m n → 0 < k.1 := by
  intro k hk
  simp [mf_ks] at hk
  obtain ⟨i, hi, rfl⟩ := hk
  exact h i hi
theorem mf_le {sz : Nat → Nat} {m : Nat → Int32} : ∀ {n : Nat}, (∀ i, i < n → 0 < sz i) → n ≤ (mf_fl sz m n).length
  | 0, _ => Nat.zero_le _
  | n + 1, h => by
    have := mf_le (sz := sz) (m := m) (n := n) (fun i hi => h i (by omega))
    have := h n (by omega)
    rw [mf_fl, List.length_append, List.length_replicate]; omega
theorem mf_mem {sz : Nat → Nat} {m : Nat → Int32} {x : Int32} : ∀ {n : Nat}, x ∈ mf_fl sz m n → ∃ i, i < n ∧ m i = x
  | 0, h => by simp [mf_fl] at h
  | n + 1, h => by
    rw [mf_fl, List.mem_append] at h
    rcases h with h | h
    · obtain ⟨i, h1, h2⟩ := mf_mem (n := n) h
      exact ⟨i, by omega, h2⟩
    · exact ⟨n, by omega, (List.eq_of_mem_replicate h).symm⟩
/-- the list of links of a mask -/
def mf_lk (lst : List Nat) (m : Int32) : List Nat := lst.filter (fun j => bt m j)
theorem mf_lk_mem {lst : List Nat} {m : Int32} {j : Nat} : j ∈ mf_lk lst m ↔ j ∈ lst ∧ bt m j = true := by simp [mf_lk]
