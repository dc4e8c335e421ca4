-- PURE LAYER: the board's own sums and calls
theorem gX0_allRooms_L4_eq (F : Nat) (σ : St) (k : Int) (hp : 0 ≤ σ k 5 ∧ σ k 5 ≤ 6) : ∀ (m n : Nat) (s i : Int), 0 ≤ i → i + m = σ k 5 → m < n → gX0_allRooms_L4 F σ k n s i = some (s + sumN (σ (k + 1)) m i) := by
  intro m
  induction m with
  | zero =>
    intro n s i h1 h2 h3
    obtain ⟨n, rfl⟩ : ∃ n', n = n' + 1 := ⟨n - 1, by omega⟩
    rw [gX0_allRooms_L4, w32_id (a := i) (by omega), w32_id (a := σ k 5) (by omega), if_pos (by omega)]
    simp [sumN]
  | succ m ih =>
    intro n s i h1 h2 h3
    obtain ⟨n, rfl⟩ : ∃ n', n = n' + 1 := ⟨n - 1, by omega⟩
    rw [gX0_allRooms_L4, w32_id (a := i) (by omega), w32_id (a := σ k 5) (by omega), if_neg (by omega), gd_pos (by omega), ih n _ (i + 1) (by omega) (by omega) (by omega)]
    congr 1
    show _ = s + (σ (k + 1) i + sumN (σ (k + 1)) m (i + 1))
    omega
theorem gX0_allRooms_eq {F : Nat} (hF : 10 ≤ F) (σ : St) (k : Int) (hp : 0 ≤ σ k 5 ∧ σ k 5 ≤ 6) : gX0_allRooms F σ k = some (sumN (σ (k + 1)) (σ k 5).toNat 0) := by
  rw [gX0_allRooms, gX0_allRooms_L4_eq F σ k hp (σ k 5).toNat F 0 0 (by omega) (by omega) (by omega)]
  simp
theorem gX11_roomSum_L4_eq (F : Nat) (σ : St) (hp : 0 ≤ σ 143 0 ∧ σ 143 0 ≤ 6) : ∀ (m n : Nat) (s i : Int), 0 ≤ i → i + m = σ 143 0 → m < n → gX11_roomSum_L4 F σ n s i = some (s + sumN (σ 144) m i) := by
  intro m
  induction m with
  | zero =>
    intro n s i h1 h2 h3
    obtain ⟨n, rfl⟩ : ∃ n', n = n' + 1 := ⟨n - 1, by omega⟩
    rw [gX11_roomSum_L4, w32_id (a := i) (by omega), w32_id (a := σ 143 0) (by omega), if_pos (by omega)]
    simp [sumN]
  | succ m ih =>
    intro n s i h1 h2 h3
    obtain ⟨n, rfl⟩ : ∃ n', n = n' + 1 := ⟨n - 1, by omega⟩
    rw [gX11_roomSum_L4, w32_id (a := i) (by omega), w32_id (a := σ 143 0) (by omega), if_neg (by omega), gd_pos (by omega), ih n _ (i + 1) (by omega) (by omega) (by omega)]
    congr 1
    show _ = s + (σ 144 i + sumN (σ 144) m (i + 1))
    omega
theorem gX11_roomSum_eq {F : Nat} (hF : 10 ≤ F) (σ : St) (hp : 0 ≤ σ 143 0 ∧ σ 143 0 ≤ 6) : gX11_roomSum F σ = some (sumN (σ 144) (σ 143 0).toNat 0) := by
  rw [gX11_roomSum, gX11_roomSum_L4_eq F σ hp (σ 143 0).toNat F 0 0 (by omega) (by omega) (by omega)]
  simp
theorem gX11_came_L4_eq (F : Nat) (σ : St) (hp : 0 ≤ σ 143 4 ∧ σ 143 4 ≤ 9) : ∀ (m n : Nat) (s i : Int), 0 ≤ i → i + m = σ 143 4 → m < n → gX11_came_L4 F σ n s i = some (s + sumN (σ 173) m i) := by
  intro m
  induction m with
  | zero =>
    intro n s i h1 h2 h3
    obtain ⟨n, rfl⟩ : ∃ n', n = n' + 1 := ⟨n - 1, by omega⟩
    rw [gX11_came_L4, w32_id (a := i) (by omega), w32_id (a := σ 143 4) (by omega), if_pos (by omega)]
    simp [sumN]
  | succ m ih =>
    intro n s i h1 h2 h3
    obtain ⟨n, rfl⟩ : ∃ n', n = n' + 1 := ⟨n - 1, by omega⟩
    rw [gX11_came_L4, w32_id (a := i) (by omega), w32_id (a := σ 143 4) (by omega), if_neg (by omega), gd_pos (by omega), ih n _ (i + 1) (by omega) (by omega) (by omega)]
    congr 1
    show _ = s + (σ 173 i + sumN (σ 173) m (i + 1))
    omega
theorem gX11_came_eq {F : Nat} (hF : 20 ≤ F) (σ : St) (hp : 0 ≤ σ 143 4 ∧ σ 143 4 ≤ 9) : gX11_came F σ = some (sumN (σ 173) (σ 143 4).toNat 0) := by
  rw [gX11_came, gX11_came_L4_eq F σ hp (σ 143 4).toNat F 0 0 (by omega) (by omega) (by omega)]
  simp
