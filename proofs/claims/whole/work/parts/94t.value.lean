-- PURE LAYER: what a run comes to
theorem value_4 {F : Nat} {σ : St} {k : Int} (hP : 0 ≤ σ (bd k) 5 ∧ σ (bd k) 5 ≤ 6) : ∀ (m n : Nat) (s i : Int), 0 ≤ i → i + m = σ (bd k) 5 → m < n → gX7_value_L4 F σ k n s i = some (s + sumN (σ (k + 2)) m i) := by
  intro m
  induction m with
  | zero =>
    intro n s i h1 h2 h3
    obtain ⟨n, rfl⟩ : ∃ n', n = n' + 1 := ⟨n - 1, by omega⟩
    rw [gX7_value_L4, w32_id (a := i) (by omega), w32_id (a := σ (bd k) 5) (by omega), if_pos (by omega)]
    simp [sumN]
  | succ m ih =>
    intro n s i h1 h2 h3
    obtain ⟨n, rfl⟩ : ∃ n', n = n' + 1 := ⟨n - 1, by omega⟩
    rw [gX7_value_L4, w32_id (a := i) (by omega), w32_id (a := σ (bd k) 5) (by omega), if_neg (by omega), gd_pos (by omega), ih n _ (i + 1) (by omega) (by omega) (by omega)]
    congr 1
    show _ = s + (σ (k + 2) i + sumN (σ (k + 2)) m (i + 1))
    omega
theorem value_eq {F : Nat} (hF : 100 ≤ F) {σ : St} {k : Int} (hP : 0 ≤ σ (bd k) 5 ∧ σ (bd k) 5 ≤ 6) : gX7_value F σ k = some (sumN (σ (k + 2)) (σ (bd k) 5).toNat 0) := by
  unfold gX7_value
  rw [value_4 hP (σ (bd k) 5).toNat F 0 0 (by omega) (by omega) (by omega), Int.zero_add]
theorem valueNow_4 {F : Nat} {σ : St} (hP : 0 ≤ σ 143 26 ∧ σ 143 26 ≤ 6) : ∀ (m n : Nat) (s i : Int), 0 ≤ i → i + m = σ 143 26 → m < n → gX11_valueNow_L4 F σ n s i = some (s + sumN (σ 163) m i) := by
  intro m
  induction m with
  | zero =>
    intro n s i h1 h2 h3
    obtain ⟨n, rfl⟩ : ∃ n', n = n' + 1 := ⟨n - 1, by omega⟩
    rw [gX11_valueNow_L4, w32_id (a := i) (by omega), w32_id (a := σ 143 26) (by omega), if_pos (by omega)]
    simp [sumN]
  | succ m ih =>
    intro n s i h1 h2 h3
    obtain ⟨n, rfl⟩ : ∃ n', n = n' + 1 := ⟨n - 1, by omega⟩
    rw [gX11_valueNow_L4, w32_id (a := i) (by omega), w32_id (a := σ 143 26) (by omega), if_neg (by omega), gd_pos (by omega), ih n _ (i + 1) (by omega) (by omega) (by omega)]
    congr 1
    show _ = s + (σ 163 i + sumN (σ 163) m (i + 1))
    omega
theorem valueNow_eq {F : Nat} (hF : 100 ≤ F) {σ : St} (hP : 0 ≤ σ 143 26 ∧ σ 143 26 ≤ 6) : gX11_valueNow F σ = some (sumN (σ 163) (σ 143 26).toNat 0) := by
  unfold gX11_valueNow
  rw [valueNow_4 hP (σ 143 26).toNat F 0 0 (by omega) (by omega) (by omega), Int.zero_add]
/-- the worth of guest g where it stands -/
def ktF (pair w : Int → Int) (g : Int) : Int := if pair g = -4 then 0 else w (6 * g + pair g)
def onF (pair : Int → Int) (g : Int) : Int := if pair g = -4 then 0 else 1
theorem kept_4 {F : Nat} {σ : St} {k : Int} (hB : BdOK σ (bd k)) (hS : StOK σ k) : ∀ (m n : Nat) (s i : Int), 0 ≤ i → i + m = σ (bd k) 6 → m < n → gX7_kept_L4 F σ k n s i = some (s + sumN (ktF (σ (k + 3)) (σ (bd k + 5))) m i) := by
  have hG := hB.2.1
  have hP := hB.1
  intro m
  induction m with
  | zero =>
    intro n s i h1 h2 h3
    obtain ⟨n, rfl⟩ : ∃ n', n = n' + 1 := ⟨n - 1, by omega⟩
    rw [gX7_kept_L4, w32_id (a := i) (by omega), w32_id (a := σ (bd k) 6) (by omega), if_pos (by omega)]
    simp [sumN]
  | succ m ih =>
    intro n s i h1 h2 h3
    obtain ⟨n, rfl⟩ : ∃ n', n = n' + 1 := ⟨n - 1, by omega⟩
    have r := (hS.1 i h1 (by omega)).1
    have e : sumN (ktF (σ (k + 3)) (σ (bd k + 5))) (m + 1) i = ktF (σ (k + 3)) (σ (bd k + 5)) i + sumN (ktF (σ (k + 3)) (σ (bd k + 5))) m (i + 1) := rfl
    rw [gX7_kept_L4, w32_id (a := i) (by omega), w32_id (a := σ (bd k) 6) (by omega), if_neg (by omega), gd_pos (by omega), w32_id (a := σ (k + 3) i) (by omega), e]
    unfold gX7_kept_L43 ktF
    by_cases q : σ (k + 3) i = -4
    · rw [if_pos q, if_pos q, ih n _ (i + 1) (by omega) (by omega) (by omega), Int.zero_add]; rfl
    · rw [if_neg q, if_neg q, gd_pos (by omega), worthAt_eq (by omega) (by omega), Option.bind_some, ih n _ (i + 1) (by omega) (by omega) (by omega), Int.add_assoc]; rfl
theorem kept_eq {F : Nat} (hF : 100 ≤ F) {σ : St} {k : Int} (hB : BdOK σ (bd k)) (hS : StOK σ k) : gX7_kept F σ k = some (sumN (ktF (σ (k + 3)) (σ (bd k + 5))) (σ (bd k) 6).toNat 0) := by
  have hG := hB.2.1
  unfold gX7_kept
  rw [kept_4 hB hS (σ (bd k) 6).toNat F 0 0 (by omega) (by omega) (by omega), Int.zero_add]
theorem paired_4 {F : Nat} {σ : St} {k : Int} (hB : BdOK σ (bd k)) (hS : StOK σ k) : ∀ (m n : Nat) (s i : Int), 0 ≤ i → i + m = σ (bd k) 6 → m < n → gX7_paired_L4 F σ k n s i = some (s + sumN (onF (σ (k + 3))) m i) := by
  have hG := hB.2.1
  have hP := hB.1
  intro m
  induction m with
  | zero =>
    intro n s i h1 h2 h3
    obtain ⟨n, rfl⟩ : ∃ n', n = n' + 1 := ⟨n - 1, by omega⟩
    rw [gX7_paired_L4, w32_id (a := i) (by omega), w32_id (a := σ (bd k) 6) (by omega), if_pos (by omega)]
    simp [sumN]
  | succ m ih =>
    intro n s i h1 h2 h3
    obtain ⟨n, rfl⟩ : ∃ n', n = n' + 1 := ⟨n - 1, by omega⟩
    have r := (hS.1 i h1 (by omega)).1
    have e : sumN (onF (σ (k + 3))) (m + 1) i = onF (σ (k + 3)) i + sumN (onF (σ (k + 3))) m (i + 1) := rfl
    rw [gX7_paired_L4, w32_id (a := i) (by omega), w32_id (a := σ (bd k) 6) (by omega), if_neg (by omega), gd_pos (by omega), w32_id (a := σ (k + 3) i) (by omega), e]
    unfold gX7_paired_L29
    have f0 : σ (k + 3) i = -4 → onF (σ (k + 3)) i = 0 := fun q => if_pos q
    have f1 : ¬ σ (k + 3) i = -4 → onF (σ (k + 3)) i = 1 := fun q => if_neg q
    by_cases q : σ (k + 3) i = -4
    · rw [if_pos q, f0 q, ih n _ (i + 1) (by omega) (by omega) (by omega), Int.zero_add]
    · rw [if_neg q, f1 q, ih n _ (i + 1) (by omega) (by omega) (by omega), Int.add_assoc]
theorem paired_eq {F : Nat} (hF : 100 ≤ F) {σ : St} {k : Int} (hB : BdOK σ (bd k)) (hS : StOK σ k) : gX7_paired F σ k = some (sumN (onF (σ (k + 3))) (σ (bd k) 6).toNat 0) := by
  have hG := hB.2.1
  unfold gX7_paired
  rw [paired_4 hB hS (σ (bd k) 6).toNat F 0 0 (by omega) (by omega) (by omega), Int.zero_add]
theorem keptNow_4 {F : Nat} {σ : St} (h : MOK σ) : ∀ (m n : Nat) (s i : Int), 0 ≤ i → i + m = σ 143 27 → m < n → gX11_keptNow_L4 F σ n s i = some (s + sumN (ktF (σ 164) (σ 162)) m i) := by
  have hG := h.2.1
  have hP := h.1
  intro m
  induction m with
  | zero =>
    intro n s i h1 h2 h3
    obtain ⟨n, rfl⟩ : ∃ n', n = n' + 1 := ⟨n - 1, by omega⟩
    rw [gX11_keptNow_L4, w32_id (a := i) (by omega), w32_id (a := σ 143 27) (by omega), if_pos (by omega)]
    simp [sumN]
  | succ m ih =>
    intro n s i h1 h2 h3
    obtain ⟨n, rfl⟩ : ∃ n', n = n' + 1 := ⟨n - 1, by omega⟩
    have r := (h.2.2.2.2.1 i h1 (by omega)).1
    have e : sumN (ktF (σ 164) (σ 162)) (m + 1) i = ktF (σ 164) (σ 162) i + sumN (ktF (σ 164) (σ 162)) m (i + 1) := rfl
    rw [gX11_keptNow_L4, w32_id (a := i) (by omega), w32_id (a := σ 143 27) (by omega), if_neg (by omega), gd_pos (by omega), w32_id (a := σ 164 i) (by omega), e]
    unfold gX11_keptNow_L44
    have f0 : σ 164 i = -4 → ktF (σ 164) (σ 162) i = 0 := fun q => if_pos q
    have f1 : ¬ σ 164 i = -4 → ktF (σ 164) (σ 162) i = σ 162 (6 * i + σ 164 i) := fun q => if_neg q
    by_cases q : σ 164 i = -4
    · rw [if_neg (fun z => z q), f0 q, ih n _ (i + 1) (by omega) (by omega) (by omega), Int.add_assoc]
    · rw [if_pos q, f1 q, w32_id (a := 6 * i + σ 164 i) (by omega), gd_pos (by omega), gd_pos (by omega), ih n _ (i + 1) (by omega) (by omega) (by omega), Int.add_assoc]
theorem keptNow_eq {F : Nat} (hF : 100 ≤ F) {σ : St} (h : MOK σ) : gX11_keptNow F σ = some (sumN (ktF (σ 164) (σ 162)) (σ 143 27).toNat 0) := by
  have hG := h.2.1
  unfold gX11_keptNow
  rw [keptNow_4 h (σ 143 27).toNat F 0 0 (by omega) (by omega) (by omega), Int.zero_add]
