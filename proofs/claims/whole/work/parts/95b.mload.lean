-- PURE LAYER: the reference's market, loaded, stored, written down
theorem loadMarket_46 {F : Nat} : ∀ (m n : Nat) (i : Int) (σ : St), 0 ≤ i → i + m = σ 143 0 → σ 143 0 ≤ 6 → m < n → ∃ σ', gX11_loadMarket_L46 F n i σ = some σ' ∧ ∀ a b, σ' a b = if a = 143 ∧ b = 35 then σ 143 53 else if a = 163 ∧ i ≤ b ∧ b < σ 143 0 then σ 176 b else σ a b := by
  intro m
  induction m with
  | zero =>
    intro n i σ h1 h2 h4 h3
    obtain ⟨n, rfl⟩ : ∃ n', n = n' + 1 := ⟨n - 1, by omega⟩
    refine ⟨_, by rw [gX11_loadMarket_L46, w32_id (a := i) (by omega), w32_id (a := σ 143 0) (by omega), if_pos (by omega)], fun a b => ?_⟩
    rw [up_at, if_neg (show ¬ (a = 163 ∧ i ≤ b ∧ b < σ 143 0) by omega)]
  | succ m ih =>
    intro n i σ h1 h2 h4 h3
    obtain ⟨n, rfl⟩ : ∃ n', n = n' + 1 := ⟨n - 1, by omega⟩
    have u : ∀ c b, c ≠ 163 → up σ 163 i (σ 176 i) c b = σ c b := fun c b q => by rw [up_at, if_neg (by omega)]
    obtain ⟨σ', e, f⟩ := ih n (i + 1) (up σ 163 i (σ 176 i)) (by omega) (by rw [u 143 0 (by omega)]; omega) (by rw [u 143 0 (by omega)]; omega) (by omega)
    refine ⟨σ', by rw [gX11_loadMarket_L46, w32_id (a := i) (by omega), w32_id (a := σ 143 0) (by omega), if_neg (by omega), gd_pos (by omega), gd_pos (by omega), e], fun a b => ?_⟩
    rw [f, u 143 53 (by omega), u 143 0 (by omega), u 176 b (by omega), up_at]
    by_cases q : a = 163 ∧ b = i
    · obtain ⟨rfl, rfl⟩ := q
      rw [if_neg (by omega), if_neg (by omega), if_pos ⟨rfl, rfl⟩, if_neg (by omega), if_pos (by omega)]
    · have k1 : (a = 163 ∧ i + 1 ≤ b ∧ b < σ 143 0) = (a = 163 ∧ i ≤ b ∧ b < σ 143 0) := propext (by omega)
      simp only [if_neg q, k1]
theorem loadMarket_6 {F : Nat} (hF : 100 ≤ F) : ∀ (m n : Nat) (i : Int) (σ : St), 0 ≤ i → i + m = σ 143 4 → σ 143 4 ≤ 9 → 0 ≤ σ 143 0 ∧ σ 143 0 ≤ 6 → m < n → ∃ σ', gX11_loadMarket_L6 F n i σ = some σ' ∧ ∀ a b, σ' a b = if a = 143 ∧ b = 35 then σ 143 53 else if a = 163 ∧ 0 ≤ b ∧ b < σ 143 0 then σ 176 b else if a = 164 ∧ i ≤ b ∧ b < σ 143 4 then σ 174 b else if a = 165 ∧ i ≤ b ∧ b < σ 143 4 then σ 175 b else σ a b := by
  intro m
  induction m with
  | zero =>
    intro n i σ h1 h2 h4 h5 h3
    obtain ⟨n, rfl⟩ : ∃ n', n = n' + 1 := ⟨n - 1, by omega⟩
    obtain ⟨σ', e, f⟩ := loadMarket_46 (F := F) (σ 143 0).toNat F 0 σ (by omega) (by omega) (by omega) (by omega)
    refine ⟨σ', by rw [gX11_loadMarket_L6, w32_id (a := i) (by omega), w32_id (a := σ 143 4) (by omega), if_pos (by omega), e], fun a b => ?_⟩
    rw [f, if_neg (show ¬ (a = 164 ∧ i ≤ b ∧ b < σ 143 4) by omega), if_neg (show ¬ (a = 165 ∧ i ≤ b ∧ b < σ 143 4) by omega)]
  | succ m ih =>
    intro n i σ h1 h2 h4 h5 h3
    obtain ⟨n, rfl⟩ : ∃ n', n = n' + 1 := ⟨n - 1, by omega⟩
    have e1 : up σ 164 i (σ 174 i) 175 i = σ 175 i := by rw [up_at, if_neg (by omega)]
    have u : ∀ c b, c ≠ 164 → c ≠ 165 → up (up σ 164 i (σ 174 i)) 165 i (σ 175 i) c b = σ c b := fun c b q1 q2 => by rw [up_at, if_neg (by omega), up_at, if_neg (by omega)]
    obtain ⟨σ', e, f⟩ := ih n (i + 1) (up (up σ 164 i (σ 174 i)) 165 i (σ 175 i)) (by omega) (by rw [u 143 4 (by omega) (by omega)]; omega) (by rw [u 143 4 (by omega) (by omega)]; omega) (by rw [u 143 0 (by omega) (by omega)]; omega) (by omega)
    refine ⟨σ', by rw [gX11_loadMarket_L6, w32_id (a := i) (by omega), w32_id (a := σ 143 4) (by omega), if_neg (by omega), gd_pos (by omega), gd_pos (by omega), gd_pos (by omega), gd_pos (by omega), e1, e], fun a b => ?_⟩
    rw [f, u 143 53 (by omega) (by omega), u 143 0 (by omega) (by omega), u 143 4 (by omega) (by omega), u 176 b (by omega) (by omega), u 174 b (by omega) (by omega), u 175 b (by omega) (by omega), up_at, up_at]
    by_cases q : (a = 164 ∨ a = 165) ∧ b = i
    · obtain ⟨q, rfl⟩ := q
      rcases q with rfl | rfl
      · rw [if_neg (by omega), if_neg (by omega), if_neg (by omega), if_neg (by omega), if_neg (by omega), if_pos ⟨rfl, rfl⟩, if_neg (by omega), if_neg (by omega), if_pos (by omega)]
      · rw [if_neg (by omega), if_neg (by omega), if_neg (by omega), if_neg (by omega), if_pos ⟨rfl, rfl⟩, if_neg (by omega), if_neg (by omega), if_neg (by omega), if_pos (by omega)]
    · have k1 : (a = 164 ∧ i + 1 ≤ b ∧ b < σ 143 4) = (a = 164 ∧ i ≤ b ∧ b < σ 143 4) := propext (by omega)
      have k2 : (a = 165 ∧ i + 1 ≤ b ∧ b < σ 143 4) = (a = 165 ∧ i ≤ b ∧ b < σ 143 4) := propext (by omega)
      have k3 : ¬ (a = 164 ∧ b = i) := by omega
      have k4 : ¬ (a = 165 ∧ b = i) := by omega
      simp only [if_neg k3, if_neg k4, k1, k2]
theorem storeMarket_42 {F : Nat} : ∀ (m n : Nat) (i : Int) (σ : St), 0 ≤ i → i + m = σ 143 0 → σ 143 0 ≤ 6 → m < n → ∃ σ', gX11_storeMarket_L42 F n i σ = some σ' ∧ ∀ a b, σ' a b = if a = 143 ∧ b = 53 then σ 143 35 else if a = 176 ∧ i ≤ b ∧ b < σ 143 0 then σ 163 b else σ a b := by
  intro m
  induction m with
  | zero =>
    intro n i σ h1 h2 h4 h3
    obtain ⟨n, rfl⟩ : ∃ n', n = n' + 1 := ⟨n - 1, by omega⟩
    refine ⟨_, by rw [gX11_storeMarket_L42, w32_id (a := i) (by omega), w32_id (a := σ 143 0) (by omega), if_pos (by omega)], fun a b => ?_⟩
    rw [up_at, if_neg (show ¬ (a = 176 ∧ i ≤ b ∧ b < σ 143 0) by omega)]
  | succ m ih =>
    intro n i σ h1 h2 h4 h3
    obtain ⟨n, rfl⟩ : ∃ n', n = n' + 1 := ⟨n - 1, by omega⟩
    have u : ∀ c b, c ≠ 176 → up σ 176 i (σ 163 i) c b = σ c b := fun c b q => by rw [up_at, if_neg (by omega)]
    obtain ⟨σ', e, f⟩ := ih n (i + 1) (up σ 176 i (σ 163 i)) (by omega) (by rw [u 143 0 (by omega)]; omega) (by rw [u 143 0 (by omega)]; omega) (by omega)
    refine ⟨σ', by rw [gX11_storeMarket_L42, w32_id (a := i) (by omega), w32_id (a := σ 143 0) (by omega), if_neg (by omega), gd_pos (by omega), gd_pos (by omega), e], fun a b => ?_⟩
    rw [f, u 143 35 (by omega), u 143 0 (by omega), u 163 b (by omega), up_at]
    by_cases q : a = 176 ∧ b = i
    · obtain ⟨rfl, rfl⟩ := q
      rw [if_neg (by omega), if_neg (by omega), if_pos ⟨rfl, rfl⟩, if_neg (by omega), if_pos (by omega)]
    · have k1 : (a = 176 ∧ i + 1 ≤ b ∧ b < σ 143 0) = (a = 176 ∧ i ≤ b ∧ b < σ 143 0) := propext (by omega)
      simp only [if_neg q, k1]
theorem storeMarket_2 {F : Nat} (hF : 100 ≤ F) : ∀ (m n : Nat) (i : Int) (σ : St), 0 ≤ i → i + m = σ 143 4 → σ 143 4 ≤ 9 → 0 ≤ σ 143 0 ∧ σ 143 0 ≤ 6 → m < n → ∃ σ', gX11_storeMarket_L2 F n i σ = some σ' ∧ ∀ a b, σ' a b = if a = 143 ∧ b = 53 then σ 143 35 else if a = 176 ∧ 0 ≤ b ∧ b < σ 143 0 then σ 163 b else if a = 174 ∧ i ≤ b ∧ b < σ 143 4 then σ 164 b else if a = 175 ∧ i ≤ b ∧ b < σ 143 4 then σ 165 b else σ a b := by
  intro m
  induction m with
  | zero =>
    intro n i σ h1 h2 h4 h5 h3
    obtain ⟨n, rfl⟩ : ∃ n', n = n' + 1 := ⟨n - 1, by omega⟩
    obtain ⟨σ', e, f⟩ := storeMarket_42 (F := F) (σ 143 0).toNat F 0 σ (by omega) (by omega) (by omega) (by omega)
    refine ⟨σ', by rw [gX11_storeMarket_L2, w32_id (a := i) (by omega), w32_id (a := σ 143 4) (by omega), if_pos (by omega), e], fun a b => ?_⟩
    rw [f, if_neg (show ¬ (a = 174 ∧ i ≤ b ∧ b < σ 143 4) by omega), if_neg (show ¬ (a = 175 ∧ i ≤ b ∧ b < σ 143 4) by omega)]
  | succ m ih =>
    intro n i σ h1 h2 h4 h5 h3
    obtain ⟨n, rfl⟩ : ∃ n', n = n' + 1 := ⟨n - 1, by omega⟩
    have e1 : up σ 174 i (σ 164 i) 165 i = σ 165 i := by rw [up_at, if_neg (by omega)]
    have u : ∀ c b, c ≠ 174 → c ≠ 175 → up (up σ 174 i (σ 164 i)) 175 i (σ 165 i) c b = σ c b := fun c b q1 q2 => by rw [up_at, if_neg (by omega), up_at, if_neg (by omega)]
    obtain ⟨σ', e, f⟩ := ih n (i + 1) (up (up σ 174 i (σ 164 i)) 175 i (σ 165 i)) (by omega) (by rw [u 143 4 (by omega) (by omega)]; omega) (by rw [u 143 4 (by omega) (by omega)]; omega) (by rw [u 143 0 (by omega) (by omega)]; omega) (by omega)
    refine ⟨σ', by rw [gX11_storeMarket_L2, w32_id (a := i) (by omega), w32_id (a := σ 143 4) (by omega), if_neg (by omega), gd_pos (by omega), gd_pos (by omega), gd_pos (by omega), gd_pos (by omega), e1, e], fun a b => ?_⟩
    rw [f, u 143 35 (by omega) (by omega), u 143 0 (by omega) (by omega), u 143 4 (by omega) (by omega), u 163 b (by omega) (by omega), u 164 b (by omega) (by omega), u 165 b (by omega) (by omega), up_at, up_at]
    by_cases q : (a = 174 ∨ a = 175) ∧ b = i
    · obtain ⟨q, rfl⟩ := q
      rcases q with rfl | rfl
      · rw [if_neg (by omega), if_neg (by omega), if_neg (by omega), if_neg (by omega), if_neg (by omega), if_pos ⟨rfl, rfl⟩, if_neg (by omega), if_neg (by omega), if_pos (by omega)]
      · rw [if_neg (by omega), if_neg (by omega), if_neg (by omega), if_neg (by omega), if_pos ⟨rfl, rfl⟩, if_neg (by omega), if_neg (by omega), if_neg (by omega), if_pos (by omega)]
    · have k1 : (a = 174 ∧ i + 1 ≤ b ∧ b < σ 143 4) = (a = 174 ∧ i ≤ b ∧ b < σ 143 4) := propext (by omega)
      have k2 : (a = 175 ∧ i + 1 ≤ b ∧ b < σ 143 4) = (a = 175 ∧ i ≤ b ∧ b < σ 143 4) := propext (by omega)
      have k3 : ¬ (a = 174 ∧ b = i) := by omega
      have k4 : ¬ (a = 175 ∧ b = i) := by omega
      simp only [if_neg k3, if_neg k4, k1, k2]
theorem record_72 {F : Nat} {k : Int} (hk : 0 ≤ k ∧ k ≤ 1000) : ∀ (m n : Nat) (i : Int) (σ : St), 0 ≤ i → i + m = 6 → m < n → ∃ σ', gX11_record_L72 F n k i σ = some σ' ∧ ∀ a b, σ' a b = if a = 143 ∧ b = 54 then σ 143 54 + 1 else if a = 177 ∧ b = k + 34 then σ 143 4 else if a = 177 ∧ b = k + 33 then σ 143 53 else if a = 177 ∧ k + 27 + i ≤ b ∧ b < k + 33 then σ 176 (b - (k + 27)) else σ a b := by
  intro m
  induction m with
  | zero =>
    intro n i σ h1 h2 h3
    obtain ⟨n, rfl⟩ : ∃ n', n = n' + 1 := ⟨n - 1, by omega⟩
    have e1 : up σ 177 (k + 33) (σ 143 53) 143 4 = σ 143 4 := by rw [up_at, if_neg (by omega)]
    have e2 : up (up σ 177 (k + 33) (σ 143 53)) 177 (k + 34) (σ 143 4) 143 54 = σ 143 54 := by rw [up_at, if_neg (by omega), up_at, if_neg (by omega)]
    refine ⟨_, by rw [gX11_record_L72, w32_id (a := i) (by omega), if_pos (by omega), w32_id (a := k + 33) (by omega), w32_id (a := k + 34) (by omega), gd_pos (by omega), gd_pos (by omega), e1, e2], fun a b => ?_⟩
    rw [up_at, up_at, up_at, if_neg (show ¬ (a = 177 ∧ k + 27 + i ≤ b ∧ b < k + 33) by omega)]
  | succ m ih =>
    intro n i σ h1 h2 h3
    obtain ⟨n, rfl⟩ : ∃ n', n = n' + 1 := ⟨n - 1, by omega⟩
    have u : ∀ c b, c ≠ 177 → up σ 177 (k + 27 + i) (σ 176 i) c b = σ c b := fun c b q => by rw [up_at, if_neg (by omega)]
    obtain ⟨σ', e, f⟩ := ih n (i + 1) (up σ 177 (k + 27 + i) (σ 176 i)) (by omega) (by omega) (by omega)
    refine ⟨σ', by rw [gX11_record_L72, w32_id (a := i) (by omega), if_neg (by omega), gd_pos (by omega), w32_id (a := k + 27 + i) (by omega), gd_pos (by omega), e], fun a b => ?_⟩
    rw [f, u 143 54 (by omega), u 143 4 (by omega), u 143 53 (by omega), u 176 _ (by omega), up_at]
    by_cases q : a = 177 ∧ b = k + 27 + i
    · obtain ⟨rfl, rfl⟩ := q
      rw [if_neg (by omega), if_neg (by omega), if_neg (by omega), if_neg (by omega), if_pos ⟨rfl, rfl⟩, if_neg (by omega), if_neg (by omega), if_neg (by omega), if_pos (by omega), show k + 27 + i - (k + 27) = i by omega]
    · have k1 : (a = 177 ∧ k + 27 + (i + 1) ≤ b ∧ b < k + 33) = (a = 177 ∧ k + 27 + i ≤ b ∧ b < k + 33) := propext (by omega)
      simp only [if_neg q, k1]
theorem record_10 {F : Nat} (hF : 100 ≤ F) {k : Int} (hk : 0 ≤ k ∧ k ≤ 1000) : ∀ (m n : Nat) (i : Int) (σ : St), 0 ≤ i → i + m = 9 → m < n → ∃ σ', gX11_record_L10 F n k i σ = some σ' ∧ ∀ a b, σ' a b = if a = 143 ∧ b = 54 then σ 143 54 + 1 else if a = 177 ∧ b = k + 34 then σ 143 4 else if a = 177 ∧ b = k + 33 then σ 143 53 else if a = 177 ∧ k + 27 ≤ b ∧ b < k + 33 then σ 176 (b - (k + 27)) else if a = 177 ∧ k + 18 + i ≤ b ∧ b < k + 27 then σ 175 (b - (k + 18)) else if a = 177 ∧ k + 9 + i ≤ b ∧ b < k + 18 then σ 174 (b - (k + 9)) else if a = 177 ∧ k + i ≤ b ∧ b < k + 9 then σ 173 (b - k) else σ a b := by
  intro m
  induction m with
  | zero =>
    intro n i σ h1 h2 h3
    obtain ⟨n, rfl⟩ : ∃ n', n = n' + 1 := ⟨n - 1, by omega⟩
    obtain ⟨σ', e, f⟩ := record_72 (F := F) hk 6 F 0 σ (by omega) (by omega) (by omega)
    refine ⟨σ', by rw [gX11_record_L10, w32_id (a := i) (by omega), if_pos (by omega), e], fun a b => ?_⟩
    rw [f, if_neg (show ¬ (a = 177 ∧ k + 18 + i ≤ b ∧ b < k + 27) by omega), if_neg (show ¬ (a = 177 ∧ k + 9 + i ≤ b ∧ b < k + 18) by omega), if_neg (show ¬ (a = 177 ∧ k + i ≤ b ∧ b < k + 9) by omega), Int.add_zero]
  | succ m ih =>
    intro n i σ h1 h2 h3
    obtain ⟨n, rfl⟩ : ∃ n', n = n' + 1 := ⟨n - 1, by omega⟩
    have e1 : up σ 177 (k + i) (σ 173 i) 174 i = σ 174 i := by rw [up_at, if_neg (by omega)]
    have e2 : up (up σ 177 (k + i) (σ 173 i)) 177 (k + 9 + i) (σ 174 i) 175 i = σ 175 i := by rw [up_at, if_neg (by omega), up_at, if_neg (by omega)]
    have u : ∀ c b, c ≠ 177 → up (up (up σ 177 (k + i) (σ 173 i)) 177 (k + 9 + i) (σ 174 i)) 177 (k + 18 + i) (σ 175 i) c b = σ c b := fun c b q => by rw [up_at, if_neg (by omega), up_at, if_neg (by omega), up_at, if_neg (by omega)]
    obtain ⟨σ', e, f⟩ := ih n (i + 1) (up (up (up σ 177 (k + i) (σ 173 i)) 177 (k + 9 + i) (σ 174 i)) 177 (k + 18 + i) (σ 175 i)) (by omega) (by omega) (by omega)
    refine ⟨σ', by rw [gX11_record_L10, w32_id (a := i) (by omega), if_neg (by omega), w32_id (a := k + i) (by omega), w32_id (a := k + 9 + i) (by omega), w32_id (a := k + 18 + i) (by omega), gd_pos (by omega), gd_pos (by omega), gd_pos (by omega), gd_pos (by omega), gd_pos (by omega), gd_pos (by omega), e1, e2, e], fun a b => ?_⟩
    rw [f, u 143 54 (by omega), u 143 4 (by omega), u 143 53 (by omega), u 176 _ (by omega), u 175 _ (by omega), u 174 _ (by omega), u 173 _ (by omega)]
    by_cases q : a = 177 ∧ (b = k + i ∨ b = k + 9 + i ∨ b = k + 18 + i)
    · obtain ⟨rfl, q⟩ := q
      rcases q with rfl | rfl | rfl
      · have v : up (up (up σ 177 (k + i) (σ 173 i)) 177 (k + 9 + i) (σ 174 i)) 177 (k + 18 + i) (σ 175 i) 177 (k + i) = σ 173 i := by rw [up_at, if_neg (by omega), up_at, if_neg (by omega), up_at, if_pos (by omega)]
        rw [v, if_neg (by omega), if_neg (by omega), if_neg (by omega), if_neg (by omega), if_neg (by omega), if_neg (by omega), if_neg (by omega), if_neg (by omega), if_neg (by omega), if_neg (by omega), if_neg (by omega), if_neg (by omega), if_neg (by omega), if_pos (by omega), show k + i - k = i by omega]
      · have v : up (up (up σ 177 (k + i) (σ 173 i)) 177 (k + 9 + i) (σ 174 i)) 177 (k + 18 + i) (σ 175 i) 177 (k + 9 + i) = σ 174 i := by rw [up_at, if_neg (by omega), up_at, if_pos (by omega)]
        rw [v, if_neg (by omega), if_neg (by omega), if_neg (by omega), if_neg (by omega), if_neg (by omega), if_neg (by omega), if_neg (by omega), if_neg (by omega), if_neg (by omega), if_neg (by omega), if_neg (by omega), if_neg (by omega), if_pos (by omega), show k + 9 + i - (k + 9) = i by omega]
      · have v : up (up (up σ 177 (k + i) (σ 173 i)) 177 (k + 9 + i) (σ 174 i)) 177 (k + 18 + i) (σ 175 i) 177 (k + 18 + i) = σ 175 i := by rw [up_at, if_pos (by omega)]
        rw [v, if_neg (by omega), if_neg (by omega), if_neg (by omega), if_neg (by omega), if_neg (by omega), if_neg (by omega), if_neg (by omega), if_neg (by omega), if_neg (by omega), if_neg (by omega), if_neg (by omega), if_pos (by omega), show k + 18 + i - (k + 18) = i by omega]
    · have v : up (up (up σ 177 (k + i) (σ 173 i)) 177 (k + 9 + i) (σ 174 i)) 177 (k + 18 + i) (σ 175 i) a b = σ a b := by rw [up_at, if_neg (by omega), up_at, if_neg (by omega), up_at, if_neg (by omega)]
      have k1 : (a = 177 ∧ k + 18 + (i + 1) ≤ b ∧ b < k + 27) = (a = 177 ∧ k + 18 + i ≤ b ∧ b < k + 27) := propext (by omega)
      have k2 : (a = 177 ∧ k + 9 + (i + 1) ≤ b ∧ b < k + 18) = (a = 177 ∧ k + 9 + i ≤ b ∧ b < k + 18) := propext (by omega)
      have k3 : (a = 177 ∧ k + (i + 1) ≤ b ∧ b < k + 9) = (a = 177 ∧ k + i ≤ b ∧ b < k + 9) := propext (by omega)
      simp only [v, k1, k2, k3]
