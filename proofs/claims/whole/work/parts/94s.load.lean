-- PURE LAYER: a run begins; what it comes to
theorem fresh_23 {F : Nat} : ∀ (m n : Nat) (i : Int) (σ : St), 0 ≤ i → i + m = 9 → m < n → ∃ σ', gX11_fresh_L23 F n i σ = some σ' ∧ ∀ a b, σ' a b = if a = 143 ∧ (b = 35 ∨ b = 36) then 0 else if a = 164 ∧ i ≤ b ∧ b < 9 then -4 else if a = 165 ∧ i ≤ b ∧ b < 9 then 0 else σ a b := by
  intro m
  induction m with
  | zero =>
    intro n i σ h1 h2 h3
    obtain ⟨n, rfl⟩ : ∃ n', n = n' + 1 := ⟨n - 1, by omega⟩
    refine ⟨_, by rw [gX11_fresh_L23, w32_id (a := i) (by omega), if_pos (by omega)], fun a b => ?_⟩
    rw [up_at, up_at]
    repeat' split
    all_goals first | rfl | omega
  | succ m ih =>
    intro n i σ h1 h2 h3
    obtain ⟨n, rfl⟩ : ∃ n', n = n' + 1 := ⟨n - 1, by omega⟩
    obtain ⟨σ', e, f⟩ := ih n (i + 1) (up (up σ 164 i (-4)) 165 i 0) (by omega) (by omega) (by omega)
    refine ⟨σ', by rw [gX11_fresh_L23, w32_id (a := i) (by omega), if_neg (by omega), gd_pos (by omega), gd_pos (by omega), e], fun a b => ?_⟩
    rw [f, up_at, up_at]
    repeat' split
    all_goals first | rfl | omega
theorem fresh_2 {F : Nat} (hF : 100 ≤ F) : ∀ (m n : Nat) (i : Int) (σ : St), 0 ≤ i → i + m = 6 → m < n → ∃ σ', gX11_fresh_L2 F n i σ = some σ' ∧ ∀ a b, σ' a b = if a = 143 ∧ (b = 35 ∨ b = 36) then 0 else if a = 164 ∧ 0 ≤ b ∧ b < 9 then -4 else if a = 165 ∧ 0 ≤ b ∧ b < 9 then 0 else if a = 163 ∧ i ≤ b ∧ b < 6 then 0 else σ a b := by
  intro m
  induction m with
  | zero =>
    intro n i σ h1 h2 h3
    obtain ⟨n, rfl⟩ : ∃ n', n = n' + 1 := ⟨n - 1, by omega⟩
    obtain ⟨σ', e, f⟩ := fresh_23 (F := F) 9 F 0 σ (by omega) (by omega) (by omega)
    refine ⟨σ', by rw [gX11_fresh_L2, w32_id (a := i) (by omega), if_pos (by omega), e], fun a b => ?_⟩
    rw [f]
    repeat' split
    all_goals first | rfl | omega
  | succ m ih =>
    intro n i σ h1 h2 h3
    obtain ⟨n, rfl⟩ : ∃ n', n = n' + 1 := ⟨n - 1, by omega⟩
    obtain ⟨σ', e, f⟩ := ih n (i + 1) (up σ 163 i 0) (by omega) (by omega) (by omega)
    refine ⟨σ', by rw [gX11_fresh_L2, w32_id (a := i) (by omega), if_neg (by omega), gd_pos (by omega), e], fun a b => ?_⟩
    rw [f, up_at]
    repeat' split
    all_goals first | rfl | omega
theorem fresh_eq {F : Nat} (hF : 100 ≤ F) (σ : St) : ∃ σ', gX11_fresh F σ = some σ' ∧ ∀ a b, σ' a b = if a = 143 ∧ (b = 35 ∨ b = 36) then 0 else if a = 164 ∧ 0 ≤ b ∧ b < 9 then -4 else if a = 165 ∧ 0 ≤ b ∧ b < 9 then 0 else if a = 163 ∧ 0 ≤ b ∧ b < 6 then 0 else σ a b :=
  fresh_2 hF 6 F 0 σ (by omega) (by omega) (by omega)
theorem loadMain_68 {F : Nat} (hF : 100 ≤ F) : ∀ (m n : Nat) (i : Int) (σ : St), 0 ≤ i → i + m = 54 → m < n → ∃ σ', gX11_loadMain_L68 F n i σ = some σ' ∧ ∀ a b, σ' a b = if a = 143 ∧ (b = 35 ∨ b = 36) then 0 else if a = 164 ∧ 0 ≤ b ∧ b < 9 then -4 else if a = 165 ∧ 0 ≤ b ∧ b < 9 then 0 else if a = 163 ∧ 0 ≤ b ∧ b < 6 then 0 else if a = 162 ∧ i ≤ b ∧ b < 54 then σ 148 b else σ a b := by
  intro m
  induction m with
  | zero =>
    intro n i σ h1 h2 h3
    obtain ⟨n, rfl⟩ : ∃ n', n = n' + 1 := ⟨n - 1, by omega⟩
    obtain ⟨σ', e, f⟩ := fresh_eq hF σ
    refine ⟨σ', by rw [gX11_loadMain_L68, w32_id (a := i) (by omega), if_pos (by omega), e, Option.bind_some], fun a b => ?_⟩
    rw [f, if_neg (show ¬ (a = 162 ∧ i ≤ b ∧ b < 54) by omega)]
  | succ m ih =>
    intro n i σ h1 h2 h3
    obtain ⟨n, rfl⟩ : ∃ n', n = n' + 1 := ⟨n - 1, by omega⟩
    obtain ⟨σ', e, f⟩ := ih n (i + 1) (up σ 162 i (σ 148 i)) (by omega) (by omega) (by omega)
    refine ⟨σ', by rw [gX11_loadMain_L68, w32_id (a := i) (by omega), if_neg (by omega), gd_pos (by omega), gd_pos (by omega), e], fun a b => ?_⟩
    have e1 : up σ 162 i (σ 148 i) 148 b = σ 148 b := by rw [up_at, if_neg (by omega)]
    rw [f, e1, up_at]
    by_cases q : a = 162 ∧ b = i
    · obtain ⟨rfl, rfl⟩ := q
      repeat' split
      all_goals first | rfl | omega
    · rw [if_neg q]
      repeat' split
      all_goals first | rfl | omega
theorem loadMain_18 {F : Nat} (hF : 100 ≤ F) : ∀ (m n : Nat) (i : Int) (σ : St), 0 ≤ i → i + m = 6 → m < n → ∃ σ', gX11_loadMain_L18 F n i σ = some σ' ∧ ∀ a b, σ' a b = if a = 143 ∧ (b = 35 ∨ b = 36) then 0 else if a = 164 ∧ 0 ≤ b ∧ b < 9 then -4 else if a = 165 ∧ 0 ≤ b ∧ b < 9 then 0 else if a = 163 ∧ 0 ≤ b ∧ b < 6 then 0 else if a = 162 ∧ 0 ≤ b ∧ b < 54 then σ 148 b else if a = 159 ∧ i ≤ b ∧ b < 6 then σ 144 b else if a = 160 ∧ i ≤ b ∧ b < 6 then σ 145 b else if a = 161 ∧ i ≤ b ∧ b < 6 then σ 146 b else σ a b := by
  intro m
  induction m with
  | zero =>
    intro n i σ h1 h2 h3
    obtain ⟨n, rfl⟩ : ∃ n', n = n' + 1 := ⟨n - 1, by omega⟩
    obtain ⟨σ', e, f⟩ := loadMain_68 hF 54 F 0 σ (by omega) (by omega) (by omega)
    refine ⟨σ', by rw [gX11_loadMain_L18, w32_id (a := i) (by omega), if_pos (by omega), e], fun a b => ?_⟩
    rw [f, if_neg (show ¬ (a = 159 ∧ i ≤ b ∧ b < 6) by omega), if_neg (show ¬ (a = 160 ∧ i ≤ b ∧ b < 6) by omega), if_neg (show ¬ (a = 161 ∧ i ≤ b ∧ b < 6) by omega)]
  | succ m ih =>
    intro n i σ h1 h2 h3
    obtain ⟨n, rfl⟩ : ∃ n', n = n' + 1 := ⟨n - 1, by omega⟩
    obtain ⟨σ', e, f⟩ := ih n (i + 1) (up (up (up σ 159 i (σ 144 i)) 160 i (σ 145 i)) 161 i (σ 146 i)) (by omega) (by omega) (by omega)
    have e1 : up σ 159 i (σ 144 i) 145 i = σ 145 i := by rw [up_at, if_neg (by omega)]
    have e2 : up (up σ 159 i (σ 144 i)) 160 i (σ 145 i) 146 i = σ 146 i := by rw [up_at, if_neg (by omega), up_at, if_neg (by omega)]
    refine ⟨σ', by rw [gX11_loadMain_L18, w32_id (a := i) (by omega), if_neg (by omega), gd_pos (by omega), gd_pos (by omega), gd_pos (by omega), gd_pos (by omega), gd_pos (by omega), gd_pos (by omega), e1, e2, e], fun a b => ?_⟩
    have u : ∀ c, c ≠ 159 → c ≠ 160 → c ≠ 161 → up (up (up σ 159 i (σ 144 i)) 160 i (σ 145 i)) 161 i (σ 146 i) c b = σ c b := fun c q1 q2 q3 => by rw [up_at, if_neg (by omega), up_at, if_neg (by omega), up_at, if_neg (by omega)]
    rw [f, u 148 (by omega) (by omega) (by omega), u 144 (by omega) (by omega) (by omega), u 145 (by omega) (by omega) (by omega), u 146 (by omega) (by omega) (by omega)]
    by_cases q : b = i ∧ (a = 159 ∨ a = 160 ∨ a = 161)
    · obtain ⟨rfl, q⟩ := q
      rcases q with rfl | rfl | rfl
      all_goals
        rw [up_at, up_at, up_at]
        repeat' split
        all_goals first | rfl | omega
    · have ua : up (up (up σ 159 i (σ 144 i)) 160 i (σ 145 i)) 161 i (σ 146 i) a b = σ a b := by rw [up_at, if_neg (by omega), up_at, if_neg (by omega), up_at, if_neg (by omega)]
      have k1 : (a = 159 ∧ i + 1 ≤ b ∧ b < 6) = (a = 159 ∧ i ≤ b ∧ b < 6) := propext (by omega)
      have k2 : (a = 160 ∧ i + 1 ≤ b ∧ b < 6) = (a = 160 ∧ i ≤ b ∧ b < 6) := propext (by omega)
      have k3 : (a = 161 ∧ i + 1 ≤ b ∧ b < 6) = (a = 161 ∧ i ≤ b ∧ b < 6) := propext (by omega)
      simp only [ua, k1, k2, k3]
theorem loadMain_eq {F : Nat} (hF : 100 ≤ F) (σ : St) : ∃ σ', gX11_loadMain F σ = some σ' ∧ ∀ a b, σ' a b = if a = 143 ∧ (b = 35 ∨ b = 36) then 0 else if a = 164 ∧ 0 ≤ b ∧ b < 9 then -4 else if a = 165 ∧ 0 ≤ b ∧ b < 9 then 0 else if a = 163 ∧ 0 ≤ b ∧ b < 6 then 0 else if a = 162 ∧ 0 ≤ b ∧ b < 54 then σ 148 b else if a = 159 ∧ 0 ≤ b ∧ b < 6 then σ 144 b else if a = 160 ∧ 0 ≤ b ∧ b < 6 then σ 145 b else if a = 161 ∧ 0 ≤ b ∧ b < 6 then σ 146 b else if a = 143 ∧ b = 26 then σ 143 0 else if a = 143 ∧ b = 27 then σ 143 4 else σ a b := by
  obtain ⟨σ', e, f⟩ := loadMain_18 hF 6 F 0 (up (up σ 143 26 (σ 143 0)) 143 27 (σ 143 4)) (by omega) (by omega) (by omega)
  have e1 : up σ 143 26 (σ 143 0) 143 4 = σ 143 4 := by rw [up_at, if_neg (by omega)]
  have u : ∀ c b, c ≠ 143 → up (up σ 143 26 (σ 143 0)) 143 27 (σ 143 4) c b = σ c b := fun c b q => by rw [up_at, if_neg (by omega), up_at, if_neg (by omega)]
  refine ⟨σ', by unfold gX11_loadMain; rw [e1, e], fun a b => ?_⟩
  rw [f, u 148 b (by omega), u 144 b (by omega), u 145 b (by omega), u 146 b (by omega), up_at, up_at]
  by_cases q : a = 143 ∧ (b = 26 ∨ b = 27)
  · rw [if_neg (by omega), if_neg (by omega), if_neg (by omega), if_neg (by omega), if_neg (by omega), if_neg (by omega), if_neg (by omega), if_neg (by omega), if_neg (show ¬ (a = 143 ∧ (b = 35 ∨ b = 36)) by omega), if_neg (show ¬ (a = 164 ∧ 0 ≤ b ∧ b < 9) by omega), if_neg (show ¬ (a = 165 ∧ 0 ≤ b ∧ b < 9) by omega), if_neg (show ¬ (a = 163 ∧ 0 ≤ b ∧ b < 6) by omega), if_neg (show ¬ (a = 162 ∧ 0 ≤ b ∧ b < 54) by omega), if_neg (show ¬ (a = 159 ∧ 0 ≤ b ∧ b < 6) by omega), if_neg (show ¬ (a = 160 ∧ 0 ≤ b ∧ b < 6) by omega), if_neg (show ¬ (a = 161 ∧ 0 ≤ b ∧ b < 6) by omega)]
    obtain ⟨rfl, q⟩ := q
    rcases q with rfl | rfl
    · rw [if_neg (by omega), if_pos ⟨rfl, rfl⟩, if_pos ⟨rfl, rfl⟩]
    · rw [if_pos ⟨rfl, rfl⟩, if_neg (by omega), if_pos ⟨rfl, rfl⟩]
  · have k1 : ¬ (a = 143 ∧ b = 27) := by omega
    have k2 : ¬ (a = 143 ∧ b = 26) := by omega
    simp only [if_neg k1, if_neg k2]
/-- the class's run k, cleared -/
def clearS (σ : St) (k : Int) : St := up (up (up (fillS (fillS (fillS (fillS σ (k + 1) 6 0) (k + 2) 6 0) (k + 3) 9 (-4)) (k + 4) 9 0) k 10 0) k 11 0) k 12 0
theorem clear_eq (σ : St) (k : Int) : gX7_clear σ k = some (clearS σ k) := rfl
theorem clearS_at (σ : St) (k a b : Int) : clearS σ k a b = if a = k ∧ (b = 10 ∨ b = 11 ∨ b = 12) then 0 else if a = k + 4 ∧ 0 ≤ b ∧ b < 9 then 0 else if a = k + 3 ∧ 0 ≤ b ∧ b < 9 then -4 else if (a = k + 1 ∨ a = k + 2) ∧ 0 ≤ b ∧ b < 6 then 0 else σ a b := by
  unfold clearS fillS
  rw [up_at, up_at, up_at]
  repeat' split
  all_goals first | rfl | omega
theorem clearS_o {σ : St} {k c : Int} (h : ¬ (k ≤ c ∧ c ≤ k + 4)) : clearS σ k c = σ c := by
  funext b
  rw [clearS_at, if_neg (by omega), if_neg (by omega), if_neg (by omega), if_neg (by omega)]
