-- PURE LAYER: division; cover
theorem ldv_eq {a b : Int} (ha : 0 ≤ a ∧ a ≤ 9223372036854775807) (hb : 0 < b ∧ b ≤ 9223372036854775807) : ldv a b = a / b := by
  have h1 : (i64 a).toInt = a := w64_id (by omega)
  have h2 : (i64 b).toInt = b := w64_id (by omega)
  have h3 : 0 ≤ a / b := Int.ediv_nonneg ha.1 (by omega)
  have h4 : a / b ≤ a := Int.ediv_le_self b ha.1
  unfold ldv
  rw [Int64.toInt_div, h1, h2, Int.tdiv_eq_ediv_of_nonneg ha.1, Int.bmod_eq_of_le] <;> omega
theorem lrm_eq {a b : Int} (ha : 0 ≤ a ∧ a ≤ 9223372036854775807) (hb : 0 < b ∧ b ≤ 9223372036854775807) : lrm a b = a % b := by
  have h1 : i64 a / i64 b = i64 (a / b) := by rw [← ldv_eq ha hb]; exact (i64_toInt _).symm
  have h2 : a - a / b * b = a % b := by rw [Int.emod_def, Int.mul_comm]
  have h3 : 0 ≤ a % b := Int.emod_nonneg a (by omega)
  have h4 : a % b < b := Int.emod_lt_of_pos a hb.1
  unfold lrm
  rw [h1, i64_mul, i64_sub, h2]
  exact w64_id (by omega)
theorem idv_eq {a b : Int} (ha : 0 ≤ a ∧ a ≤ 2147483647) (hb : 0 < b ∧ b ≤ 2147483647) : idv a b = a / b := by
  have h1 : (i32 a).toInt = a := w32_id (by omega)
  have h2 : (i32 b).toInt = b := w32_id (by omega)
  have h3 : 0 ≤ a / b := Int.ediv_nonneg ha.1 (by omega)
  have h4 : a / b ≤ a := Int.ediv_le_self b ha.1
  unfold idv
  rw [Int32.toInt_div, h1, h2, Int.tdiv_eq_ediv_of_nonneg ha.1, Int.bmod_eq_of_le] <;> omega
theorem irm_eq {a b : Int} (ha : 0 ≤ a ∧ a ≤ 2147483647) (hb : 0 < b ∧ b ≤ 2147483647) : irm a b = a % b := by
  have h1 : i32 a / i32 b = i32 (a / b) := by rw [← idv_eq ha hb]; exact (i32_toInt _).symm
  have h2 : a - a / b * b = a % b := by rw [Int.emod_def, Int.mul_comm]
  have h3 : 0 ≤ a % b := Int.emod_nonneg a (by omega)
  have h4 : a % b < b := Int.emod_lt_of_pos a hb.1
  unfold irm
  rw [h1, i32_mul, i32_sub, h2]
  exact w32_id (by omega)
theorem l2i_eq {a : Int} (ha : -2147483648 ≤ a ∧ a ≤ 2147483647) : l2i_ a = a := by
  have h1 : (i64 a).toInt = a := w64_id (by omega)
  unfold l2i_
  rw [Int64.toInt_toInt32, h1, Int.bmod_eq_of_le] <;> omega
/-- what is left after m prices, the price at place m, and the first number that is too big -/
def quoP : Nat → Int → Int
  | 0, v => v
  | m + 1, v => quoP m (v / 100)
def prcP : Nat → Int → Int
  | 0, v => v % 100
  | m + 1, v => prcP m (v / 100)
def powP : Nat → Int
  | 0 => 1
  | m + 1 => 100 * powP m
theorem quoP_0 : ∀ (m : Nat) (v : Int), 0 ≤ v → (quoP m v = 0 ↔ v ≤ powP m - 1) ∧ 0 ≤ quoP m v ∧ quoP m v ≤ v := by
  intro m
  induction m with
  | zero => intro v hv; show (v = 0 ↔ v ≤ 1 - 1) ∧ 0 ≤ v ∧ v ≤ v; omega
  | succ m ih =>
    intro v hv
    have h1 := ih (v / 100) (by omega)
    show (quoP m (v / 100) = 0 ↔ v ≤ 100 * powP m - 1) ∧ 0 ≤ quoP m (v / 100) ∧ quoP m (v / 100) ≤ v
    refine ⟨?_, by omega, by omega⟩
    rw [h1.1]
    omega
theorem prcP_rng : ∀ (m : Nat) (v : Int), 0 ≤ prcP m v ∧ prcP m v ≤ 99 := by
  intro m
  induction m with
  | zero => intro v; show 0 ≤ v % 100 ∧ v % 100 ≤ 99; omega
  | succ m ih => intro v; exact ih (v / 100)
theorem powP_rng {m : Nat} (h : m ≤ 6) : 1 ≤ powP m ∧ powP m ≤ 1000000000000 := by
  rcases m with _ | _ | _ | _ | _ | _ | _ | m
  all_goals first | decide | omega
theorem readPrices_eq (F : Nat) (v : Int) : ∀ (m n : Nat) (x i : Int) (σ : St), 0 ≤ x ∧ x ≤ 9223372036854775807 → 0 ≤ i → i + m = σ 1 5 → σ 1 5 ≤ 6 → m < n → ∃ σ', gX10_readPrices_L13 F v n x i σ = some (tv (quoP m x = 0), σ') ∧ ∀ k j, σ' k j = if k = 62 ∧ i ≤ j ∧ j < i + m then prcP (j - i).toNat x else σ k j := by
  intro m
  induction m with
  | zero =>
    intro n x i σ hx h1 h2 h3 h4
    obtain ⟨n, rfl⟩ : ∃ n', n = n' + 1 := ⟨n - 1, by omega⟩
    refine ⟨σ, ?_, fun k j => by rw [if_neg (by omega)]⟩
    rw [gX10_readPrices_L13, w32_id (a := i) (by omega), w32_id (a := σ 1 5) (by omega), if_pos (by omega), w64_id (a := x) (by omega)]
    show _ = some (tv (x = 0), σ)
    unfold tv
    by_cases q : x = 0
    · rw [if_neg (fun z => z q), if_pos q]
    · rw [if_pos q, if_neg q]
  | succ m ih =>
    intro n x i σ hx h1 h2 h3 h4
    obtain ⟨n, rfl⟩ : ∃ n', n = n' + 1 := ⟨n - 1, by omega⟩
    have e5 : up σ 62 i (x % 100) 1 5 = σ 1 5 := by rw [up_at, if_neg (by omega)]
    obtain ⟨σ', s1, s2⟩ := ih n (x / 100) (i + 1) (up σ 62 i (x % 100)) (by omega) (by omega) (by rw [e5]; omega) (by rw [e5]; omega) (by omega)
    refine ⟨σ', ?_, fun k j => ?_⟩
    · rw [gX10_readPrices_L13, w32_id (a := i) (by omega), w32_id (a := σ 1 5) (by omega), if_neg (by omega), gd_pos (by decide), gd_pos (by omega), gd_pos (by decide), ldv_eq hx (by omega), lrm_eq hx (by omega), l2i_eq (by omega)]
      exact s1
    · rw [s2, up_at]
      by_cases q : k = 62 ∧ i + 1 ≤ j ∧ j < i + 1 + m
      · rw [if_pos q, if_pos (by omega), show (j - i).toNat = (j - (i + 1)).toNat + 1 by omega]
        rfl
      · rw [if_neg q]
        by_cases q2 : k = 62 ∧ j = i
        · rw [if_pos q2, if_pos (by omega), show (j - i).toNat = 0 by omega]
          rfl
        · rw [if_neg q2, if_neg (by omega)]
/-- the most that a guest gains over the prices -/
def gmx (w pr : Int → Int) (g : Int) : Nat → Int → Int → Int
  | 0, x, _ => x
  | m + 1, x, i => gmx w pr g m (if x < w (6 * g + i) - pr i then w (6 * g + i) - pr i else x) (i + 1)
theorem gmx_congr {w w' pr pr' : Int → Int} {g : Int} : ∀ (m : Nat) (x i : Int), (∀ j, i ≤ j → j < i + m → w (6 * g + j) = w' (6 * g + j) ∧ pr j = pr' j) → gmx w pr g m x i = gmx w' pr' g m x i := by
  intro m
  induction m with
  | zero => intro x i _; rfl
  | succ m ih =>
    intro x i h
    have h1 := h i (by omega) (by omega)
    show gmx w pr g m (if x < w (6 * g + i) - pr i then w (6 * g + i) - pr i else x) (i + 1) = gmx w' pr' g m (if x < w' (6 * g + i) - pr' i then w' (6 * g + i) - pr' i else x) (i + 1)
    rw [h1.1, h1.2]
    exact ih _ _ (fun j q1 q2 => h j (by omega) (by omega))
theorem gainOver_eq (F : Nat) (σ : St) (g : Int) (hg : 0 ≤ g ∧ g < 9) (hP : 0 ≤ σ 1 5 ∧ σ 1 5 ≤ 6) (hw : ∀ j, 0 ≤ j → j < 54 → 0 ≤ σ 6 j ∧ σ 6 j ≤ 99) (hq : ∀ j, 0 ≤ j → j < σ 1 5 → 0 ≤ σ 62 j ∧ σ 62 j ≤ 99) : ∀ (m n : Nat) (x i : Int), 0 ≤ x ∧ x ≤ 99 → 0 ≤ i → i + m = σ 1 5 → m < n → gX0_gainOver_L5 F σ 1 g 62 n x i = some (gmx (σ 6) (σ 62) g m x i) := by
  intro m
  induction m with
  | zero =>
    intro n x i hx h1 h2 h3
    obtain ⟨n, rfl⟩ : ∃ n', n = n' + 1 := ⟨n - 1, by omega⟩
    rw [gX0_gainOver_L5, w32_id (a := i) (by omega), w32_id (a := σ 1 5) (by omega), if_pos (by omega)]
    rfl
  | succ m ih =>
    intro n x i hx h1 h2 h3
    obtain ⟨n, rfl⟩ : ∃ n', n = n' + 1 := ⟨n - 1, by omega⟩
    have r1 := hw (6 * g + i) (by omega) (by omega)
    have r2 := hq i h1 (by omega)
    rw [gX0_gainOver_L5, w32_id (a := i) (by omega), w32_id (a := σ 1 5) (by omega), if_neg (by omega)]
    unfold gX0_worthAt
    rw [show g * 6 + i = 6 * g + i by omega, w32_id (a := 6 * g + i) (by omega), gd_pos (by omega), Option.bind_some, gd_pos (by omega), show (1 : Int) + 5 = 6 by rfl, w32_id (a := x) (by omega), w32_id (a := σ 6 (6 * g + i) - σ 62 i) (by omega)]
    rw [ih n _ (i + 1) (by split <;> omega) (by omega) (by omega) (by omega)]
    rfl
theorem cover_57 (F : Nat) (hF : 100 ≤ F) (v : Int) (σ : St) (hG : 0 ≤ σ 1 6 ∧ σ 1 6 ≤ 9) (hP : 0 ≤ σ 1 5 ∧ σ 1 5 ≤ 6) (hw : ∀ j, 0 ≤ j → j < 54 → 0 ≤ σ 6 j ∧ σ 6 j ≤ 99) (hq : ∀ j, 0 ≤ j → j < σ 1 5 → 0 ≤ σ 62 j ∧ σ 62 j ≤ 99) : ∀ (m n : Nat) (x i : Int), 0 ≤ i → i + m = σ 1 6 → m < n → gX10_cover_L57 F v n x i σ = some (x + sumN (fun g => gmx (σ 6) (σ 62) g (σ 1 5).toNat 0 0) m i, σ) := by
  intro m
  induction m with
  | zero =>
    intro n x i h1 h2 h3
    obtain ⟨n, rfl⟩ : ∃ n', n = n' + 1 := ⟨n - 1, by omega⟩
    rw [gX10_cover_L57, w32_id (a := i) (by omega), w32_id (a := σ 1 6) (by omega), if_pos (by omega)]
    simp [sumN]
  | succ m ih =>
    intro n x i h1 h2 h3
    obtain ⟨n, rfl⟩ : ∃ n', n = n' + 1 := ⟨n - 1, by omega⟩
    rw [gX10_cover_L57, w32_id (a := i) (by omega), w32_id (a := σ 1 6) (by omega), if_neg (by omega)]
    unfold gX0_gainOver
    rw [gainOver_eq F σ i (by omega) hP hw hq (σ 1 5).toNat F 0 0 (by omega) (by omega) (by omega) (by omega), Option.bind_some, ih n _ (i + 1) (by omega) (by omega) (by omega)]
    congr 2
    show _ = x + (gmx (σ 6) (σ 62) i (σ 1 5).toNat 0 0 + sumN _ m (i + 1))
    omega
theorem cover_15 (F : Nat) (v : Int) (σ : St) (hP : 0 ≤ σ 1 5 ∧ σ 1 5 ≤ 6) : ∀ (m n : Nat) (x i : Int), 0 ≤ i → i + m = σ 1 5 → m < n → gX10_cover_L15 F v n x i σ = gX10_cover_L57 F v F (x + sumN (fun p => σ 2 p * σ 62 p) m i) 0 σ := by
  intro m
  induction m with
  | zero =>
    intro n x i h1 h2 h3
    obtain ⟨n, rfl⟩ : ∃ n', n = n' + 1 := ⟨n - 1, by omega⟩
    rw [gX10_cover_L15, w32_id (a := i) (by omega), w32_id (a := σ 1 5) (by omega), if_pos (by omega)]
    simp [sumN]
  | succ m ih =>
    intro n x i h1 h2 h3
    obtain ⟨n, rfl⟩ : ∃ n', n = n' + 1 := ⟨n - 1, by omega⟩
    rw [gX10_cover_L15, w32_id (a := i) (by omega), w32_id (a := σ 1 5) (by omega), if_neg (by omega), gd_pos (by omega), gd_pos (by omega), ih n _ (i + 1) (by omega) (by omega) (by omega)]
    congr 1
    show x + σ 2 i * σ 62 i + _ = x + (σ 2 i * σ 62 i + sumN _ m (i + 1))
    omega
-- the reference
theorem cover_123 (F : Nat) (v : Int) (σ : St) (g : Int) (c : Int → Int → St → Option (Int × St)) (hg : 0 ≤ g ∧ g < 9) (hP : 0 ≤ σ 143 0 ∧ σ 143 0 ≤ 6) (hw : ∀ j, 0 ≤ j → j < 54 → 0 ≤ σ 148 j ∧ σ 148 j ≤ 99) (hq : ∀ j, 0 ≤ j → j < σ 143 0 → 0 ≤ σ 167 j ∧ σ 167 j ≤ 99) (y : Int) : ∀ (m n : Nat) (x i : Int), 0 ≤ x ∧ x ≤ 99 → 0 ≤ i → i + m = σ 143 0 → m < n → gX11_cover_L123 F v c n y g x i σ = c (y + gmx (σ 148) (σ 167) g m x i) (g + 1) σ := by
  intro m
  induction m with
  | zero =>
    intro n x i hx h1 h2 h3
    obtain ⟨n, rfl⟩ : ∃ n', n = n' + 1 := ⟨n - 1, by omega⟩
    rw [gX11_cover_L123, w32_id (a := i) (by omega), w32_id (a := σ 143 0) (by omega), if_pos (by omega)]
    rfl
  | succ m ih =>
    intro n x i hx h1 h2 h3
    obtain ⟨n, rfl⟩ : ∃ n', n = n' + 1 := ⟨n - 1, by omega⟩
    have r1 := hw (6 * g + i) (by omega) (by omega)
    have r2 := hq i h1 (by omega)
    rw [gX11_cover_L123, w32_id (a := i) (by omega), w32_id (a := σ 143 0) (by omega), if_neg (by omega)]
    unfold gX11_cover_L169
    rw [w32_id (a := 6 * g + i) (by omega), gd_pos (by omega), gd_pos (by omega), w32_id (a := x) (by omega), w32_id (a := σ 148 (6 * g + i) - σ 167 i) (by omega)]
    have e : gmx (σ 148) (σ 167) g (m + 1) x i = gmx (σ 148) (σ 167) g m (if x < σ 148 (6 * g + i) - σ 167 i then σ 148 (6 * g + i) - σ 167 i else x) (i + 1) := rfl
    rw [e]
    by_cases q : x < σ 148 (6 * g + i) - σ 167 i
    · rw [if_neg (by omega), if_pos q, ih n _ (i + 1) (by omega) (by omega) (by omega) (by omega)]
    · rw [if_pos (by omega), if_neg q, ih n _ (i + 1) (by omega) (by omega) (by omega) (by omega)]
theorem cover_108 (F : Nat) (hF : 100 ≤ F) (v : Int) (σ : St) (hG : 0 ≤ σ 143 4 ∧ σ 143 4 ≤ 9) (hP : 0 ≤ σ 143 0 ∧ σ 143 0 ≤ 6) (hw : ∀ j, 0 ≤ j → j < 54 → 0 ≤ σ 148 j ∧ σ 148 j ≤ 99) (hq : ∀ j, 0 ≤ j → j < σ 143 0 → 0 ≤ σ 167 j ∧ σ 167 j ≤ 99) : ∀ (m n : Nat) (x i : Int), 0 ≤ i → i + m = σ 143 4 → m < n → gX11_cover_L108 F v n x i σ = some (x + sumN (fun g => gmx (σ 148) (σ 167) g (σ 143 0).toNat 0 0) m i, σ) := by
  intro m
  induction m with
  | zero =>
    intro n x i h1 h2 h3
    obtain ⟨n, rfl⟩ : ∃ n', n = n' + 1 := ⟨n - 1, by omega⟩
    rw [gX11_cover_L108, w32_id (a := i) (by omega), w32_id (a := σ 143 4) (by omega), if_pos (by omega)]
    simp [sumN]
  | succ m ih =>
    intro n x i h1 h2 h3
    obtain ⟨n, rfl⟩ : ∃ n', n = n' + 1 := ⟨n - 1, by omega⟩
    rw [gX11_cover_L108, w32_id (a := i) (by omega), w32_id (a := σ 143 4) (by omega), if_neg (by omega), cover_123 F v σ i _ (by omega) hP hw hq x (σ 143 0).toNat F 0 0 (by omega) (by omega) (by omega) (by omega), ih n _ (i + 1) (by omega) (by omega) (by omega)]
    congr 2
    show _ = x + (gmx (σ 148) (σ 167) i (σ 143 0).toNat 0 0 + sumN _ m (i + 1))
    omega
theorem cover_48 (F : Nat) (v : Int) : ∀ (m n : Nat) (y x i : Int) (σ : St), 0 ≤ x ∧ x ≤ 9223372036854775807 → 0 ≤ i → i + m = σ 143 0 → σ 143 0 ≤ 6 → m < n → ∃ σ', gX11_cover_L48 F v n y x i σ = gX11_cover_L108 F v F (y + sumN (fun j => σ 144 j * prcP (j - i).toNat x) m i) 0 σ' ∧ ∀ k j, σ' k j = if k = 167 ∧ i ≤ j ∧ j < i + m then prcP (j - i).toNat x else σ k j := by
  intro m
  induction m with
  | zero =>
    intro n y x i σ hx h1 h2 h3 h4
    obtain ⟨n, rfl⟩ : ∃ n', n = n' + 1 := ⟨n - 1, by omega⟩
    refine ⟨σ, ?_, fun k j => by rw [if_neg (by omega)]⟩
    rw [gX11_cover_L48, w32_id (a := i) (by omega), w32_id (a := σ 143 0) (by omega), if_pos (by omega)]
    simp [sumN]
  | succ m ih =>
    intro n y x i σ hx h1 h2 h3 h4
    obtain ⟨n, rfl⟩ : ∃ n', n = n' + 1 := ⟨n - 1, by omega⟩
    have e5 : up σ 167 i (x % 100) 143 0 = σ 143 0 := by rw [up_at, if_neg (by omega)]
    obtain ⟨σ', s1, s2⟩ := ih n (y + σ 144 i * (x % 100)) (x / 100) (i + 1) (up σ 167 i (x % 100)) (by omega) (by omega) (by rw [e5]; omega) (by rw [e5]; omega) (by omega)
    refine ⟨σ', ?_, fun k j => ?_⟩
    · rw [gX11_cover_L48, w32_id (a := i) (by omega), w32_id (a := σ 143 0) (by omega), if_neg (by omega), gd_pos (by decide), gd_pos (by omega), gd_pos (by decide), gd_pos (by omega), gd_pos (by omega), ldv_eq hx (by omega), lrm_eq hx (by omega), l2i_eq (by omega), up_self, up_at, if_neg (by omega), s1]
      congr 1
      have e : sumN (fun j => σ 144 j * prcP (j - i).toNat x) (m + 1) i = σ 144 i * prcP (i - i).toNat x + sumN (fun j => σ 144 j * prcP (j - i).toNat x) m (i + 1) := rfl
      rw [e, show (i - i).toNat = 0 by omega, show prcP 0 x = x % 100 by rfl, Int.add_assoc]
      congr 2
      refine sumN_congr _ _ (fun j q1 q2 => ?_)
      show up σ 167 i (x % 100) 144 j * prcP (j - (i + 1)).toNat (x / 100) = σ 144 j * prcP (j - i).toNat x
      rw [up_at, if_neg (by omega), show (j - i).toNat = (j - (i + 1)).toNat + 1 by omega]
      rfl
    · rw [s2, up_at]
      by_cases q : k = 167 ∧ i + 1 ≤ j ∧ j < i + 1 + m
      · rw [if_pos q, if_pos (by omega), show (j - i).toNat = (j - (i + 1)).toNat + 1 by omega]
        rfl
      · rw [if_neg q]
        by_cases q2 : k = 167 ∧ j = i
        · rw [if_pos q2, if_pos (by omega), show (j - i).toNat = 0 by omega]
          rfl
        · rw [if_neg q2, if_neg (by omega)]
theorem cover_5 (F : Nat) (v : Int) (σ : St) (hP : 0 ≤ σ 143 0 ∧ σ 143 0 ≤ 6) : ∀ (m n : Nat) (x i : Int), 0 ≤ i → i + m = σ 143 0 → m < n → gX11_cover_L5 F v n x i σ = (gX11_in σ v 0 (x * powP m - 1)).bind fun r1 => if w32 r1 ≠ 0 then gX11_cover_L48 F v F 0 v 0 σ else some ((-1), σ) := by
  intro m
  induction m with
  | zero =>
    intro n x i h1 h2 h3
    obtain ⟨n, rfl⟩ : ∃ n', n = n' + 1 := ⟨n - 1, by omega⟩
    rw [gX11_cover_L5, w32_id (a := i) (by omega), w32_id (a := σ 143 0) (by omega), if_pos (by omega), show powP 0 = 1 by rfl, Int.mul_one]
  | succ m ih =>
    intro n x i h1 h2 h3
    obtain ⟨n, rfl⟩ : ∃ n', n = n' + 1 := ⟨n - 1, by omega⟩
    rw [gX11_cover_L5, w32_id (a := i) (by omega), w32_id (a := σ 143 0) (by omega), if_neg (by omega), ih n _ (i + 1) (by omega) (by omega) (by omega), show powP (m + 1) = 100 * powP m by rfl, Int.mul_assoc]
