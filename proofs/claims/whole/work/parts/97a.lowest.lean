-- PURE LAYER: lowest terms
def Ends : Nat → Int → Int → Prop
  | 0, _, y => y = 0
  | m + 1, x, y => y = 0 ∨ Ends m y (x % y)
theorem ends_pow : ∀ (k : Nat) (x y : Int), 0 ≤ x → 0 ≤ y → y < 2 ^ k → Ends (2 * k) x y := by
  intro k
  induction k with
  | zero =>
    intro x y _ h1 h2
    have : (2 : Int) ^ 0 = 1 := rfl
    show y = 0
    omega
  | succ k ih =>
    intro x y h0 h1 h2
    have e : (2 : Int) ^ (k + 1) = 2 ^ k * 2 := Int.pow_succ 2 k
    by_cases z : y = 0
    · exact Or.inl z
    · right
      have r0 : 0 ≤ x % y := Int.emod_nonneg _ z
      have r1 : x % y < y := Int.emod_lt_of_pos _ (by omega)
      show Ends (2 * k + 1) y (x % y)
      by_cases w : x % y = 0
      · exact Or.inl w
      · right
        have t0 : 0 ≤ y % (x % y) := Int.emod_nonneg _ w
        have t1 : y % (x % y) < x % y := Int.emod_lt_of_pos _ (by omega)
        have t2 : y % (x % y) ≤ y - x % y := by
          have d := Int.mul_ediv_add_emod y (x % y)
          have q : 1 ≤ y / (x % y) := Int.le_ediv_of_mul_le (by omega) (by omega)
          have m : x % y * 1 ≤ x % y * (y / (x % y)) := Int.mul_le_mul_of_nonneg_left q (by omega)
          omega
        exact ih (x % y) (y % (x % y)) r0 t0 (by omega)
theorem euclid {F : Nat} {σ : St} {a b x4 : Int} : ∀ (m n1 n2 : Nat) (x y i : Int), 0 ≤ x → x ≤ 9223372036854775807 → 0 ≤ y → y ≤ 9223372036854775807 → Ends m x y → 0 ≤ i → i + m ≤ 199 → m < n1 → m < n2 → (0 < x ∨ 0 < y) →
    ∃ d, gX10_commonDivisor_L9 F σ a b n1 x y i = some d ∧ gX11_lowest_L6 F σ a b x4 n2 x y = (if w32 x4 ≠ 0 then some (ldv b d) else some (ldv a d)) ∧ 0 < d ∧ d ≤ 9223372036854775807 := by
  intro m
  induction m with
  | zero =>
    intro n1 n2 x y i h1 h2 h3 h4 h5 h6 h7 h8 h9 h10
    obtain ⟨n1, rfl⟩ : ∃ n', n1 = n' + 1 := ⟨n1 - 1, by omega⟩
    obtain ⟨n2, rfl⟩ : ∃ n', n2 = n' + 1 := ⟨n2 - 1, by omega⟩
    have y0 : y = 0 := h5
    refine ⟨x, ?_, ?_, by omega, h2⟩
    · rw [gX10_commonDivisor_L9, w32_id (a := i) (by omega), if_neg (by omega), w64_id (a := y) (by omega), if_pos y0]
    · rw [gX11_lowest_L6, w64_id (a := y) (by omega), if_pos y0, w64_id (a := x) (by omega), gd_pos (by omega), gd_pos (by omega)]
  | succ m ih =>
    intro n1 n2 x y i h1 h2 h3 h4 h5 h6 h7 h8 h9 h10
    obtain ⟨n1, rfl⟩ : ∃ n', n1 = n' + 1 := ⟨n1 - 1, by omega⟩
    obtain ⟨n2, rfl⟩ : ∃ n', n2 = n' + 1 := ⟨n2 - 1, by omega⟩
    by_cases y0 : y = 0
    · refine ⟨x, ?_, ?_, by omega, h2⟩
      · rw [gX10_commonDivisor_L9, w32_id (a := i) (by omega), if_neg (by omega), w64_id (a := y) (by omega), if_pos y0]
      · rw [gX11_lowest_L6, w64_id (a := y) (by omega), if_pos y0, w64_id (a := x) (by omega), gd_pos (by omega), gd_pos (by omega)]
    · have e5 : Ends m y (x % y) := by
        rcases h5 with h | h
        · exact absurd h y0
        · exact h
      have r0 : 0 ≤ x % y := Int.emod_nonneg _ y0
      have r1 : x % y < y := Int.emod_lt_of_pos _ (by omega)
      obtain ⟨d, d1, d2, d3⟩ := ih n1 n2 y (x % y) (i + 1) h3 h4 r0 (by omega) e5 (by omega) (by omega) (by omega) (by omega) (by omega)
      refine ⟨d, ?_, ?_, d3⟩
      · rw [gX10_commonDivisor_L9, w32_id (a := i) (by omega), if_neg (by omega), w64_id (a := y) (by omega), if_neg y0, gd_pos y0, lrm_eq (by omega) (by omega)]; exact d1
      · rw [gX11_lowest_L6, w64_id (a := y) (by omega), if_neg y0, gd_pos y0, lrm_eq (by omega) (by omega)]; exact d2
/-- both sides bring a fraction to its lowest terms alike -/
theorem lowest_eq {F : Nat} (hF : 1000 ≤ F) {σ τ : St} {a b x4 : Int} (ha : 0 ≤ a ∧ a ≤ 9223372036854775807) (hb : 0 < b ∧ b ≤ 9223372036854775807) : ∃ r, gX10_inLowestTerms F σ a b x4 = some r ∧ gX11_lowest F τ a b x4 = some r := by
  have en := ends_pow 63 a b ha.1 (by omega) (by
    have : (2 : Int) ^ 63 = 9223372036854775808 := by decide
    omega)
  obtain ⟨d, d1, d2, d3, d4⟩ := euclid (F := F) (σ := σ) (a := a) (b := b) (x4 := x4) (2 * 63) F F a b 0 ha.1 ha.2 (by omega) hb.2 en (by omega) (by omega) (by omega) (by omega) (by omega)
  obtain ⟨d', d1', d2', -⟩ := euclid (F := F) (σ := τ) (a := a) (b := b) (x4 := x4) (2 * 63) F F a b 0 ha.1 ha.2 (by omega) hb.2 en (by omega) (by omega) (by omega) (by omega) (by omega)
  have same : ∀ (n : Nat) (x y i : Int), gX10_commonDivisor_L9 F σ a b n x y i = gX10_commonDivisor_L9 F τ a b n x y i := by
    intro n
    induction n with
    | zero => intro x y i; rfl
    | succ n ih =>
      intro x y i
      rw [gX10_commonDivisor_L9, gX10_commonDivisor_L9, ih]
  rw [← same, d1] at d1'
  obtain rfl := Option.some.inj d1'
  refine ⟨if w32 x4 ≠ 0 then ldv b d else ldv a d, ?_, ?_⟩
  · unfold gX10_inLowestTerms gX10_commonDivisor gX10_inLowestTerms_L17
    have n0 : ¬ d ≤ 0 := by omega
    have n1 : d ≠ 0 := by omega
    rw [d1, Option.bind_some, w64_id (a := d) (by omega)]
    simp only [if_neg n0, gd_pos n1]
    split <;> rfl
  · unfold gX11_lowest
    rw [d2']
    split <;> rfl
