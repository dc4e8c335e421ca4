-- PURE LAYER: worst (4): the nets are laid
theorem link_15 {F : Nat} {x1 : Int} {c4 : Int → Int → St → Option St} {n g : Nat} (hn : n ≤ 3) (hg : g < 3) : ∀ (m k p x : Nat) (σ : St), p + m = n → x < 512 → m < k → σ 27 5 = n → ∃ σ', gX0_linkByBits_L15 F 27 x1 c4 k x g p σ = c4 ((x / 2 ^ m : Nat) : Int) ((g : Int) + 1) σ' ∧ (∀ a j, ¬ (a = 32 ∧ (6 * g + p : Int) ≤ j ∧ j < 6 * g + n) → σ' a j = σ a j) ∧ ∀ q : Nat, p ≤ q → q < n → σ' 32 (6 * g + q) = ((x / 2 ^ (q - p) % 2 : Nat) : Int) := by
  intro m
  induction m with
  | zero =>
    intro k p x σ h1 h2 h3 h5
    obtain ⟨k, rfl⟩ : ∃ k', k = k' + 1 := ⟨k - 1, by omega⟩
    refine ⟨σ, ?_, fun _ _ _ => rfl, fun q q1 q2 => by omega⟩
    rw [gX0_linkByBits_L15, h5, w32_id (a := (p : Int)) (by omega), w32_id (a := (n : Int)) (by omega), if_pos (by omega), Nat.pow_zero, Nat.div_one]
  | succ m ih =>
    intro k p x σ h1 h2 h3 h5
    obtain ⟨k, rfl⟩ : ∃ k', k = k' + 1 := ⟨k - 1, by omega⟩
    obtain ⟨t1, t2⟩ := half_net h2
    obtain ⟨σ', d1, d2, d3⟩ := ih k (p + 1) (x / 2) (up σ 32 (6 * g + p) ((x % 2 : Nat) : Int)) (by omega) (by omega) (by omega) (by rw [up_cell (by omega)]; exact h5)
    refine ⟨σ', ?_, fun a j q => ?_, fun q q1 q2 => ?_⟩
    · rw [gX0_linkByBits_L15, h5, w32_id (a := (p : Int)) (by omega), w32_id (a := (n : Int)) (by omega), if_neg (by omega), w32_id (a := (g : Int) * 6 + p) (by omega), gd_pos (by omega), t1, t2, show (p : Int) + 1 = ((p + 1 : Nat) : Int) by omega, show (g : Int) * 6 + p = 6 * g + p by omega]
      rw [show x / 2 ^ (m + 1) = x / 2 / 2 ^ m by rw [Nat.div_div_eq_div_mul, Nat.pow_succ, Nat.mul_comm 2]]
      exact d1
    · rw [d2 a j (by omega), up_at, if_neg (by omega)]
    · by_cases z : q = p
      · rw [z, d2 32 _ (by omega), up_self, Nat.sub_self, Nat.pow_zero, Nat.div_one]
      · rw [d3 q (by omega) q2, Nat.div_div_eq_div_mul, show 2 * 2 ^ (q - (p + 1)) = 2 ^ (q - p) by rw [Nat.mul_comm, ← Nat.pow_succ]; congr 1; omega]
theorem link_4 {F : Nat} (hF : 100 ≤ F) {x1 : Int} {n b : Nat} (hn : n ≤ 3) (hb : b < 512) : ∀ (m k g : Nat) (σ : St), g + m = n → m < k → σ 27 5 = n → σ 27 6 = n → ∃ σ', gX0_linkByBits_L4 F 27 x1 k ((b / 2 ^ (n * g) : Nat) : Int) g σ = some σ' ∧ (∀ a j, a ≠ 32 → σ' a j = σ a j) ∧ (∀ j : Int, j < 6 * g → σ' 32 j = σ 32 j) ∧ (∀ j, σ' 32 j = σ 32 j ∨ 0 ≤ σ' 32 j ∧ σ' 32 j ≤ 1) ∧ ∀ y q : Nat, g ≤ y → y < n → q < n → σ' 32 (6 * y + q) = ((b / 2 ^ (n * y + q) % 2 : Nat) : Int) := by
  intro m
  induction m with
  | zero =>
    intro k g σ h1 h2 h5 h6
    obtain ⟨k, rfl⟩ : ∃ k', k = k' + 1 := ⟨k - 1, by omega⟩
    refine ⟨σ, ?_, fun _ _ _ => rfl, fun _ _ => rfl, fun _ => Or.inl rfl, fun y q q1 q2 q3 => by omega⟩
    rw [gX0_linkByBits_L4, h6, w32_id (a := (g : Int)) (by omega), w32_id (a := (n : Int)) (by omega), if_pos (by omega)]
  | succ m ih =>
    intro k g σ h1 h2 h5 h6
    obtain ⟨k, rfl⟩ : ∃ k', k = k' + 1 := ⟨k - 1, by omega⟩
    obtain ⟨σ1, a1, a2, a3⟩ := link_15 (F := F) (x1 := x1) (c4 := gX0_linkByBits_L4 F 27 x1 k) (n := n) (g := g) hn (by omega) n F 0 (b / 2 ^ (n * g)) σ (by omega) (Nat.lt_of_le_of_lt (Nat.div_le_self _ _) hb) (by omega) h5
    obtain ⟨σ', d1, d2, d3, d4, d5⟩ := ih k (g + 1) σ1 (by omega) (by omega) (by rw [a2 _ _ (by omega)]; exact h5) (by rw [a2 _ _ (by omega)]; exact h6)
    refine ⟨σ', ?_, fun a j q => by rw [d2 a j q, a2 a j (by omega)], fun j q => by rw [d3 j (by omega), a2 32 j (by omega)], fun j => ?_, fun y q q1 q2 q3 => ?_⟩
    · rw [gX0_linkByBits_L4, h6, w32_id (a := (g : Int)) (by omega), w32_id (a := (n : Int)) (by omega), if_neg (by omega)]
      have a1' : gX0_linkByBits_L15 F 27 x1 (gX0_linkByBits_L4 F 27 x1 k) F ((b / 2 ^ (n * g) : Nat) : Int) g 0 σ = _ := a1
      rw [a1', Nat.div_div_eq_div_mul, ← Nat.pow_add, show n * g + n = n * (g + 1) by rw [Nat.mul_add, Nat.mul_one], show (g : Int) + 1 = ((g + 1 : Nat) : Int) by omega]
      exact d1
    · rcases d4 j with w | w
      · by_cases z : 6 * (g : Int) ≤ j ∧ j < 6 * g + n
        · right
          have := a3 (j - 6 * g).toNat (by omega) (by omega)
          rw [show 6 * (g : Int) + ((j - 6 * g).toNat : Nat) = j by omega] at this
          omega
        · left
          rw [w, a2 32 j (by omega)]
      · exact Or.inr w
    · by_cases z : y = g
      · have := a3 q (by omega) q3
        rw [z, d3 _ (by omega), this, Nat.sub_zero, Nat.div_div_eq_div_mul, ← Nat.pow_add]
      · exact d5 y q (by omega) q2 q3
theorem link_eq {F : Nat} (hF : 100 ≤ F) {n b : Nat} (hn : 1 ≤ n ∧ n ≤ 3) (hb : b < 512) {σ : St} (h1 : σ 27 5 = n ∧ σ 27 6 = n) (h2 : ∀ p : Int, 0 ≤ p → p < n → σ 28 p = 1 ∧ σ 29 p = p ∧ σ 30 p = 999) (h3 : TrOK σ) : ∃ σ', gX0_linkByBits F σ 27 b = some σ' ∧ BN n b σ' ∧ ∀ a j, a ≠ 32 → σ' a j = σ a j := by
  obtain ⟨σ', d1, d2, d3, d4, d5⟩ := link_4 hF (x1 := b) (n := n) (by omega) hb n F 0 σ (by omega) (by omega) h1.1 h1.2
  have dc : ∀ a, a ≠ 32 → σ' a = σ a := fun a q => by funext j; exact d2 a j q
  rw [Nat.mul_zero, Nat.pow_zero, Nat.div_one] at d1
  refine ⟨σ', d1, ⟨by rw [dc 27 (by omega)]; exact h1, fun p q1 q2 => by rw [dc 28 (by omega), dc 29 (by omega), dc 30 (by omega)]; exact h2 p q1 q2, fun g p g1 g2 q1 q2 => ?_, fun j q1 q2 => ?_⟩, d2⟩
  · have := d5 g.toNat p.toNat (by omega) (by omega) (by omega)
    rw [Int.toNat_of_nonneg g1, Int.toNat_of_nonneg q1] at this
    rw [this, netw_at n b g1 (by omega)]
  · rcases d4 j with w | w
    · rw [w]; exact h3 j q1 q2
    · omega
theorem square_12 {F : Nat} {n : Nat} (hn : n ≤ 3) : ∀ (m k p : Nat) (σ : St), p + m = n → m < k → ∃ σ', gX0_becomeSquare_L12 F 27 n k p σ = some σ' ∧ (∀ a j, ¬ (28 ≤ a ∧ a ≤ 30 ∧ (p : Int) ≤ j ∧ j < n) → σ' a j = σ a j) ∧ ∀ q : Nat, p ≤ q → q < n → σ' 28 q = 1 ∧ σ' 29 q = q ∧ σ' 30 q = 999 := by
  intro m
  induction m with
  | zero =>
    intro k p σ h1 h2
    obtain ⟨k, rfl⟩ : ∃ k', k = k' + 1 := ⟨k - 1, by omega⟩
    refine ⟨σ, ?_, fun _ _ _ => rfl, fun q q1 q2 => by omega⟩
    rw [gX0_becomeSquare_L12, w32_id (a := (p : Int)) (by omega), w32_id (a := (n : Int)) (by omega), if_pos (by omega)]
  | succ m ih =>
    intro k p σ h1 h2
    obtain ⟨k, rfl⟩ : ∃ k', k = k' + 1 := ⟨k - 1, by omega⟩
    obtain ⟨σ', d1, d2, d3⟩ := ih k (p + 1) (up (up (up σ 28 p 1) 29 p p) 30 p 999) (by omega) (by omega)
    refine ⟨σ', ?_, fun a j q => ?_, fun q q1 q2 => ?_⟩
    · rw [gX0_becomeSquare_L12, w32_id (a := (p : Int)) (by omega), w32_id (a := (n : Int)) (by omega), if_neg (by omega), gd_pos (by omega), gd_pos (by omega), gd_pos (by omega), show (p : Int) + 1 = ((p + 1 : Nat) : Int) by omega]
      exact d1
    · rw [d2 a j (by omega), up_at, if_neg (by omega), up_at, if_neg (by omega), up_at, if_neg (by omega)]
    · by_cases z : q = p
      · rw [z, d2 28 _ (by omega), d2 29 _ (by omega), d2 30 _ (by omega)]
        simp (disch := omega) only [up_self, up_cell]
        exact ⟨trivial, trivial, trivial⟩
      · exact d3 q (by omega) q2
theorem square_eq {F : Nat} (hF : 100 ≤ F) {n : Nat} (hn : n ≤ 3) (σ : St) : ∃ σ', gX0_becomeSquare F σ 27 n = some σ' ∧ (σ' 27 5 = n ∧ σ' 27 6 = n) ∧ (∀ p : Int, 0 ≤ p → p < n → σ' 28 p = 1 ∧ σ' 29 p = p ∧ σ' 30 p = 999) ∧ ∀ a j, ¬ (27 ≤ a ∧ a ≤ 30) → σ' a j = σ a j := by
  obtain ⟨σ', d1, d2, d3⟩ := square_12 (F := F) hn n F 0 (up (up σ 27 5 n) 27 6 n) (by omega) (by omega)
  refine ⟨σ', d1, ?_, fun p q1 q2 => ?_, fun a j q => ?_⟩
  · rw [d2 27 5 (by omega), d2 27 6 (by omega)]
    simp (disch := omega) only [up_self, up_slot]
    exact ⟨trivial, trivial⟩
  · have := d3 p.toNat (by omega) (by omega)
    rw [Int.toNat_of_nonneg q1] at this
    exact this
  · rw [d2 a j (by omega), up_cell (by omega), up_cell (by omega)]
theorem load_56 {F : Nat} {c48 : Int → St → Option St} {n b g : Nat} (hn : n ≤ 3) (hg : g < n) (hb : b < 512) : ∀ (m k p : Nat) (σ : St), p + m = n → m < k → ∃ σ', gX11_loadNet_L56 F b n c48 k g p σ = c48 ((g : Int) + 1) σ' ∧ (∀ a j, ¬ (a = 162 ∧ (6 * g + p : Int) ≤ j ∧ j < 6 * g + n) → σ' a j = σ a j) ∧ ∀ q : Nat, p ≤ q → q < n → σ' 162 (6 * g + q) = ((b / 2 ^ (n * g + q) % 2 : Nat) : Int) := by
  intro m
  induction m with
  | zero =>
    intro k p σ h1 h3
    obtain ⟨k, rfl⟩ : ∃ k', k = k' + 1 := ⟨k - 1, by omega⟩
    refine ⟨σ, ?_, fun _ _ _ => rfl, fun q q1 q2 => by omega⟩
    rw [gX11_loadNet_L56, w32_id (a := (p : Int)) (by omega), w32_id (a := (n : Int)) (by omega), if_pos (by omega)]
  | succ m ih =>
    intro k p σ h1 h3
    obtain ⟨k, rfl⟩ : ∃ k', k = k' + 1 := ⟨k - 1, by omega⟩
    have h9 : n * g + p < 9 := by
      have : n * g ≤ 3 * 2 := Nat.mul_le_mul hn (by omega)
      omega
    have e1 : (n : Int) * g + p = ((n * g + p : Nat) : Int) := by rw [Int.natCast_add, Int.natCast_mul]
    have e2 : ishr (b : Int) ((n * g + p : Nat) : Int) = ((b / 2 ^ (n * g + p) : Nat) : Int) := ishr_net hb h9
    have e3 := (half_net (b := b / 2 ^ (n * g + p)) (Nat.lt_of_le_of_lt (Nat.div_le_self _ _) hb)).2
    obtain ⟨σ', d1, d2, d3⟩ := ih k (p + 1) (up σ 162 (6 * g + p) ((b / 2 ^ (n * g + p) % 2 : Nat) : Int)) (by omega) (by omega)
    refine ⟨σ', ?_, fun a j q => ?_, fun q q1 q2 => ?_⟩
    · rw [gX11_loadNet_L56, w32_id (a := (p : Int)) (by omega), w32_id (a := (n : Int)) (by omega), if_neg (by omega), w32_id (a := 6 * (g : Int) + p) (by omega), gd_pos (by omega), e1, e2, e3, show (p : Int) + 1 = ((p + 1 : Nat) : Int) by omega]
      exact d1
    · rw [d2 a j (by omega), up_at, if_neg (by omega)]
    · by_cases z : q = p
      · rw [z, d2 162 _ (by omega), up_self]
      · exact d3 q (by omega) q2
theorem load_48 {F : Nat} (hF : 100 ≤ F) {n b : Nat} (hn : n ≤ 3) (hb : b < 512) : ∀ (m k g : Nat) (σ : St), g + m = n → m < k → ∃ σ', gX11_loadNet_L48 F b n k g σ = gX11_fresh F σ' ∧ (∀ a j, a ≠ 162 → σ' a j = σ a j) ∧ (∀ j : Int, j < 6 * g → σ' 162 j = σ 162 j) ∧ (∀ j, σ' 162 j = σ 162 j ∨ 0 ≤ σ' 162 j ∧ σ' 162 j ≤ 1) ∧ ∀ y q : Nat, g ≤ y → y < n → q < n → σ' 162 (6 * y + q) = ((b / 2 ^ (n * y + q) % 2 : Nat) : Int) := by
  intro m
  induction m with
  | zero =>
    intro k g σ h1 h2
    obtain ⟨k, rfl⟩ : ∃ k', k = k' + 1 := ⟨k - 1, by omega⟩
    refine ⟨σ, ?_, fun _ _ _ => rfl, fun _ _ => rfl, fun _ => Or.inl rfl, fun y q q1 q2 q3 => by omega⟩
    rw [gX11_loadNet_L48, w32_id (a := (g : Int)) (by omega), w32_id (a := (n : Int)) (by omega), if_pos (by omega), bindS]
  | succ m ih =>
    intro k g σ h1 h2
    obtain ⟨k, rfl⟩ : ∃ k', k = k' + 1 := ⟨k - 1, by omega⟩
    obtain ⟨σ1, a1, a2, a3⟩ := load_56 (F := F) (c48 := gX11_loadNet_L48 F b n k) (n := n) (g := g) hn (by omega) hb n F 0 σ (by omega) (by omega)
    obtain ⟨σ', d1, d2, d3, d4, d5⟩ := ih k (g + 1) σ1 (by omega) (by omega)
    refine ⟨σ', ?_, fun a j q => by rw [d2 a j q, a2 a j (by omega)], fun j q => by rw [d3 j (by omega), a2 162 j (by omega)], fun j => ?_, fun y q q1 q2 q3 => ?_⟩
    · rw [gX11_loadNet_L48, w32_id (a := (g : Int)) (by omega), w32_id (a := (n : Int)) (by omega), if_neg (by omega)]
      have a1' : gX11_loadNet_L56 F b n (gX11_loadNet_L48 F b n k) F g 0 σ = _ := a1
      rw [a1', show (g : Int) + 1 = ((g + 1 : Nat) : Int) by omega]
      exact d1
    · rcases d4 j with w | w
      · by_cases z : 6 * (g : Int) ≤ j ∧ j < 6 * g + n
        · right
          have := a3 (j - 6 * g).toNat (by omega) (by omega)
          rw [show 6 * (g : Int) + ((j - 6 * g).toNat : Nat) = j by omega] at this
          omega
        · left
          rw [w, a2 162 j (by omega)]
      · exact Or.inr w
    · by_cases z : y = g
      · have := a3 q (by omega) q3
        rw [z, d3 _ (by omega), this]
      · exact d5 y q (by omega) q2 q3
theorem load_12 {F : Nat} {n b : Nat} (hn : n ≤ 3) : ∀ (m k p : Nat) (σ : St), p + m = n → m < k → ∃ σ', gX11_loadNet_L12 F b n k p σ = gX11_loadNet_L48 F b n F 0 σ' ∧ (∀ a j, ¬ (159 ≤ a ∧ a ≤ 161 ∧ (p : Int) ≤ j ∧ j < n) → σ' a j = σ a j) ∧ ∀ q : Nat, p ≤ q → q < n → σ' 159 q = 1 ∧ σ' 160 q = q ∧ σ' 161 q = 999 := by
  intro m
  induction m with
  | zero =>
    intro k p σ h1 h2
    obtain ⟨k, rfl⟩ : ∃ k', k = k' + 1 := ⟨k - 1, by omega⟩
    refine ⟨σ, ?_, fun _ _ _ => rfl, fun q q1 q2 => by omega⟩
    rw [gX11_loadNet_L12, w32_id (a := (p : Int)) (by omega), w32_id (a := (n : Int)) (by omega), if_pos (by omega)]
  | succ m ih =>
    intro k p σ h1 h2
    obtain ⟨k, rfl⟩ : ∃ k', k = k' + 1 := ⟨k - 1, by omega⟩
    obtain ⟨σ', d1, d2, d3⟩ := ih k (p + 1) (up (up (up σ 159 p 1) 160 p p) 161 p 999) (by omega) (by omega)
    refine ⟨σ', ?_, fun a j q => ?_, fun q q1 q2 => ?_⟩
    · rw [gX11_loadNet_L12, w32_id (a := (p : Int)) (by omega), w32_id (a := (n : Int)) (by omega), if_neg (by omega), gd_pos (by omega), gd_pos (by omega), gd_pos (by omega), show (p : Int) + 1 = ((p + 1 : Nat) : Int) by omega]
      exact d1
    · rw [d2 a j (by omega), up_at, if_neg (by omega), up_at, if_neg (by omega), up_at, if_neg (by omega)]
    · by_cases z : q = p
      · rw [z, d2 159 _ (by omega), d2 160 _ (by omega), d2 161 _ (by omega)]
        simp (disch := omega) only [up_self, up_cell]
        exact ⟨trivial, trivial, trivial⟩
      · exact d3 q (by omega) q2
theorem load_eq {F : Nat} (hF : 100 ≤ F) {n b : Nat} (hn : 1 ≤ n ∧ n ≤ 3) (hb : b < 512) {τ : St} (hE : Ew τ) : ∃ τ', gX11_loadNet F τ b n = some τ' ∧ EN n b τ' ∧ ∀ a j, ¬ (a = 143 ∧ (j = 26 ∨ j = 27 ∨ j = 35 ∨ j = 36)) → ¬ (159 ≤ a ∧ a ≤ 165) → τ' a j = τ a j := by
  obtain ⟨τ1, a1, a2, a3⟩ := load_12 (F := F) (b := b) hn.2 n F 0 (up (up τ 143 26 n) 143 27 n) (by omega) (by omega)
  obtain ⟨τ2, d1, d2, d3, d4, d5⟩ := load_48 hF hn.2 hb n F 0 τ1 (by omega) (by omega)
  obtain ⟨τ3, f1, f2⟩ := fresh_eq hF τ2
  have fo : ∀ a j, ¬ supC a j → τ3 a j = τ2 a j := fun a b q => by
    unfold supC at q
    rw [f2, if_neg (by omega), if_neg (by omega), if_neg (by omega), if_neg (by omega)]
  have d1' : gX11_loadNet_L48 F b n F 0 τ1 = _ := d1
  refine ⟨τ3, ?_, ⟨⟨?_, ?_⟩, fun p q1 q2 => ?_, fun g p g1 g2 q1 q2 => ?_, fun j q1 q2 => ?_⟩, fun a j q1 q2 => ?_⟩
  · unfold gX11_loadNet
    have a1' : gX11_loadNet_L12 F b n F 0 (up (up τ 143 26 n) 143 27 n) = _ := a1
    rw [a1', d1', f1]
  · rw [fo _ _ (by unfold supC; omega), d2 _ _ (by omega), a2 _ _ (by omega), up_slot (by omega), up_self]
  · rw [fo _ _ (by unfold supC; omega), d2 _ _ (by omega), a2 _ _ (by omega), up_self]
  · rw [fo 159 _ (by unfold supC; omega), fo 160 _ (by unfold supC; omega), fo 161 _ (by unfold supC; omega), d2 159 _ (by omega), d2 160 _ (by omega), d2 161 _ (by omega)]
    have := a3 p.toNat (by omega) (by omega)
    rw [Int.toNat_of_nonneg q1] at this
    exact this
  · rw [fo _ _ (by unfold supC; omega)]
    have := d5 g.toNat p.toNat (by omega) (by omega) (by omega)
    rw [Int.toNat_of_nonneg g1, Int.toNat_of_nonneg q1] at this
    rw [this, netw_at n b g1 (by omega)]
  · rw [fo _ _ (by unfold supC; omega)]
    rcases d4 j with w | w
    · rw [w, a2 _ _ (by omega), up_cell (by omega), up_cell (by omega)]; exact hE j q1 q2
    · omega
  · rw [fo _ _ (by unfold supC; omega), d2 _ _ (by omega), a2 _ _ (by omega), up_at, if_neg (by omega), up_at, if_neg (by omega)]
