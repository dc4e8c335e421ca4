-- PURE LAYER: the next order
def nxI (f : Int → Int) : Nat → Int → Int
  | 0, i => i
  | m + 1, i => if i < 0 then i else if f i ≤ f (i + 1) then i else nxI f m (i - 1)
def nxJ (f : Int → Int) (i : Int) : Nat → Int → Int
  | 0, j => j
  | m + 1, j => if f i ≤ f j then j else nxJ f i m (j - 1)
def swF (f : Int → Int) (i j : Int) : Int → Int := upf (upf f i (f j)) j (f i)
def rvF : Nat → Int → Int → (Int → Int) → (Int → Int)
  | 0, _, _, f => f
  | m + 1, a, b, f => if b ≤ a then f else rvF m (a + 1) (b - 1) (swF f a b)
def nxt (n : Int) (f : Int → Int) : Int × (Int → Int) := if nxI f 9 (n - 2) < 0 then (0, f) else (1, rvF 9 (nxI f 9 (n - 2) + 1) (n - 1) (swF f (nxI f 9 (n - 2)) (nxJ f (nxI f 9 (n - 2)) 9 (n - 1))))
def OrR (f : Int → Int) : Prop := ∀ b, 0 ≤ b → b < 9 → 0 ≤ f b ∧ f b ≤ 8
theorem OrR.sw {f : Int → Int} {i j : Int} (h : OrR f) (hi : 0 ≤ i ∧ i < 9) (hj : 0 ≤ j ∧ j < 9) : OrR (swF f i j) := by
  intro b h1 h2
  unfold swF upf
  have a1 := h i hi.1 hi.2
  have a2 := h j hj.1 hj.2
  have a3 := h b h1 h2
  repeat' split
  all_goals omega
theorem change_eq {σ : St} {i j : Int} (hi : 0 ≤ i ∧ i < 9) (hj : 0 ≤ j ∧ j < 9) : ∃ σ', gX11_change σ i j = some σ' ∧ σ' 166 = swF (σ 166) i j ∧ ∀ a, a ≠ 166 → σ' a = σ a := by
  refine ⟨up (up σ 166 i (σ 166 j)) 166 j (σ 166 i), ?_, by rw [up_fn, up_fn]; rfl, fun a q => by rw [up_cell q, up_cell q]⟩
  unfold gX11_change
  rw [w32_id (a := i) (by omega), w32_id (a := j) (by omega), gd_pos (by omega), gd_pos (by omega), gd_pos (by omega), gd_pos (by omega)]
theorem next_78 {F : Nat} {n : Int} : ∀ (m k : Nat) (a b : Int) (σ : St), 0 ≤ a → a ≤ 9 → b < 9 → -2 ≤ b → b - a ≤ 2 * m → m < k → ∃ σ', gX11_nextOrder_L78 F n k a b σ = some (1, σ') ∧ σ' 166 = rvF m a b (σ 166) ∧ ∀ c, c ≠ 166 → σ' c = σ c := by
  intro m
  induction m with
  | zero =>
    intro k a b σ h1 h1' h2 h3 h4 h5
    obtain ⟨k, rfl⟩ : ∃ n', k = n' + 1 := ⟨k - 1, by omega⟩
    exact ⟨σ, by rw [gX11_nextOrder_L78, w32_id (a := a) (by omega), w32_id (a := b) (by omega), if_pos (by omega)], rfl, fun _ _ => rfl⟩
  | succ m ih =>
    intro k a b σ h1 h1' h2 h3 h4 h5
    obtain ⟨k, rfl⟩ : ∃ n', k = n' + 1 := ⟨k - 1, by omega⟩
    have e : rvF (m + 1) a b (σ 166) = if b ≤ a then σ 166 else rvF m (a + 1) (b - 1) (swF (σ 166) a b) := rfl
    rw [e]
    by_cases z : b ≤ a
    · rw [if_pos z]
      exact ⟨σ, by rw [gX11_nextOrder_L78, w32_id (a := a) (by omega), w32_id (a := b) (by omega), if_pos (by omega)], rfl, fun _ _ => rfl⟩
    · rw [if_neg z]
      obtain ⟨σ1, c1, c2, c3⟩ := change_eq (σ := σ) (i := a) (j := b) (by omega) (by omega)
      obtain ⟨σ', d1, d2, d3⟩ := ih k (a + 1) (b - 1) σ1 (by omega) (by omega) (by omega) (by omega) (by omega) (by omega)
      refine ⟨σ', ?_, by rw [d2, c2], fun c q => by rw [d3 c q, c3 c q]⟩
      rw [gX11_nextOrder_L78, w32_id (a := a) (by omega), w32_id (a := b) (by omega), if_neg (by omega), c1, Option.bind_some, show b + -1 = b - 1 by omega]
      exact d1
theorem next_41 {F : Nat} (hF : 100 ≤ F) {n i : Int} (hn : 0 ≤ n ∧ n ≤ 9) (hi : 0 ≤ i ∧ i + 1 < n) : ∀ (m k : Nat) (j : Int) (σ : St), OrR (σ 166) → σ 166 i ≤ σ 166 (i + 1) → i + 1 ≤ j → j < n → j ≤ i + 1 + m → m < k → ∃ σ', gX11_nextOrder_L41 F n k i j σ = some (1, σ') ∧ σ' 166 = rvF 9 (i + 1) (n - 1) (swF (σ 166) i (nxJ (σ 166) i m j)) ∧ ∀ c, c ≠ 166 → σ' c = σ c := by
  have stop : ∀ (k : Nat) (j : Int) (σ : St), OrR (σ 166) → i + 1 ≤ j → j < n → σ 166 i ≤ σ 166 j → ∃ σ', gX11_nextOrder_L41 F n (k + 1) i j σ = some (1, σ') ∧ σ' 166 = rvF 9 (i + 1) (n - 1) (swF (σ 166) i j) ∧ ∀ c, c ≠ 166 → σ' c = σ c := by
    intro k j σ h0 h1 h2 h3
    have a1 := h0 i (by omega) (by omega)
    have a2 := h0 j (by omega) (by omega)
    obtain ⟨σ1, c1, c2, c3⟩ := change_eq (σ := σ) (i := i) (j := j) (by omega) (by omega)
    obtain ⟨σ', d1, d2, d3⟩ := next_78 (F := F) (n := n) 9 F (i + 1) (n - 1) σ1 (by omega) (by omega) (by omega) (by omega) (by omega) (by omega)
    refine ⟨σ', ?_, by rw [d2, c2], fun c q => by rw [d3 c q, c3 c q]⟩
    rw [gX11_nextOrder_L41, w32_id (a := j) (by omega), w32_id (a := i) (by omega), gd_pos (by omega), gd_pos (by omega), w32_id (a := σ 166 j) (by omega), w32_id (a := σ 166 i) (by omega), if_pos (by omega), c1, Option.bind_some]
    exact d1
  intro m
  induction m with
  | zero =>
    intro k j σ h0 h1 h2 h3 h4 h5
    obtain ⟨k, rfl⟩ : ∃ n', k = n' + 1 := ⟨k - 1, by omega⟩
    have ej : j = i + 1 := by omega
    exact stop k j σ h0 h2 h3 (by rw [ej]; exact h1)
  | succ m ih =>
    intro k j σ h0 h1 h2 h3 h4 h5
    obtain ⟨k, rfl⟩ : ∃ n', k = n' + 1 := ⟨k - 1, by omega⟩
    have e : nxJ (σ 166) i (m + 1) j = if σ 166 i ≤ σ 166 j then j else nxJ (σ 166) i m (j - 1) := rfl
    rw [e]
    by_cases z : σ 166 i ≤ σ 166 j
    · rw [if_pos z]; exact stop k j σ h0 h2 h3 z
    · rw [if_neg z]
      have nj : j ≠ i + 1 := fun w => z (by rw [w]; exact h1)
      have a1 := h0 i (by omega) (by omega)
      have a2 := h0 j (by omega) (by omega)
      obtain ⟨σ', d1, d2⟩ := ih k (j - 1) σ h0 h1 (by omega) (by omega) (by omega) (by omega)
      refine ⟨σ', ?_, d2⟩
      rw [gX11_nextOrder_L41, w32_id (a := j) (by omega), w32_id (a := i) (by omega), gd_pos (by omega), gd_pos (by omega), w32_id (a := σ 166 j) (by omega), w32_id (a := σ 166 i) (by omega), if_neg (by omega), show j + -1 = j - 1 by omega]
      exact d1
theorem next_4 {F : Nat} (hF : 100 ≤ F) {n : Int} (hn : 0 ≤ n ∧ n ≤ 9) {σ : St} (h0 : OrR (σ 166)) : ∀ (m k : Nat) (i : Int), -2 ≤ i → i + 1 < n ∨ i < 0 → i + 1 ≤ m → m < k → gX11_nextOrder_L4 F n k i σ = gX11_nextOrder_L31 F n (nxI (σ 166) m i) σ ∧ (-2 ≤ nxI (σ 166) m i ∧ nxI (σ 166) m i < 0 ∨ 0 ≤ nxI (σ 166) m i ∧ nxI (σ 166) m i + 1 < n ∧ σ 166 (nxI (σ 166) m i) ≤ σ 166 (nxI (σ 166) m i + 1)) := by
  intro m
  induction m with
  | zero =>
    intro k i h1 h2 h3 h4
    obtain ⟨k, rfl⟩ : ∃ n', k = n' + 1 := ⟨k - 1, by omega⟩
    refine ⟨by rw [gX11_nextOrder_L4, w32_id (a := i) (by omega), if_pos (by omega)]; rfl, Or.inl ?_⟩
    show -2 ≤ i ∧ i < 0
    omega
  | succ m ih =>
    intro k i h1 h2 h3 h4
    obtain ⟨k, rfl⟩ : ∃ n', k = n' + 1 := ⟨k - 1, by omega⟩
    have e : nxI (σ 166) (m + 1) i = if i < 0 then i else if σ 166 i ≤ σ 166 (i + 1) then i else nxI (σ 166) m (i - 1) := rfl
    rw [e]
    by_cases z : i < 0
    · rw [if_pos z]
      exact ⟨by rw [gX11_nextOrder_L4, w32_id (a := i) (by omega), if_pos z], Or.inl ⟨h1, z⟩⟩
    · rw [if_neg z]
      have a1 := h0 i (by omega) (by omega)
      have a2 := h0 (i + 1) (by omega) (by omega)
      by_cases y : σ 166 i ≤ σ 166 (i + 1)
      · rw [if_pos y]
        exact ⟨by rw [gX11_nextOrder_L4, w32_id (a := i) (by omega), if_neg z, gd_pos (by omega), w32_id (a := i + 1) (by omega), gd_pos (by omega), w32_id (a := σ 166 i) (by omega), w32_id (a := σ 166 (i + 1)) (by omega), if_pos y], Or.inr ⟨by omega, by omega, y⟩⟩
      · rw [if_neg y]
        have i' := ih k (i - 1) (by omega) (by omega) (by omega) (by omega)
        refine ⟨?_, i'.2⟩
        rw [gX11_nextOrder_L4, w32_id (a := i) (by omega), if_neg z, gd_pos (by omega), w32_id (a := i + 1) (by omega), gd_pos (by omega), w32_id (a := σ 166 i) (by omega), w32_id (a := σ 166 (i + 1)) (by omega), if_neg y, show i + -1 = i - 1 by omega]
        exact i'.1
theorem next_eq {F : Nat} (hF : 100 ≤ F) {n : Int} (hn : 0 ≤ n ∧ n ≤ 9) {σ : St} (h0 : OrR (σ 166)) : ∃ σ', gX11_nextOrder F σ n = some ((nxt n (σ 166)).1, σ') ∧ σ' 166 = (nxt n (σ 166)).2 ∧ ∀ c, c ≠ 166 → σ' c = σ c := by
  obtain ⟨a1, a2⟩ := next_4 (F := F) hF hn h0 9 F (n - 2) (by omega) (by omega) (by omega) (by omega)
  unfold gX11_nextOrder nxt
  rw [a1]
  unfold gX11_nextOrder_L31
  generalize nxI (σ 166) 9 (n - 2) = i at *
  rcases a2 with q | q
  · rw [if_pos q.2, w32_id (a := i) (by omega), if_neg (by omega)]
    exact ⟨σ, rfl, rfl, fun _ _ => rfl⟩
  · have nq : ¬ i < 0 := by omega
    rw [if_neg nq, w32_id (a := i) (by omega), if_pos (by omega)]
    exact next_41 hF hn (by omega) 9 F (n - 1) σ h0 q.2.2 (by omega) (by omega) (by omega) (by omega)
