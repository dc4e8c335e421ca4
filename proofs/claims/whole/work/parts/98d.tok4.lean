-- PURE LAYER: the tape's tokens (4): numbers, faults
def dg (b : Int → Int) : Nat → Int → Int → Int
  | 0, _, v => v
  | m + 1, a, v => dg b m (a + 1) (v * 10 + b a - 48)
theorem dg_rng (b : Int → Int) {a : Int} {m : Nat} (hm : m ≤ 3) (h : ∀ j, a ≤ j → j < a + m → 48 ≤ b j ∧ b j ≤ 57) : 0 ≤ dg b m a 0 ∧ dg b m a 0 ≤ 999 := by
  match m, hm with
  | 0, _ =>
    show (0 : Int) ≤ 0 ∧ (0 : Int) ≤ 999
    omega
  | 1, _ =>
    have h0 := h a (by omega) (by omega)
    show 0 ≤ 0 * 10 + b a - 48 ∧ 0 * 10 + b a - 48 ≤ 999
    omega
  | 2, _ =>
    have h0 := h a (by omega) (by omega)
    have h1 := h (a + 1) (by omega) (by omega)
    show 0 ≤ (0 * 10 + b a - 48) * 10 + b (a + 1) - 48 ∧ (0 * 10 + b a - 48) * 10 + b (a + 1) - 48 ≤ 999
    omega
  | 3, _ =>
    have h0 := h a (by omega) (by omega)
    have h1 := h (a + 1) (by omega) (by omega)
    have h2 := h (a + 1 + 1) (by omega) (by omega)
    show 0 ≤ ((0 * 10 + b a - 48) * 10 + b (a + 1) - 48) * 10 + b (a + 1 + 1) - 48 ∧ ((0 * 10 + b a - 48) * 10 + b (a + 1) - 48) * 10 + b (a + 1 + 1) - 48 ≤ 999
    omega
theorem rdNum_L5 (F : Nat) {b : Int → Int} {L e : Int} (he : e ≤ L) : ∀ (m n : Nat) (σ : St), TC b L σ → 0 ≤ σ 57 4 → σ 57 4 + m = e → m < n → (∀ j, σ 57 4 ≤ j → j < e → 48 ≤ b j ∧ b j ≤ 57) → (e = L ∨ ¬ (48 ≤ b e ∧ b e ≤ 57)) → gX8_readNumber_L5 F n σ = gX8_readNumber_L68 F (up (up σ 57 7 (dg b m (σ 57 4) (σ 57 7))) 57 4 e) := by
  intro m
  induction m with
  | zero =>
    intro n σ hT h0 h1 h2 h3 h4
    obtain ⟨n, rfl⟩ : ∃ n', n = n' + 1 := ⟨n - 1, by omega⟩
    have q1 := hT.1
    rw [up_same (show σ 57 7 = dg b 0 (σ 57 4) (σ 57 7) from rfl), up_same (show σ 57 4 = e by omega), gX8_readNumber_L5, show σ 57 4 = e by omega, hT.2.2.1, w32_id (a := e) (by omega), w32_id (a := L) (by omega)]
    by_cases q : e = L
    · rw [if_pos (by omega)]
    · have hb := hT.2.1 e (by omega) (by omega)
      rw [if_neg (by omega), gd_pos (by omega), hT.2.2.2, isFigure_eq σ hb, Option.bind_some, w32_tv, tv_neg (by omega), if_pos rfl]
  | succ m ih =>
    intro n σ hT h0 h1 h2 h3 h4
    obtain ⟨n, rfl⟩ : ∃ n', n = n' + 1 := ⟨n - 1, by omega⟩
    have q1 := hT.1
    have hb := h3 (σ 57 4) (by omega) (by omega)
    have ih' := ih n (up (up σ 57 7 (σ 57 7 * 10 + b (σ 57 4) - 48)) 57 4 (σ 57 4 + 1)) ((hT.up (by omega) (by omega)).up (by omega) (by omega)) (by rw [up_self]; omega) (by rw [up_self]; omega) (by omega) (fun j j1 j2 => h3 j (by rw [up_self] at j1; omega) j2) h4
    have e7 : up (up σ 57 7 (σ 57 7 * 10 + b (σ 57 4) - 48)) 57 4 (σ 57 4 + 1) 57 7 = σ 57 7 * 10 + b (σ 57 4) - 48 := by rw [up_slot (by omega), up_self]
    have cm : ∀ v, up (up (up (up σ 57 7 (σ 57 7 * 10 + b (σ 57 4) - 48)) 57 4 (σ 57 4 + 1)) 57 7 v) 57 4 e = up (up σ 57 7 v) 57 4 e := fun v => by
      funext x y
      simp only [up_at]
      repeat' split
      all_goals first | rfl | omega
    rw [up_self, e7, cm] at ih'
    rw [gX8_readNumber_L5, hT.2.2.1, w32_id (a := σ 57 4) (by omega), w32_id (a := L) (by omega), if_neg (by omega), gd_pos (by omega), hT.2.2.2, isFigure_eq σ (by omega), Option.bind_some, w32_tv, tv_pos hb, if_neg (by decide), gd_pos (by omega), up_slot (by omega)]
    exact ih'
theorem nxt_L170 (F : Nat) {b : Int → Int} {L e : Int} (he : e ≤ L) : ∀ (m n : Nat) (τ : St), TM b L τ → 0 ≤ τ 143 13 → τ 143 13 ≤ τ 143 12 → τ 143 12 + m = e → m < n → (∀ j, τ 143 12 ≤ j → j < e → 48 ≤ b j ∧ b j ≤ 57) → ∃ w, (e - τ 143 13 ≤ 3 → w = dg b m (τ 143 12) (τ 143 15)) ∧ gX11_next_L170 F n τ = gX11_next_L170 F (n - m) (up (up τ 143 15 w) 143 12 e) := by
  intro m
  induction m with
  | zero =>
    intro n τ hT h0 h0' h1 h2 h3
    refine ⟨τ 143 15, fun _ => rfl, ?_⟩
    rw [up_same (show τ 143 15 = τ 143 15 from rfl), up_same (show τ 143 12 = e by omega)]; rfl
  | succ m ih =>
    intro n τ hT h0 h0' h1 h2 h3
    obtain ⟨n, rfl⟩ : ∃ n', n = n' + 1 := ⟨n - 1, by omega⟩
    have q1 := hT.1
    have hb := h3 (τ 143 12) (by omega) (by omega)
    have key : ∀ s1 : Int, (e - τ 143 13 ≤ 3 → s1 = τ 143 15 * 10 + b (τ 143 12) - 48) → ∃ w, (e - τ 143 13 ≤ 3 → w = dg b (m + 1) (τ 143 12) (τ 143 15)) ∧ gX11_next_L231 F (gX11_next_L170 F n) s1 τ = gX11_next_L170 F (n - m) (up (up τ 143 15 w) 143 12 e) := by
      intro s1 hs
      have e13 : up (up τ 143 15 s1) 143 12 (τ 143 12 + 1) 143 13 = τ 143 13 := by rw [up_slot (by omega), up_slot (by omega)]
      obtain ⟨w, w1, w2⟩ := ih n (up (up τ 143 15 s1) 143 12 (τ 143 12 + 1)) ((hT.up (by omega) (by omega)).up (by omega) (by omega)) (by rw [e13]; exact h0) (by rw [e13, up_self]; omega) (by rw [up_self]; omega) (by omega) (fun j j1 j2 => h3 j (by rw [up_self] at j1; omega) j2)
      refine ⟨w, fun h => ?_, ?_⟩
      · rw [w1 (by rw [e13]; exact h), up_self, up_slot (by omega), up_self, hs h]; rfl
      · unfold gX11_next_L231
        rw [up_slot (show (12 : Int) ≠ 15 by omega), w2]
        congr 1
        funext x y
        simp only [up_at]
        repeat' split
        all_goals first | rfl | omega
    rw [gX11_next_L170, hT.byte (by omega), if_pos (show τ 143 12 < L by omega), Option.bind_some, in_eq τ (by omega) (by omega) (by omega), Option.bind_some, w32_tv, tv_pos hb, if_neg (by decide), w32_id (a := τ 143 12 - τ 143 13) (by omega), show n + 1 - (m + 1) = n - m by omega]
    by_cases q : τ 143 12 - τ 143 13 ≥ 3
    · rw [if_pos q]
      exact key _ (fun h => by omega)
    · rw [if_neg q, Option.bind_some]
      exact key _ (fun h => by omega)
