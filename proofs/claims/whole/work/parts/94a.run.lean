-- PURE LAYER: a run, as both sides make it
def BdOK (σ : St) (b : Int) : Prop := (0 ≤ σ b 5 ∧ σ b 5 ≤ 6) ∧ (0 ≤ σ b 6 ∧ σ b 6 ≤ 9) ∧ (∀ p, 0 ≤ p → p < σ b 5 → (1 ≤ σ (b + 1) p ∧ σ (b + 1) p ≤ 3) ∧ (0 ≤ σ (b + 2) p ∧ σ (b + 2) p ≤ 99) ∧ (1 ≤ σ (b + 3) p ∧ σ (b + 3) p ≤ 999)) ∧ ∀ j, 0 ≤ j → j < 54 → 0 ≤ σ (b + 5) j ∧ σ (b + 5) j ≤ 99
def StOK (σ : St) (k : Int) : Prop := (∀ g, 0 ≤ g → g < 9 → (σ (k + 3) g = -4 ∨ 0 ≤ σ (k + 3) g ∧ σ (k + 3) g < σ (bd k) 5) ∧ (0 ≤ σ (k + 4) g ∧ σ (k + 4) g ≤ 9) ∧ (σ (bd k) 6 ≤ g → σ (k + 3) g = -4)) ∧
  ∀ p, 0 ≤ p → p < 6 → σ (k + 1) p = cntN (σ (k + 3)) p ∧ (p < σ (bd k) 5 → cntN (σ (k + 3)) p ≤ σ (bd k + 1) p ∧ 0 ≤ σ (k + 2) p ∧ σ (k + 2) p ≤ σ (bd k + 3) p)
theorem cntN_rng (f : Int → Int) (p : Int) : 0 ≤ cntN f p ∧ cntN f p ≤ 9 := by
  have := sumN_rng (f := fun g => if f g = p then (1 : Int) else 0) (lo := 0) (hi := 1) 9 0 (fun j _ _ => by by_cases q : f j = p <;> simp [q])
  unfold cntN
  omega
/-- who is the weakest of those who hold p -/
def pWk (pair seq w : Int → Int) (p : Int) : Nat → Int → Int → Int
  | 0, x, _ => x
  | m + 1, x, i => pWk pair seq w p m (if pair i = p ∧ (x = -4 ∨ w (6 * i + p) < w (6 * x + p) ∨ (w (6 * i + p) = w (6 * x + p) ∧ seq x < seq i)) then i else x) (i + 1)
def pKey (room rank paid pair w : Int → Int) (kind g p : Int) : Int :=
  if kind = 0 then w (6 * g + p) else if kind = 1 then 100 * (room p - cntN pair p) / room p else if kind = 2 then room p - cntN pair p else if kind = 3 then rank p else if kind = 4 then paid p else p
theorem freeAt_eq {σ : St} {k p : Int} (hB : BdOK σ (bd k)) (hS : StOK σ k) (hp : 0 ≤ p ∧ p < σ (bd k) 5) : gX7_freeAt σ k p = some (σ (bd k + 1) p - cntN (σ (k + 3)) p) := by
  have h1 := hB.1
  unfold gX7_freeAt
  rw [w32_id (a := p) (by omega), gd_pos (by omega), gd_pos (by omega), (hS.2 p hp.1 (by omega)).1]
theorem worthAt_eq {σ : St} {b g p : Int} (hg : 0 ≤ g ∧ g < 9) (hp : 0 ≤ p ∧ p < 6) : gX0_worthAt σ b g p = some (σ (b + 5) (6 * g + p)) := by
  unfold gX0_worthAt
  rw [show g * 6 + p = 6 * g + p by omega, w32_id (a := 6 * g + p) (by omega), gd_pos (by omega)]
theorem keyC_eq {σ : St} {k kind g p : Int} (hB : BdOK σ (bd k)) (hS : StOK σ k) (hk : 0 ≤ kind ∧ kind ≤ 5) (hg : 0 ≤ g ∧ g < 9) (hp : 0 ≤ p ∧ p < σ (bd k) 5) : gX7_keyOf σ k kind g p = some (pKey (σ (bd k + 1)) (σ (bd k + 2)) (σ (k + 2)) (σ (k + 3)) (σ (bd k + 5)) kind g p) := by
  have h1 := hB.1
  have h2 := hB.2.2.1 p hp.1 hp.2
  have h3 := hS.2 p hp.1 (by omega)
  have h4 := cntN_rng (σ (k + 3)) p
  unfold gX7_keyOf pKey
  rw [w32_id (a := kind) (by omega), w32_id (a := p) (by omega), worthAt_eq hg (by omega), freeAt_eq hB hS hp, Option.bind_some, Option.bind_some, Option.bind_some, w32_id (a := σ (bd k + 1) p) (by omega), if_neg (c := σ (bd k + 1) p ≤ 0) (by omega), idv_eq (by omega) (by omega)]
  repeat rw [gd_pos (by omega)]
  repeat (first | rfl | split)
theorem pKey_rng {σ : St} {k kind g p : Int} (hB : BdOK σ (bd k)) (hS : StOK σ k) (hg : 0 ≤ g ∧ g < 9) (hp : 0 ≤ p ∧ p < σ (bd k) 5) : 0 ≤ pKey (σ (bd k + 1)) (σ (bd k + 2)) (σ (k + 2)) (σ (k + 3)) (σ (bd k + 5)) kind g p ∧ pKey (σ (bd k + 1)) (σ (bd k + 2)) (σ (k + 2)) (σ (k + 3)) (σ (bd k + 5)) kind g p ≤ 1000 := by
  have h1 := hB.1
  have h2 := hB.2.2.1 p hp.1 hp.2
  have h3 := hS.2 p hp.1 (by omega)
  have h4 := cntN_rng (σ (k + 3)) p
  have h5 := hB.2.2.2 (6 * g + p) (by omega) (by omega)
  have h6 : 0 ≤ 100 * (σ (bd k + 1) p - cntN (σ (k + 3)) p) / σ (bd k + 1) p := Int.ediv_nonneg (by omega) (by omega)
  have h7 : 100 * (σ (bd k + 1) p - cntN (σ (k + 3)) p) / σ (bd k + 1) p ≤ 100 * (σ (bd k + 1) p - cntN (σ (k + 3)) p) := Int.ediv_le_self _ (by omega)
  unfold pKey
  repeat (first | omega | split)
/-- the weakest is one who holds p, or nobody -/
theorem pWk_in (pair seq w : Int → Int) (p : Int) : ∀ (m : Nat) (x i : Int), (x = -4 ∨ 0 ≤ x ∧ x < i ∧ pair x = p) → 0 ≤ i → pWk pair seq w p m x i = -4 ∨ 0 ≤ pWk pair seq w p m x i ∧ pWk pair seq w p m x i < i + m ∧ pair (pWk pair seq w p m x i) = p := by
  intro m
  induction m with
  | zero => intro x i h _; show x = -4 ∨ 0 ≤ x ∧ x < i + ((0 : Nat) : Int) ∧ pair x = p; rcases h with h | h; exact Or.inl h; exact Or.inr ⟨h.1, by omega, h.2.2⟩
  | succ m ih =>
    intro x i h hi
    have h1 := ih (if pair i = p ∧ (x = -4 ∨ w (6 * i + p) < w (6 * x + p) ∨ (w (6 * i + p) = w (6 * x + p) ∧ seq x < seq i)) then i else x) (i + 1) (by
      split
      · rename_i q; exact Or.inr ⟨hi, by omega, q.1⟩
      · rcases h with h | h
        · exact Or.inl h
        · exact Or.inr ⟨h.1, by omega, h.2.2⟩) (by omega)
    have e : pWk pair seq w p (m + 1) x i = pWk pair seq w p m (if pair i = p ∧ (x = -4 ∨ w (6 * i + p) < w (6 * x + p) ∨ (w (6 * i + p) = w (6 * x + p) ∧ seq x < seq i)) then i else x) (i + 1) := rfl
    rw [e]
    rcases h1 with h1 | h1
    · exact Or.inl h1
    · exact Or.inr ⟨h1.1, by omega, h1.2.2⟩
theorem weakC_eq {F : Nat} {σ : St} {k p : Int} (hB : BdOK σ (bd k)) (hS : StOK σ k) (hp : 0 ≤ p ∧ p < 6) : ∀ (m n : Nat) (x y i : Int), (x = -4 ∨ (0 ≤ x ∧ x < 9 ∧ y = σ (bd k + 5) (6 * x + p))) → 0 ≤ i → i + m = σ (bd k) 6 → m < n → gX7_weakestAt_L8 F σ k p n x y i = some (pWk (σ (k + 3)) (σ (k + 4)) (σ (bd k + 5)) p m x i) := by
  have hG := hB.2.1
  intro m
  induction m with
  | zero =>
    intro n x y i hx h1 h2 h3
    obtain ⟨n, rfl⟩ : ∃ n', n = n' + 1 := ⟨n - 1, by omega⟩
    rw [gX7_weakestAt_L8, w32_id (a := i) (by omega), w32_id (a := σ (bd k) 6) (by omega), if_pos (by omega)]
    rfl
  | succ m ih =>
    intro n x y i hx h1 h2 h3
    obtain ⟨n, rfl⟩ : ∃ n', n = n' + 1 := ⟨n - 1, by omega⟩
    have r1 := hS.1 i h1 (by omega)
    have r2 := hB.1
    have r3 := hB.2.2.2 (6 * i + p) (by omega) (by omega)
    have e : pWk (σ (k + 3)) (σ (k + 4)) (σ (bd k + 5)) p (m + 1) x i = pWk (σ (k + 3)) (σ (k + 4)) (σ (bd k + 5)) p m (if σ (k + 3) i = p ∧ (x = -4 ∨ σ (bd k + 5) (6 * i + p) < σ (bd k + 5) (6 * x + p) ∨ (σ (bd k + 5) (6 * i + p) = σ (bd k + 5) (6 * x + p) ∧ σ (k + 4) x < σ (k + 4) i)) then i else x) (i + 1) := rfl
    have stay := ih n x y (i + 1) hx (by omega) (by omega) (by omega)
    have move := ih n i (σ (bd k + 5) (6 * i + p)) (i + 1) (Or.inr ⟨h1, by omega, rfl⟩) (by omega) (by omega) (by omega)
    rw [gX7_weakestAt_L8, w32_id (a := i) (by omega), w32_id (a := σ (bd k) 6) (by omega), if_neg (by omega), gd_pos (by omega), w32_id (a := σ (k + 3) i) (by omega), w32_id (a := p) (by omega), e]
    unfold gX7_weakestAt_L77 gX7_weakestAt_L83
    rw [worthAt_eq (by omega) hp, Option.bind_some, stay, move]
    by_cases q1 : σ (k + 3) i = p
    · rw [if_neg (fun z => z q1)]
      rcases hx with hx | hx
      · rw [hx, w32_m4, if_pos rfl, if_pos ⟨q1, Or.inl rfl⟩]
      · have r4 := hB.2.2.2 (6 * x + p) (by omega) (by omega)
        have r5 := hS.1 x hx.1 hx.2.1
        rw [w32_id (a := x) (by omega), if_neg (by omega), hx.2.2, w32_id (a := σ (bd k + 5) (6 * i + p)) (by omega), w32_id (a := σ (bd k + 5) (6 * x + p)) (by omega)]
        by_cases q2 : σ (bd k + 5) (6 * i + p) < σ (bd k + 5) (6 * x + p)
        · rw [if_pos q2, if_pos ⟨q1, Or.inr (Or.inl q2)⟩]
        · rw [if_neg q2]
          by_cases q3 : σ (bd k + 5) (6 * i + p) = σ (bd k + 5) (6 * x + p)
          · rw [if_neg (fun z => z q3), gd_pos (by omega), gd_pos (by omega), w32_id (a := σ (k + 4) i) (by omega), w32_id (a := σ (k + 4) x) (by omega)]
            by_cases q4 : σ (k + 4) i ≤ σ (k + 4) x
            · rw [if_pos q4, if_neg (by omega)]
            · rw [if_neg q4, if_pos (by omega)]
          · rw [if_pos q3, if_neg (by omega)]
    · rw [if_pos q1, if_neg (fun z => q1 z.1)]
