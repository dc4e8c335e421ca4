-- THE INVARIANT: board, rules, tape, sheets
def InvB (n : Nat) (σ : St) : Prop :=
  (0 ≤ σ 1 5 ∧ σ 1 5 ≤ 6 ∧ σ 143 0 = σ 1 5) ∧ (0 ≤ σ 1 6 ∧ σ 1 6 ≤ 9 ∧ σ 143 4 = σ 1 6) ∧ (0 ≤ σ 1 7 ∧ σ 1 7 ≤ 60 * n) ∧
  (σ 144 = σ 2 ∧ σ 145 = σ 3 ∧ σ 146 = σ 4 ∧ σ 147 = σ 5 ∧ σ 148 = σ 6) ∧
  (∀ p, 0 ≤ p → p < σ 1 5 → (1 ≤ σ 2 p ∧ σ 2 p ≤ 3) ∧ (0 ≤ σ 3 p ∧ σ 3 p ≤ 99) ∧ (1 ≤ σ 4 p ∧ σ 4 p ≤ 999)) ∧
  (∀ g, 0 ≤ g → g < σ 1 6 → 0 ≤ σ 5 g ∧ σ 5 g ≤ 9) ∧
  (∀ g p, 0 ≤ g → g < 9 → 0 ≤ p → p < 6 → (0 ≤ σ 6 (6 * g + p) ∧ σ 6 (6 * g + p) ≤ 99) ∧ (σ 1 6 ≤ g ∨ σ 1 5 ≤ p → σ 6 (6 * g + p) = 0)) ∧
  sumN (σ 2) (σ 1 5).toNat 0 ≤ 10
/-- what InvB speaks of -/
def supB (k j : Int) : Prop := (k = 1 ∧ 5 ≤ j ∧ j ≤ 7) ∨ (2 ≤ k ∧ k ≤ 6) ∨ (k = 143 ∧ (j = 0 ∨ j = 4)) ∨ (144 ≤ k ∧ k ≤ 148)
theorem InvB.frame {n : Nat} {σ σ' : St} (h : InvB n σ) (hs : ∀ k j, supB k j → σ' k j = σ k j) : InvB n σ' := by
  have c : ∀ k, 2 ≤ k ∧ k ≤ 6 ∨ 144 ≤ k ∧ k ≤ 148 → σ' k = σ k := fun k hk => by funext j; exact hs k j (by unfold supB; omega)
  have e5 := hs 1 5 (by unfold supB; omega)
  have e6 := hs 1 6 (by unfold supB; omega)
  have e7 := hs 1 7 (by unfold supB; omega)
  have m0 := hs 143 0 (by unfold supB; omega)
  have m4 := hs 143 4 (by unfold supB; omega)
  unfold InvB at h ⊢
  rw [e5, e6, e7, m0, m4, c 2 (by omega), c 3 (by omega), c 4 (by omega), c 5 (by omega), c 6 (by omega), c 144 (by omega), c 145 (by omega), c 146 (by omega), c 147 (by omega), c 148 (by omega)]
  exact h
theorem InvB.next {n : Nat} {σ : St} (h : InvB n σ) : InvB (n + 1) σ := by
  obtain ⟨h1, h2, h3, h4⟩ := h
  exact ⟨h1, h2, ⟨h3.1, by have := h3.2; omega⟩, h4⟩
/-- rule r of both sides -/
def RuleOK (σ : St) (r : Int) : Prop :=
  (1 ≤ σ (63 + 12 * r) 8 ∧ σ (63 + 12 * r) 8 ≤ 6 ∧ σ 150 r = σ (63 + 12 * r) 8) ∧
  (∀ i, 0 ≤ i → i < σ (63 + 12 * r) 8 → (0 ≤ σ (64 + 12 * r) i ∧ σ (64 + 12 * r) i ≤ 5) ∧ (σ (65 + 12 * r) i = 0 ∨ σ (65 + 12 * r) i = 1) ∧ σ 151 (6 * r + i) = σ (64 + 12 * r) i + 10 * σ (65 + 12 * r) i) ∧
  (0 ≤ σ (63 + 12 * r) 9 ∧ σ (63 + 12 * r) 9 ≤ 4 ∧ σ 152 r = σ (63 + 12 * r) 9) ∧
  (∀ i, 0 ≤ i → i < σ (63 + 12 * r) 9 → (0 ≤ σ (66 + 12 * r) i ∧ σ (66 + 12 * r) i ≤ 5) ∧ σ 153 (4 * r + i) = σ (66 + 12 * r) i ∧ (σ (67 + 12 * r) i = 1 ∧ σ 154 (4 * r + i) = 60 ∨ σ (67 + 12 * r) i = 0 ∧ σ 154 (4 * r + i) = 62) ∧ (0 ≤ σ (68 + 12 * r) i ∧ σ (68 + 12 * r) i ≤ 999) ∧ σ 155 (4 * r + i) = σ (68 + 12 * r) i) ∧
  ((σ (63 + 12 * r) 10 = 0 ∨ σ (63 + 12 * r) 10 = 1) ∧ σ 156 r = σ (63 + 12 * r) 10)
def InvR (σ : St) : Prop := (0 ≤ σ 0 12 ∧ σ 0 12 ≤ 6 ∧ σ 143 16 = σ 0 12) ∧ (0 ≤ σ 0 13 ∧ σ 0 13 ≤ 5 ∧ σ 143 9 = σ 0 13) ∧ ∀ r, 0 ≤ r → r < σ 0 12 → RuleOK σ r
def supR (k j : Int) : Prop := (k = 0 ∧ (j = 12 ∨ j = 13)) ∨ (k = 143 ∧ (j = 9 ∨ j = 16)) ∨ (63 ≤ k ∧ k < 135 ∧ (k - 63) % 12 ≤ 5) ∨ (150 ≤ k ∧ k ≤ 156)
theorem RuleOK.frame {σ σ' : St} {r : Int} (hr : 0 ≤ r ∧ r < 6) (h : RuleOK σ r) (hs : ∀ k j, supR k j → σ' k j = σ k j) : RuleOK σ' r := by
  have c : ∀ k, (63 ≤ k ∧ k < 135 ∧ (k - 63) % 12 ≤ 5) ∨ (150 ≤ k ∧ k ≤ 156) → σ' k = σ k := fun k hk => by funext j; exact hs k j (by unfold supR; omega)
  unfold RuleOK at h ⊢
  rw [c (63 + 12 * r) (by omega), c (64 + 12 * r) (by omega), c (65 + 12 * r) (by omega), c (66 + 12 * r) (by omega), c (67 + 12 * r) (by omega), c (68 + 12 * r) (by omega), c 150 (by omega), c 151 (by omega), c 152 (by omega), c 153 (by omega), c 154 (by omega), c 155 (by omega), c 156 (by omega)]
  exact h
theorem InvR.frame {σ σ' : St} (h : InvR σ) (hs : ∀ k j, supR k j → σ' k j = σ k j) : InvR σ' := by
  obtain ⟨h1, h2, h3⟩ := h
  have e1 := hs 0 12 (by unfold supR; omega)
  have e2 := hs 0 13 (by unfold supR; omega)
  have e3 := hs 143 9 (by unfold supR; omega)
  have e4 := hs 143 16 (by unfold supR; omega)
  refine ⟨by rw [e1, e4]; exact h1, by rw [e2, e3]; exact h2, fun r hr1 hr2 => ?_⟩
  rw [e1] at hr2
  exact (h3 r hr1 hr2).frame ⟨hr1, by omega⟩ hs
/-- tape, and the names that the reference knows -/
def InvT (σ : St) : Prop := (0 ≤ σ 57 0 ∧ σ 57 0 ≤ 160 ∧ σ 143 8 = σ 57 0) ∧ σ 149 = σ 58 ∧ (∀ i, 0 ≤ i → i < 160 → 0 ≤ σ 58 i ∧ σ 58 i ≤ 255) ∧ σ 157 = LL 0 iL2 157 ∧ σ 158 = LL 0 iL2 158
def supT (k j : Int) : Prop := (k = 57 ∧ j = 0) ∨ (k = 143 ∧ j = 8) ∨ k = 58 ∨ k = 149 ∨ k = 157 ∨ k = 158
theorem InvT.frame {σ σ' : St} (h : InvT σ) (hs : ∀ k j, supT k j → σ' k j = σ k j) : InvT σ' := by
  have c : ∀ k, k = 58 ∨ k = 149 ∨ k = 157 ∨ k = 158 → σ' k = σ k := fun k hk => by funext j; exact hs k j (by unfold supT; omega)
  unfold InvT at h ⊢
  rw [hs 57 0 (by unfold supT; omega), hs 143 8 (by unfold supT; omega), c 58 (by omega), c 149 (by omega), c 157 (by omega), c 158 (by omega)]
  exact h
def InvS (σ : St) : Prop := ∀ k, 0 ≤ k → k < 4 → (σ 178 k = σ (135 + 2 * k) 1 ∧ (σ (135 + 2 * k) 1 = -4 ∨ 0 ≤ σ (135 + 2 * k) 1 ∧ σ (135 + 2 * k) 1 ≤ 2)) ∧ (σ 179 k = σ (135 + 2 * k) 2 ∧ 0 ≤ σ (135 + 2 * k) 2 ∧ σ (135 + 2 * k) 2 ≤ 64) ∧ ∀ i, 0 ≤ i → i < 64 → σ 180 (64 * k + i) = σ (136 + 2 * k) i ∧ w32 (σ (136 + 2 * k) i) = σ (136 + 2 * k) i
def supS (k j : Int) : Prop := (135 ≤ k ∧ k < 143) ∨ (178 ≤ k ∧ k ≤ 180)
theorem InvS.frame {σ σ' : St} (h : InvS σ) (hs : ∀ k j, supS k j → σ' k j = σ k j) : InvS σ' := by
  have c : ∀ k, (135 ≤ k ∧ k < 143) ∨ (178 ≤ k ∧ k ≤ 180) → σ' k = σ k := fun k hk => by funext j; exact hs k j (by unfold supS; omega)
  intro k h1 h2
  rw [c 178 (by omega), c 179 (by omega), c 180 (by omega), c (135 + 2 * k) (by omega), c (136 + 2 * k) (by omega)]
  exact h k h1 h2
