-- PURE LAYER: the class's guest enters
def noteS (σ : St) (k x1 x2 x3 x4 x5 : Int) : St := up (up (up (up (up (up σ (k + 5) (σ k 12) x1) (k + 6) (σ k 12) x2) (k + 7) (σ k 12) x3) (k + 8) (σ k 12) x4) (k + 9) (σ k 12) x5) k 12 (σ k 12 + 1)
theorem note_eq {σ : St} {k x1 x2 x3 x4 x5 : Int} (ha : 0 ≤ σ k 12 ∧ σ k 12 < 18) (h5 : x5 = 0 ∨ x5 = 1) : gX7_note σ k x1 x2 x3 x4 x5 = some (noteS σ k x1 x2 x3 x4 x5) := by
  have w : w32 (σ k 12) = σ k 12 := w32_id (by omega)
  have g0 : 0 ≤ σ k 12 ∧ σ k 12 < 18 := ha
  have u : ∀ (τ : St) (c j v : Int), c ≠ k → up τ c j v k 12 = τ k 12 := fun τ c j v h => by rw [up_at, if_neg (by omega)]
  unfold gX7_note noteS
  rw [w, if_neg (by omega), gd_pos g0, u σ (k + 5) _ _ (by omega), w, gd_pos g0, u _ (k + 6) _ _ (by omega), u σ (k + 5) _ _ (by omega), w, gd_pos g0, u _ (k + 7) _ _ (by omega), u _ (k + 6) _ _ (by omega), u σ (k + 5) _ _ (by omega), w, gd_pos g0, u _ (k + 8) _ _ (by omega), u _ (k + 7) _ _ (by omega), u _ (k + 6) _ _ (by omega), u σ (k + 5) _ _ (by omega), w, gd_pos g0, u _ (k + 9) _ _ (by omega), u _ (k + 8) _ _ (by omega), u _ (k + 7) _ _ (by omega), u _ (k + 6) _ _ (by omega), u σ (k + 5) _ _ (by omega), b1_01 h5]
theorem noteS_at (σ : St) (k x1 x2 x3 x4 x5 a b : Int) : noteS σ k x1 x2 x3 x4 x5 a b = if a = k ∧ b = 12 then σ k 12 + 1 else if a = k + 9 ∧ b = σ k 12 then x5 else if a = k + 8 ∧ b = σ k 12 then x4 else if a = k + 7 ∧ b = σ k 12 then x3 else if a = k + 6 ∧ b = σ k 12 then x2 else if a = k + 5 ∧ b = σ k 12 then x1 else σ a b := rfl
