-- PURE LAYER: the store after an entering, place by place
theorem enterS_at {σ : St} {k g p : Int} (hp : p ≠ -4) (a b : Int) : enterS σ k g p a b = if a = k ∧ b = 12 then σ k 12 + 1 else if a = k + 9 ∧ b = σ k 12 then 0 else if a = k + 8 ∧ b = σ k 12 then outC σ k p else if a = k + 7 ∧ b = σ k 12 then payC σ k g p else if a = k + 6 ∧ b = σ k 12 then p else if a = k + 5 ∧ b = σ k 12 then g else if a = k + 4 ∧ b = g then σ k 10 + 1 else if a = k ∧ b = 10 then σ k 10 + 1 else if a = k + 2 ∧ b = p then σ (k + 2) p + payC σ k g p else if a = k + 1 ∧ b = p then dropS σ k (outC σ k p) p (k + 1) p + 1 else if a = k + 3 ∧ b = g then p else dropS σ k (outC σ k p) p a b := by
  have d2 : dropS σ k (outC σ k p) p (k + 2) p = σ (k + 2) p := dropS_o (by omega) (by omega) (by omega)
  have t10 : takeS (dropS σ k (outC σ k p) p) k g p (payC σ k g p) k 10 = σ k 10 := by
    unfold takeS
    rw [up_at, if_neg (by omega), up_at, if_neg (by omega), up_at, if_neg (by omega)]
    exact dropS_o (by omega) (by omega) (by omega)
  have t12 : comeS (takeS (dropS σ k (outC σ k p) p) k g p (payC σ k g p)) k g k 12 = σ k 12 := by
    unfold comeS takeS
    rw [up_at, if_neg (by omega), up_at, if_neg (by omega), up_at, if_neg (by omega), up_at, if_neg (by omega), up_at, if_neg (by omega)]
    exact dropS_o (by omega) (by omega) (by omega)
  unfold enterS
  rw [if_neg hp, noteS_at, t12]
  have c : comeS (takeS (dropS σ k (outC σ k p) p) k g p (payC σ k g p)) k g a b = if a = k + 4 ∧ b = g then σ k 10 + 1 else if a = k ∧ b = 10 then σ k 10 + 1 else takeS (dropS σ k (outC σ k p) p) k g p (payC σ k g p) a b := by
    unfold comeS
    rw [up_at, up_at, t10]
  have t : takeS (dropS σ k (outC σ k p) p) k g p (payC σ k g p) a b = if a = k + 2 ∧ b = p then σ (k + 2) p + payC σ k g p else if a = k + 1 ∧ b = p then dropS σ k (outC σ k p) p (k + 1) p + 1 else if a = k + 3 ∧ b = g then p else dropS σ k (outC σ k p) p a b := by
    unfold takeS
    rw [up_at, up_at, up_at, d2]
  rw [c, t]
theorem enterS_no {σ : St} {k g : Int} (a b : Int) : enterS σ k g (-4) a b = if a = k ∧ b = 12 then σ k 12 + 1 else if a = k + 9 ∧ b = σ k 12 then 0 else if a = k + 8 ∧ b = σ k 12 then -4 else if a = k + 7 ∧ b = σ k 12 then 0 else if a = k + 6 ∧ b = σ k 12 then -4 else if a = k + 5 ∧ b = σ k 12 then g else if a = k + 4 ∧ b = g then σ k 10 + 1 else if a = k ∧ b = 10 then σ k 10 + 1 else σ a b := by
  have t12 : comeS σ k g k 12 = σ k 12 := by unfold comeS; rw [up_at, if_neg (by omega), up_at, if_neg (by omega)]
  have c : comeS σ k g a b = if a = k + 4 ∧ b = g then σ k 10 + 1 else if a = k ∧ b = 10 then σ k 10 + 1 else σ a b := by
    unfold comeS
    rw [up_at, up_at]
  unfold enterS
  rw [if_pos rfl, noteS_at, t12, c]
