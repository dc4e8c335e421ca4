-- PURE LAYER: an act is taken back
def bk0 (σ : St) (k : Int) : St := up σ k 12 (σ k 12 - 1)
theorem takeBack_go {σ : St} {k : Int} (hA : 0 < σ k 12 ∧ σ k 12 ≤ 18) (hg : 0 ≤ σ (k + 5) (σ k 12 - 1) ∧ σ (k + 5) (σ k 12 - 1) < 9) (hp : 0 ≤ σ (k + 6) (σ k 12 - 1) ∧ σ (k + 6) (σ k 12 - 1) < 6) (h1 : σ (k + 9) (σ k 12 - 1) = 1) :
    gX7_takeBack σ k = some (up (up (bk0 σ k) (k + 3) (σ (k + 5) (σ k 12 - 1)) (σ (k + 6) (σ k 12 - 1))) (k + 1) (σ (k + 6) (σ k 12 - 1)) (σ (k + 1) (σ (k + 6) (σ k 12 - 1)) + 1)) := by
  have w0 : w32 (σ k 12) = σ k 12 := w32_id (by omega)
  have w1 : w32 (σ k 12 - 1) = σ k 12 - 1 := w32_id (by omega)
  have w5 : w32 (σ (k + 5) (σ k 12 - 1)) = σ (k + 5) (σ k 12 - 1) := w32_id (by omega)
  have w6 : w32 (σ (k + 6) (σ k 12 - 1)) = σ (k + 6) (σ k 12 - 1) := w32_id (by omega)
  have w9 : w32 (σ (k + 9) (σ k 12 - 1)) = 1 := by rw [h1]; decide
  unfold gX7_takeBack bk0
  rw [w0, if_pos (by omega)]
  simp (disch := omega) only [up_self, up_cell, w1, w5, w6, w9, gd_pos]
  rw [if_neg (by omega)]
theorem takeBack_no {σ : St} {k : Int} (hA : 0 < σ k 12 ∧ σ k 12 ≤ 18) (hg : 0 ≤ σ (k + 5) (σ k 12 - 1) ∧ σ (k + 5) (σ k 12 - 1) < 9) (hp : σ (k + 6) (σ k 12 - 1) = -4) (h1 : σ (k + 9) (σ k 12 - 1) = 0) :
    gX7_takeBack σ k = some (up (up (bk0 σ k) k 10 (σ k 10 - 1)) (k + 4) (σ (k + 5) (σ k 12 - 1)) 0) := by
  have w0 : w32 (σ k 12) = σ k 12 := w32_id (by omega)
  have w1 : w32 (σ k 12 - 1) = σ k 12 - 1 := w32_id (by omega)
  have w5 : w32 (σ (k + 5) (σ k 12 - 1)) = σ (k + 5) (σ k 12 - 1) := w32_id (by omega)
  have w6 : w32 (σ (k + 6) (σ k 12 - 1)) = -4 := by rw [hp]; decide
  have w9 : w32 (σ (k + 9) (σ k 12 - 1)) = 0 := by rw [h1]; decide
  have u10 : up σ k 12 (σ k 12 - 1) k 10 = σ k 10 := by rw [up_at, if_neg (by omega)]
  unfold gX7_takeBack bk0
  rw [w0, if_pos (by omega)]
  simp (disch := omega) only [up_self, up_cell, u10, w1, w5, w6, w9, gd_pos, if_true]
theorem takeBack_in {σ : St} {k : Int} (hA : 0 < σ k 12 ∧ σ k 12 ≤ 18) (hg : 0 ≤ σ (k + 5) (σ k 12 - 1) ∧ σ (k + 5) (σ k 12 - 1) < 9) (hp : 0 ≤ σ (k + 6) (σ k 12 - 1) ∧ σ (k + 6) (σ k 12 - 1) < 6) (h1 : σ (k + 9) (σ k 12 - 1) = 0) (ho : σ (k + 8) (σ k 12 - 1) = -4 ∨ 0 ≤ σ (k + 8) (σ k 12 - 1) ∧ σ (k + 8) (σ k 12 - 1) < 9) :
    ∃ s, s = up (up (up (up (up (bk0 σ k) k 10 (σ k 10 - 1)) (k + 4) (σ (k + 5) (σ k 12 - 1)) 0) (k + 3) (σ (k + 5) (σ k 12 - 1)) (-4)) (k + 1) (σ (k + 6) (σ k 12 - 1)) (σ (k + 1) (σ (k + 6) (σ k 12 - 1)) - 1)) (k + 2) (σ (k + 6) (σ k 12 - 1)) (σ (k + 2) (σ (k + 6) (σ k 12 - 1)) - σ (k + 7) (σ k 12 - 1)) ∧
    gX7_takeBack σ k = some (if σ (k + 8) (σ k 12 - 1) = -4 then s else up (up (up s (k + 3) (σ (k + 8) (σ k 12 - 1)) (σ (k + 6) (σ k 12 - 1))) (k + 1) (σ (k + 6) (σ k 12 - 1)) (σ (k + 1) (σ (k + 6) (σ k 12 - 1)))) k 11 (σ k 11 - 1)) := by
  have w0 : w32 (σ k 12) = σ k 12 := w32_id (by omega)
  have w1 : w32 (σ k 12 - 1) = σ k 12 - 1 := w32_id (by omega)
  have w5 : w32 (σ (k + 5) (σ k 12 - 1)) = σ (k + 5) (σ k 12 - 1) := w32_id (by omega)
  have w6 : w32 (σ (k + 6) (σ k 12 - 1)) = σ (k + 6) (σ k 12 - 1) := w32_id (by omega)
  have w9 : w32 (σ (k + 9) (σ k 12 - 1)) = 0 := by rw [h1]; decide
  have w8 : w32 (σ (k + 8) (σ k 12 - 1)) = σ (k + 8) (σ k 12 - 1) := w32_id (by omega)
  have u10 : up σ k 12 (σ k 12 - 1) k 10 = σ k 10 := by rw [up_at, if_neg (by omega)]
  have u12 : ∀ v, up (up σ k 12 (σ k 12 - 1)) k 10 v k 12 = σ k 12 - 1 := fun v => by rw [up_at, if_neg (by omega), up_self]
  refine ⟨_, rfl, ?_⟩
  unfold gX7_takeBack bk0
  rw [w0, if_pos (by omega)]
  have np : ¬ σ (k + 6) (σ k 12 - 1) = -4 := by omega
  simp (disch := omega) only [up_self, up_cell, u10, u12, w1, w5, w6, w9, gd_pos, if_true, if_neg np]
  generalize hs : up (up (up (up (up (up σ k 12 (σ k 12 - 1)) k 10 (σ k 10 - 1)) (k + 4) (σ (k + 5) (σ k 12 - 1)) 0) (k + 3) (σ (k + 5) (σ k 12 - 1)) (-4)) (k + 1) (σ (k + 6) (σ k 12 - 1)) (σ (k + 1) (σ (k + 6) (σ k 12 - 1)) - 1)) (k + 2) (σ (k + 6) (σ k 12 - 1)) (σ (k + 2) (σ (k + 6) (σ k 12 - 1)) - σ (k + 7) (σ k 12 - 1)) = s
  have s1 : s (k + 1) (σ (k + 6) (σ k 12 - 1)) = σ (k + 1) (σ (k + 6) (σ k 12 - 1)) - 1 := by rw [← hs, up_at, if_neg (by omega), up_self]
  have s11 : s k 11 = σ k 11 := by rw [← hs, up_at, if_neg (by omega), up_at, if_neg (by omega), up_at, if_neg (by omega), up_at, if_neg (by omega), up_at, if_neg (by omega), up_at, if_neg (by omega)]
  unfold gX7_takeBackDrop
  rw [w8, w6]
  by_cases q : σ (k + 8) (σ k 12 - 1) = -4
  · rw [if_pos q, if_pos q, Option.bind_some]
  · have x1 : up s (k + 3) (σ (k + 8) (σ k 12 - 1)) (σ (k + 6) (σ k 12 - 1)) (k + 1) (σ (k + 6) (σ k 12 - 1)) = σ (k + 1) (σ (k + 6) (σ k 12 - 1)) - 1 := by rw [up_at, if_neg (by omega), s1]
    have x2 : ∀ v, up (up s (k + 3) (σ (k + 8) (σ k 12 - 1)) (σ (k + 6) (σ k 12 - 1))) (k + 1) (σ (k + 6) (σ k 12 - 1)) v k 11 = σ k 11 := fun v => by rw [up_at, if_neg (by omega), up_at, if_neg (by omega), s11]
    rw [if_neg q, if_neg q, gd_pos (by omega), gd_pos (by omega), gd_pos (by omega), x1, x2, Option.bind_some, Int.sub_add_cancel]
