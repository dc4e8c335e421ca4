-- PURE LAYER: rule (5): a test's tables
theorem addTest_eq {σ : St} {k x y v : Int} (h9 : 0 ≤ σ k 9 ∧ σ k 9 ≤ 4) (hy : y = 0 ∨ y = 1) : gX5_addTest σ k x y v = some (if σ k 9 < 4 then up (up (up (up σ (k + 3) (σ k 9) x) (k + 4) (σ k 9) y) (k + 5) (σ k 9) v) k 9 (σ k 9 + 1) else σ) := by
  have bs : b1 y = y := by rcases hy with rfl | rfl <;> decide
  unfold gX5_addTest
  rw [w32_id (a := σ k 9) (by omega)]
  by_cases q : σ k 9 < 4
  · rw [if_neg (by omega), if_pos q, gd_pos (by omega)]
    simp (disch := omega) only [up_cell, bs]
    rw [w32_id (a := σ k 9) (by omega), gd_pos (by omega), gd_pos (by omega)]
  · rw [if_pos (by omega), if_neg q]
/-- the reference writes a place of the next test ahead of time -/
theorem QR.pend {b : Int → Int} {L R : Int} {σ τ : St} (h : QR b L R σ τ) {k i v : Int} (hk : 153 ≤ k ∧ k ≤ 155) (hi : σ (63 + 12 * R) 9 ≤ i) : QR b L R σ (up τ k (4 * R + i) v) := by
  obtain ⟨h1, h2, h3, h4⟩ := h
  refine ⟨h1.other rfl rfl (up_cell (by omega)) (up_cell (by omega)) (up_cell (by omega)) (up_cell (by omega)), by rw [up_cell (by omega)]; exact h2, h3, fun z => ?_⟩
  obtain ⟨k1, k2, k3, k4, k5, k6⟩ := h4 z
  have n : ∀ a j, ¬ (a = k ∧ j = 4 * R + i) → up τ k (4 * R + i) v a j = τ a j := fun a j q => by rw [up_at, if_neg q]
  refine ⟨by rw [n _ _ (by omega)]; exact k1, fun j j1 j2 => by rw [n _ _ (by omega)]; exact k2 j j1 j2, k3, by rw [n _ _ (by omega)]; exact k4, fun j j1 j2 => ?_, by rw [n _ _ (by omega)]; exact k6⟩
  rw [n 153 _ (by omega), n 154 _ (by omega), n 155 _ (by omega)]
  exact k5 j j1 j2
theorem frMK.pend {R : Int} (τ : St) {k i v : Int} (hk : 153 ≤ k ∧ k ≤ 155) (hi : 0 ≤ i ∧ i < 4) : frMK R τ (up τ k (4 * R + i) v) := fun a j q1 q2 q3 q4 => by rw [up_at, if_neg (by omega)]
/-- the last step: class adds the test, the reference writes the number and counts -/
theorem add_test {b : Int → Int} {L R : Int} {σ τ : St} (h : QR b L R σ τ) {x y v i n : Int} (hi : i = σ (63 + 12 * R) 9) (hi4 : i < 4) (hy : y = 0 ∨ y = 1) (ok : σ 57 1 = 0 → (0 ≤ x ∧ x ≤ 5) ∧ τ 153 (4 * R + i) = x ∧ (y = 1 ∧ τ 154 (4 * R + i) = 60 ∨ y = 0 ∧ τ 154 (4 * R + i) = 62) ∧ (0 ≤ v ∧ v ≤ 999) ∧ n = v) :
    ∃ σ', gX5_addTest σ (63 + 12 * R) x y v = some σ' ∧ QR b L R σ' (up (up τ 155 (4 * R + i) n) 152 R (i + 1)) ∧ frCK R σ σ' ∧ frMK R τ (up (up τ 155 (4 * R + i) n) 152 R (i + 1)) ∧ σ' (63 + 12 * R) 9 = i + 1 ∧ σ' 57 1 = σ 57 1 ∧ σ' (63 + 12 * R) 8 = σ (63 + 12 * R) 8 := by
  obtain ⟨h1, h2, h3, h4⟩ := id h
  have qC : ∀ a j, up (up (up (up σ (63 + 12 * R + 3) i x) (63 + 12 * R + 4) i y) (63 + 12 * R + 5) i v) (63 + 12 * R) 9 (i + 1) a j = if a = 63 + 12 * R ∧ j = 9 then i + 1 else if a = 63 + 12 * R + 5 ∧ j = i then v else if a = 63 + 12 * R + 4 ∧ j = i then y else if a = 63 + 12 * R + 3 ∧ j = i then x else σ a j := fun a j => by simp only [up_at]
  have qM : ∀ a j, up (up τ 155 (4 * R + i) n) 152 R (i + 1) a j = if a = 152 ∧ j = R then i + 1 else if a = 155 ∧ j = 4 * R + i then n else τ a j := fun a j => by simp only [up_at]
  refine ⟨up (up (up (up σ (63 + 12 * R + 3) i x) (63 + 12 * R + 4) i y) (63 + 12 * R + 5) i v) (63 + 12 * R) 9 (i + 1), ?_, ⟨?_, ?_, ?_, fun z => ?_⟩, fun a j q1 q2 q3 => ?_, fun a j q1 q2 q3 q4 => ?_, up_self _ _ _ _, by simp (disch := omega) only [up_cell], by simp (disch := omega) only [up_cell, up_slot]⟩
  · rw [addTest_eq h3.2 hy, ← hi, if_pos hi4]
  · refine h1.other ?_ ?_ ?_ ?_ ?_ ?_ <;> simp (disch := omega) only [up_cell]
  · rw [qM, if_neg (by omega), if_neg (by omega)]; exact h2
  · rw [qC, qC, if_neg (by omega), if_neg (by omega), if_neg (by omega), if_neg (by omega), if_pos ⟨rfl, rfl⟩]
    exact ⟨h3.1, by omega⟩
  · have z : σ 57 1 = 0 := by rw [qC, if_neg (by omega), if_neg (by omega), if_neg (by omega), if_neg (by omega)] at z; exact z
    obtain ⟨o1, o2, o3, o4, o5⟩ := ok z
    obtain ⟨k1, k2, k3, k4, k5, k6⟩ := h4 z
    have nC : ∀ a j, ¬ (a = 63 + 12 * R ∧ j = 9) → ¬ (63 + 12 * R + 3 ≤ a ∧ a ≤ 63 + 12 * R + 5 ∧ j = i) → up (up (up (up σ (63 + 12 * R + 3) i x) (63 + 12 * R + 4) i y) (63 + 12 * R + 5) i v) (63 + 12 * R) 9 (i + 1) a j = σ a j := fun a j w1 w2 => by rw [qC, if_neg w1, if_neg (by omega), if_neg (by omega), if_neg (by omega)]
    have nM : ∀ a j, ¬ (a = 152 ∧ j = R) → ¬ (a = 155 ∧ j = 4 * R + i) → up (up τ 155 (4 * R + i) n) 152 R (i + 1) a j = τ a j := fun a j w1 w2 => by rw [qM, if_neg w1, if_neg w2]
    have n9 : up (up (up (up σ (63 + 12 * R + 3) i x) (63 + 12 * R + 4) i y) (63 + 12 * R + 5) i v) (63 + 12 * R) 9 (i + 1) (63 + 12 * R) 9 = i + 1 := up_self _ _ _ _
    refine ⟨?_, fun j j1 j2 => ?_, fun j l j1 j2 j3 => ?_, ?_, fun j j1 j2 => ?_, ?_⟩
    · rw [nC _ 8 (by omega) (by omega), nM _ _ (by omega) (by omega)]; exact k1
    · rw [nC _ 8 (by omega) (by omega)] at j2
      rw [nC _ j (by omega) (by omega), nC _ j (by omega) (by omega), nM _ _ (by omega) (by omega)]
      exact k2 j j1 j2
    · rw [nC _ 8 (by omega) (by omega)] at j3
      rw [nC _ j (by omega) (by omega), nC _ l (by omega) (by omega)]
      exact k3 j l j1 j2 j3
    · rw [n9, qM, if_pos ⟨rfl, rfl⟩]
    · rw [n9] at j2
      by_cases w : j = i
      · subst w
        rw [nM 153 _ (by omega) (by omega), nM 154 _ (by omega) (by omega)]
        have a3 : up (up (up (up σ (63 + 12 * R + 3) j x) (63 + 12 * R + 4) j y) (63 + 12 * R + 5) j v) (63 + 12 * R) 9 (j + 1) (63 + 12 * R + 3) j = x := by rw [qC, if_neg (by omega), if_neg (by omega), if_neg (by omega), if_pos ⟨rfl, rfl⟩]
        have a4 : up (up (up (up σ (63 + 12 * R + 3) j x) (63 + 12 * R + 4) j y) (63 + 12 * R + 5) j v) (63 + 12 * R) 9 (j + 1) (63 + 12 * R + 4) j = y := by rw [qC, if_neg (by omega), if_neg (by omega), if_pos ⟨rfl, rfl⟩]
        have a5 : up (up (up (up σ (63 + 12 * R + 3) j x) (63 + 12 * R + 4) j y) (63 + 12 * R + 5) j v) (63 + 12 * R) 9 (j + 1) (63 + 12 * R + 5) j = v := by rw [qC, if_neg (by omega), if_pos ⟨rfl, rfl⟩]
        have m5 : up (up τ 155 (4 * R + j) n) 152 R (j + 1) 155 (4 * R + j) = n := by rw [qM, if_neg (by omega), if_pos ⟨rfl, rfl⟩]
        rw [a3, a4, a5, m5]
        exact ⟨o1, o2, o3, o4, o5⟩
      · rw [nC _ j (by omega) (by omega), nC _ j (by omega) (by omega), nC _ j (by omega) (by omega), nM _ _ (by omega) (by omega), nM _ _ (by omega) (by omega), nM _ _ (by omega) (by omega)]
        exact k5 j j1 (by omega)
    · rw [nC _ 10 (by omega) (by omega), nM _ _ (by omega) (by omega)]; exact k6
  · rw [qC, if_neg (by omega), if_neg (by omega), if_neg (by omega), if_neg (by omega)]
  · rw [qM, if_neg (by omega), if_neg (by omega)]
def DT (b : Int → Int) (L R : Int) (σ τ : St) (x y : Option St) : Prop := ∃ σ' τ', x = some σ' ∧ y = some τ' ∧ QR b L R σ' τ' ∧ frCK R σ σ' ∧ frMK R τ τ' ∧ (σ' 57 1 = 0 → σ' (63 + 12 * R) 9 = σ (63 + 12 * R) 9 + 1) ∧ σ (63 + 12 * R) 8 ≤ σ' (63 + 12 * R) 8
theorem DT.step {b : Int → Int} {L R : Int} {σ τ σ' τ' : St} {x y : Option St} (hR : 0 ≤ R) (f : frC σ σ') (g : frMK R τ τ') (h : DT b L R σ' τ' x y) : DT b L R σ τ x y := by
  obtain ⟨s, t, d1, d2, d3, d4, d5, d6, d7⟩ := h
  exact ⟨s, t, d1, d2, d3, (f.k R).trans d4, g.trans d5, fun q => by rw [d6 q, f _ _ (by omega)], Int.le_trans (f.m8 hR) d7⟩
