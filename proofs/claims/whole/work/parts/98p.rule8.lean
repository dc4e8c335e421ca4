-- PURE LAYER: rule (8): a whole test
theorem L40_fault {F : Nat} {b : Int → Int} {L R : Int} {σ τ : St} (h : QR b L R σ τ) (z : σ 57 1 ≠ 0) (x : Int) : ∃ σ', gX8_readTest_L40 F (63 + 12 * R) x σ = some σ' ∧ QR b L R σ' τ ∧ σ' 57 1 ≠ 0 ∧ frCK R σ σ' ∧ σ' (63 + 12 * R) 8 = σ (63 + 12 * R) 8 := by
  have hR := h.2.1
  have h9 := h.2.2.1.2
  have pf := h.1.2.2.1
  have t := (pf.2.2 z).2.2
  have ex : ∀ s, 0 ≤ s → s ≤ 17 → gX8_expect F σ s = some σ := fun s s0 s1 => by
    unfold gX8_expect
    rw [t, w32_id (a := 18) (by decide), w32_id (a := s) (by omega), if_pos (by omega), fail_fault h z]; rfl
  unfold gX8_readTest_L40 gX8_readTest_L54 gX8_readTest_L67
  rw [t, w32_id (a := 18) (by decide), if_pos (by decide), w32_0, if_pos rfl, ex 14 (by omega) (by omega), Option.bind_some, ex 16 (by omega) (by omega), Option.bind_some, addTest_eq h9 (Or.inl rfl), Option.bind_some]
  by_cases q : σ (63 + 12 * R) 9 < 4
  · rw [if_pos q]
    generalize hi : σ (63 + 12 * R) 9 = i at *
    refine ⟨_, rfl, ⟨?_, hR, ?_, fun w => ?_⟩, ?_, fun a j q1 q2 q3 => ?_, by simp (disch := omega) only [up_cell, up_slot]⟩
    · refine h.1.other ?_ ?_ rfl rfl rfl rfl <;> simp (disch := omega) only [up_cell]
    · rw [up_self, up_slot (by omega)]
      simp (disch := omega) only [up_cell]
      exact ⟨h.2.2.1.1, by omega⟩
    · simp (disch := omega) only [up_cell] at w
      exact absurd w z
    · simp (disch := omega) only [up_cell]
      exact z
    · rw [up_at, if_neg (by omega), up_at, if_neg (by omega), up_at, if_neg (by omega), up_at, if_neg (by omega)]
  · rw [if_neg q]
    exact ⟨σ, rfl, h, z, frCK.refl R σ, rfl⟩
theorem testL19_fault (F : Nat) {τ : St} (h : 0 ≤ τ 143 10 ∧ τ 143 10 ≤ 5) (q : τ 143 10 ≠ 0) : gX11_test_L44 F τ = some τ ∧ gX11_test_L19 F τ = some τ := by
  have e : gX11_test_L44 F τ = some τ := by
    unfold gX11_test_L44
    rw [w32_id (by omega), if_neg (by omega)]
  refine ⟨e, ?_⟩
  unfold gX11_test_L19
  rw [w32_id (by omega), if_pos q, e]
theorem test_both {F : Nat} (hF : 300 ≤ F) {b : Int → Int} {L R : Int} {σ τ : St} (h : QR b L R σ τ) : DT b L R σ τ (gX8_readTest F σ (63 + 12 * R)) (gX11_test F τ) := by
  have hR := h.2.1
  have h9 := h.2.2.1.2
  have pf := h.1.2.2.1
  have tk := h.tk
  unfold gX8_readTest gX11_test
  rw [isKey_eq h, Option.bind_some, w32_tv, ← pf.1, w32_id (a := σ 57 1) (by have := pf.2.1; omega)]
  by_cases z : σ 57 1 = 0
  · rw [if_neg (show ¬ σ 57 1 ≠ 0 from fun w => w z), (h.isKey z).1, Option.bind_some, w32_tv]
    have f10 : τ 143 10 = 0 := by rw [← pf.1]; exact z
    have kt := h.2.2.2 z
    have bad : ∀ c : Int, 1 ≤ c → c ≤ 5 → ∃ τ1, gX11_fails τ c = some τ1 ∧ gX11_test_L44 F τ1 = some τ1 ∧ gX11_test_L19 F τ1 = some τ1 ∧ DT b L R σ τ ((gX8_fail σ c).bind fun r => gX8_readTest_L40 F (63 + 12 * R) (σ 57 5) r) (some τ1) := fun c c1 c2 => by
      obtain ⟨σ1, τ1, d1, d2, d3, d4, d5, d6⟩ := h.fail (x := c) ⟨c1, c2⟩
      have pg := d3.1.2.2.1
      obtain ⟨l1, l2⟩ := testL19_fault F (τ := τ1) (by rw [← pg.1]; exact pg.2.1) (by rw [← pg.1]; exact d4)
      obtain ⟨σ2, e1, e2, e3, e4, e5⟩ := L40_fault (F := F) d3 d4 (σ 57 5)
      refine ⟨τ1, d2, l1, l2, σ2, τ1, by rw [d1, Option.bind_some, e1], rfl, e2, (d5.k R).trans e4, d6.k R, fun q => absurd q e3, Int.le_trans (d5.m8 hR.1) (Int.le_of_eq e5.symm)⟩
    by_cases k : σ 57 5 < 6
    · rw [tv_pos k, if_pos (show (1 : Int) ≠ 0 by decide), if_pos (show (1 : Int) ≠ 0 by decide)]
      have wr : w32 (σ (63 + 12 * R) 9) = σ (63 + 12 * R) 9 := w32_id (by omega)
      unfold gX11_test_L19
      rw [f10, w32_0, if_neg (show ¬ (0 : Int) ≠ 0 from fun w => w rfl), hR.2.2, w32_id (a := R) (by omega), gd_pos (by omega), kt.2.2.2.1, wr]
      by_cases q : σ (63 + 12 * R) 9 < 4
      · rw [if_pos q, if_pos (show σ (63 + 12 * R) 9 ≠ 4 by omega)]
        have e15 := (h.isKey z).2 k
        obtain ⟨σ1, τ1, c1, c2, c3, c4, c5⟩ := (h.pend (k := 153) (i := σ (63 + 12 * R) 9) (v := σ 57 5) (by omega) (by omega)).next hF
        unfold gX11_test_L44
        rw [f10, w32_0, if_pos (by omega), hR.2.2, w32_id (a := R) (by omega), gd_pos (by omega), kt.2.2.2.1, w32_id (a := 4 * R + σ (63 + 12 * R) 9) (by omega), gd_pos (by omega), e15, c1, c2, Option.bind_some, Option.bind_some]
        exact DT.step hR.1 c4 ((frMK.pend τ (by omega) (by omega)).trans (c5.k R)) (test2 hF c3 (by rw [c4 _ _ (by omega)]) q (by rw [c5 _ _ (by omega), up_cell (by omega)]; exact kt.2.2.2.1) (fun _ => ⟨by omega, by rw [c5 _ _ (by omega), up_self]⟩))
      · obtain ⟨τ1, b1, b2, b3, b4⟩ := bad 4 (by omega) (by omega)
        rw [if_neg q, if_neg (show ¬ σ (63 + 12 * R) 9 ≠ 4 by omega), b1, Option.bind_some, b2]
        exact b4
    · obtain ⟨τ1, b1, b2, b3, b4⟩ := bad 2 (by omega) (by omega)
      rw [tv_neg k, if_neg (fun w => w rfl), if_neg (fun w => w rfl), b1, Option.bind_some, b3]
      exact b4
  · have t := (pf.2.2 z).2.2
    obtain ⟨σ2, e1, e2, e3, e4, e5⟩ := L40_fault (F := F) h z (σ 57 5)
    rw [if_pos (show σ 57 1 ≠ 0 from z), tv_neg (by omega), if_neg (fun w => w rfl), fail_fault h z, Option.bind_some, e1, (testL19_fault F (τ := τ) (by rw [← pf.1]; exact pf.2.1) (by rw [← pf.1]; exact z)).2]
    exact ⟨σ2, τ, rfl, rfl, e2, e4, frMK.refl R τ, fun q => absurd q e3, Int.le_of_eq e5.symm⟩
