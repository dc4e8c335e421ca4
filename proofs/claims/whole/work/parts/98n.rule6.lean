-- PURE LAYER: rule (6): a test's end
theorem testL147_eq (F : Nat) {R i : Int} {τ : St} (hR : 0 ≤ R ∧ R < 6 ∧ τ 143 16 = R) (hi : 0 ≤ i ∧ i < 4) (h152 : τ 152 R = i) : gX11_test_L147 F (4 * R + i) τ = gX11_next F (up (up τ 155 (4 * R + i) (τ 143 15)) 152 R (i + 1)) := by
  unfold gX11_test_L147
  rw [w32_id (a := 4 * R + i) (by omega), gd_pos (by omega)]
  simp (disch := omega) only [up_cell]
  rw [hR.2.2, w32_id (a := R) (by omega), gd_pos (by omega), gd_pos (by omega), h152, bindS]
theorem test3_fault {F : Nat} {b : Int → Int} {L R : Int} {σ τ : St} (h : QR b L R σ τ) (q : σ 57 1 ≠ 0) {x y v i : Int} (hi : i = σ (63 + 12 * R) 9) (hi4 : i < 4) (hy : y = 0 ∨ y = 1) (h152 : τ 152 R = i) :
    DT b L R σ τ (gX5_addTest σ (63 + 12 * R) x y v) (gX11_test_L147 F (4 * R + i) τ) := by
  have h9 := h.2.2.1.2
  obtain ⟨σ', a1, a2, a3, a4, a5, a6, a7⟩ := add_test h (x := x) (v := v) (n := τ 143 15) hi hi4 hy (fun z => absurd z q)
  have pf := h.1.2.2.1
  have e10 : up (up τ 155 (4 * R + i) (τ 143 15)) 152 R (i + 1) 143 10 = σ 57 1 := by rw [up_cell (by omega), up_cell (by omega), ← pf.1]
  rw [testL147_eq F h.2.1 (by omega) h152, nxt_fault F (by rw [e10]; exact pf.2.1) (by rw [e10]; exact q), a1]
  exact ⟨σ', _, rfl, rfl, a2, a3, a4, fun w => absurd (a6.symm.trans w) q, Int.le_of_eq a7.symm⟩
theorem test3 {F : Nat} (hF : 300 ≤ F) {b : Int → Int} {L R : Int} {σ τ : St} (h : QR b L R σ τ) {x y i : Int} (hi : i = σ (63 + 12 * R) 9) (hi4 : i < 4) (hy : y = 0 ∨ y = 1) (h152 : τ 152 R = i)
    (ok : σ 57 1 = 0 → (0 ≤ x ∧ x ≤ 5) ∧ τ 153 (4 * R + i) = x ∧ (y = 1 ∧ τ 154 (4 * R + i) = 60 ∨ y = 0 ∧ τ 154 (4 * R + i) = 62)) :
    DT b L R σ τ ((gX8_expect F σ 16).bind fun r2 => (gX5_addTest r2 (63 + 12 * R) x y (σ 57 7)).bind fun r3 => some r3)
      (if w32 (τ 143 10) ≠ 0 then gX11_test_L147 F (4 * R + i) τ else if w32 (τ 143 14) = 2 then gX11_test_L147 F (4 * R + i) τ else (gX11_fails τ 2).bind fun r2 => gX11_test_L147 F (4 * R + i) r2) := by
  have hR := h.2.1
  have h9 := h.2.2.1.2
  have pf := h.1.2.2.1
  have tk := h.tk
  unfold gX8_expect
  rw [← pf.1, w32_id (a := σ 57 1) (by have := pf.2.1; omega), w32_id (a := σ 57 5) (by omega), w32_id (a := 16) (by decide)]
  by_cases z : σ 57 1 = 0
  · rw [if_neg (show ¬ σ 57 1 ≠ 0 from fun w => w z)]
    have k := (h.1.2.2.2 z).2.2
    have kq : (τ 143 14 = 0 ∨ τ 143 14 = 1 ∨ τ 143 14 = 2 ∨ τ 143 14 = 3) ∧ (σ 57 5 = 16 ↔ τ 143 14 = 2) ∧ (σ 57 5 = 16 → τ 143 15 = σ 57 7 ∧ 0 ≤ σ 57 7 ∧ σ 57 7 ≤ 999) := by
      unfold tok at k
      rcases k with k | k | k | k | k | k | k | k | k <;> omega
    rw [w32_id (a := τ 143 14) (by omega)]
    by_cases t : σ 57 5 = 16
    · obtain ⟨v1, v2⟩ := kq.2.2 t
      obtain ⟨o1, o2, o3⟩ := ok z
      rw [if_neg (show ¬ σ 57 5 ≠ 16 from fun w => w t), if_pos (kq.2.1.1 t), testL147_eq F hR (by omega) h152]
      obtain ⟨σ', a1, a2, a3, a4, a5, a6, a7⟩ := add_test h (x := x) (v := σ 57 7) (n := τ 143 15) hi hi4 hy (fun _ => ⟨o1, o2, o3, v2, v1⟩)
      rw [addTest_eq h9 hy, ← hi, if_pos hi4] at a1
      have a1 := Option.some.inj a1
      generalize hτ : up (up τ 155 (4 * R + i) (τ 143 15)) 152 R (i + 1) = τ3 at *
      have e143 : τ3 143 = τ 143 := by rw [← hτ, up_cell (by omega), up_cell (by omega)]
      obtain ⟨σ3, τ4, c1, c2, c3, c4, c5⟩ := adv_next hF h.1.1 a2.1.2.1 (σ := σ) (τ := τ3) (by unfold PF; rw [e143]; exact pf) (fun q => by unfold PA; rw [e143]; exact (h.1.2.2.2 q).1)
      have n9 : σ3 (63 + 12 * R) 9 = i := by rw [c4 _ _ (by omega), ← hi]
      have e4 := addTest_eq (σ := σ3) (k := 63 + 12 * R) (x := x) (v := σ 57 7) (by omega) hy
      rw [n9, if_pos hi4] at e4
      rw [c1, c2, Option.bind_some, Option.bind_some, e4, Option.bind_some]
      have f4 : frC σ' (up (up (up (up σ3 (63 + 12 * R + 3) i x) (63 + 12 * R + 4) i y) (63 + 12 * R + 5) i (σ 57 7)) (63 + 12 * R) 9 (i + 1)) := fun a j w => by
        rw [← a1]
        simp only [up_at]
        rw [c4 a j w]
      have p4 : PR b L (up (up (up (up σ3 (63 + 12 * R + 3) i x) (63 + 12 * R + 4) i y) (63 + 12 * R + 5) i (σ 57 7)) (63 + 12 * R) 9 (i + 1)) τ4 := by
        refine c3.other ?_ ?_ rfl rfl rfl rfl <;> simp (disch := omega) only [up_cell]
      have z' : σ' 57 1 = 0 := by rw [← a1]; simp (disch := omega) only [up_cell]; exact z
      exact ⟨_, τ4, rfl, rfl, a2.fr p4 f4 c5 (fun _ => z'), a3.trans (f4.k R), a4.trans (c5.k R), fun _ => by rw [up_self, hi], Int.le_trans (Int.le_of_eq a7.symm) (f4.m8 hR.1)⟩
    · obtain ⟨σ1, τ1, c1, c2, c3, c4, c5, c6⟩ := h.fail (x := 2) (by omega)
      rw [if_pos (show σ 57 5 ≠ 16 from t), if_neg (fun w => t (kq.2.1.2 w)), c1, c2, Option.bind_some, Option.bind_some, Option.bind_some, bindS]
      exact DT.step hR.1 c5 (c6.k R) (test3_fault c3 c4 (by rw [c5 _ _ (by omega)]; exact hi) hi4 hy (by rw [c6 _ _ (by omega)]; exact h152))
  · have t := (pf.2.2 z).2.2
    rw [if_pos (show σ 57 1 ≠ 0 from z), if_pos (by omega), fail_fault h z, Option.bind_some, Option.bind_some, bindS]
    exact test3_fault h z hi hi4 hy h152
