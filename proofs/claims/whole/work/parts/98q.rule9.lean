-- PURE LAYER: rule (9): its end
theorem fin_both {b : Int → Int} {L R : Int} {σ τ : St} (h : QR b L R σ τ) : DQ b L R σ τ (if w32 (σ 57 5) = 17 then some σ else (gX8_fail σ 5).bind fun r2 => some r2) (if w32 (τ 143 10) ≠ 0 then some τ else if w32 (τ 143 14) = 0 then some τ else (gX11_fails τ 5).bind fun r2 => some r2) := by
  have pf := h.1.2.2.1
  have tk := h.tk
  rw [← pf.1, w32_id (a := σ 57 1) (by have := pf.2.1; omega), w32_id (a := σ 57 5) (by omega), bindS, bindS]
  by_cases z : σ 57 1 = 0
  · have k := (h.1.2.2.2 z).2.2
    have kq : (τ 143 14 = 0 ∨ τ 143 14 = 1 ∨ τ 143 14 = 2 ∨ τ 143 14 = 3) ∧ (σ 57 5 = 17 ↔ τ 143 14 = 0) := by
      unfold tok at k
      rcases k with k | k | k | k | k | k | k | k | k <;> omega
    rw [if_neg (show ¬ σ 57 1 ≠ 0 from fun w => w z), w32_id (a := τ 143 14) (by omega)]
    by_cases t : σ 57 5 = 17
    · rw [if_pos t, if_pos (kq.2.1 t)]
      exact ⟨σ, τ, rfl, rfl, h, frCK.refl R σ, frMK.refl R τ, Int.le_refl _⟩
    · obtain ⟨σ1, τ1, c1, c2, c3, c4, c5, c6⟩ := h.fail (x := 5) (by omega)
      rw [if_neg t, if_neg (fun w => t (kq.2.2 w)), c1, c2]
      exact ⟨σ1, τ1, rfl, rfl, c3, c5.k R, c6.k R, c5.m8 h.2.1.1⟩
  · have t := (pf.2.2 z).2.2
    rw [if_pos (show σ 57 1 ≠ 0 from z), if_neg (by omega), fail_fault h z]
    exact ⟨σ, τ, rfl, rfl, h, frCK.refl R σ, frMK.refl R τ, Int.le_refl _⟩
theorem end_both {F : Nat} (hF : 300 ≤ F) {b : Int → Int} {L R : Int} {σ τ : St} (h : QR b L R σ τ) (k : Int) : DQ b L R σ τ (gX8_readInto_L136 F k σ) (gX11_readRule_L155 F τ) := by
  have pf := h.1.2.2.1
  have tk := h.tk
  unfold gX8_readInto_L136 gX8_expect gX11_readRule_L155 gX11_readRule_L176
  rw [← pf.1, w32_id (a := σ 57 1) (by have := pf.2.1; omega), w32_id (a := σ 57 5) (by omega), w32_id (a := 15) (by decide), bindS, bindS]
  by_cases z : σ 57 1 = 0
  · rw [if_neg (show ¬ σ 57 1 ≠ 0 from fun w => w z), h.isSign z (t := 15) (w := 59) (by omega), Option.bind_some, w32_tv]
    by_cases t : σ 57 5 = 15
    · obtain ⟨σ1, τ1, c1, c2, c3, c4, c5⟩ := h.next hF
      rw [if_neg (show ¬ σ 57 5 ≠ 15 from fun w => w t), tv_pos t, if_pos (show (1 : Int) ≠ 0 by decide), c1, c2, Option.bind_some, Option.bind_some]
      exact DQ.step (c4.m8 h.2.1.1) (c4.k R) (c5.k R) (fin_both c3)
    · obtain ⟨σ1, τ1, c1, c2, c3, c4, c5, c6⟩ := h.fail (x := 2) (by omega)
      have pg := c3.1.2.2.1
      rw [if_pos (show σ 57 5 ≠ 15 from t), tv_neg t, if_neg (show ¬ (0 : Int) ≠ 0 from fun w => w rfl), c1, c2, Option.bind_some, Option.bind_some, nxt_fault F (by rw [← pg.1]; exact pg.2.1) (by rw [← pg.1]; exact c4), Option.bind_some]
      exact DQ.step (c5.m8 h.2.1.1) (c5.k R) (c6.k R) (fin_both c3)
  · have t := (pf.2.2 z).2.2
    rw [if_pos (show σ 57 1 ≠ 0 from z), if_pos (show σ 57 5 ≠ 15 by omega), fail_fault h z, nxt_fault F (by rw [← pf.1]; exact pf.2.1) (by rw [← pf.1]; exact z), Option.bind_some, Option.bind_some]
    exact fin_both h
theorem drop_both {F : Nat} (hF : 300 ≤ F) {b : Int → Int} {L R : Int} {σ τ : St} (h : QR b L R σ τ) : DQ b L R σ τ (gX8_readInto_L118 F (63 + 12 * R) σ) (gX11_readRule_L125 F τ) := by
  have hR := h.2.1
  have pf := h.1.2.2.1
  have tk := h.tk
  unfold gX8_readInto_L118 gX11_readRule_L125
  rw [← pf.1, w32_id (a := σ 57 1) (by have := pf.2.1; omega), w32_id (a := σ 57 5) (by omega)]
  by_cases z : σ 57 1 = 0
  · rw [if_neg (show ¬ σ 57 1 ≠ 0 from fun w => w z), h.isName z (t := 9) (by omega), Option.bind_some, w32_tv]
    by_cases t : σ 57 5 = 9
    · have g : QR b L R (up σ (63 + 12 * R) 10 1) (up τ 156 R 1) := by
        obtain ⟨h1, h2, h3, h4⟩ := id h
        have nC : ∀ a j, ¬ (a = 63 + 12 * R ∧ j = 10) → up σ (63 + 12 * R) 10 1 a j = σ a j := fun a j q => by rw [up_at, if_neg q]
        have nM : ∀ a j, a ≠ 156 → up τ 156 R 1 a j = τ a j := fun a j q => by rw [up_at, if_neg (by omega)]
        refine ⟨?_, by rw [nM 143 16 (by omega)]; exact h2, by rw [nC _ 8 (by omega), nC _ 9 (by omega)]; exact h3, fun _ => ?_⟩
        · refine h1.other ?_ ?_ ?_ ?_ ?_ ?_ <;> simp (disch := omega) only [up_cell]
        · obtain ⟨k1, k2, k3, k4, k5, k6⟩ := h4 z
          refine ⟨?_, fun i i1 i2 => ?_, fun i j i1 i2 i3 => ?_, ?_, fun i i1 i2 => ?_, ?_⟩
          · rw [nC _ 8 (by omega), nM _ _ (by omega)]; exact k1
          · rw [nC _ 8 (by omega)] at i2
            rw [nC _ i (by omega), nC _ i (by omega), nM _ _ (by omega)]; exact k2 i i1 i2
          · rw [nC _ 8 (by omega)] at i3
            rw [nC _ i (by omega), nC _ j (by omega)]; exact k3 i j i1 i2 i3
          · rw [nC _ 9 (by omega), nM _ _ (by omega)]; exact k4
          · rw [nC _ 9 (by omega)] at i2
            rw [nC _ i (by omega), nC _ i (by omega), nC _ i (by omega), nM _ _ (by omega), nM _ _ (by omega), nM _ _ (by omega)]; exact k5 i i1 i2
          · rw [up_self, up_self]; exact ⟨Or.inr rfl, rfl⟩
      obtain ⟨σ1, τ1, c1, c2, c3, c4, c5⟩ := g.next hF
      rw [if_neg (show ¬ σ 57 5 ≠ 9 from fun w => w t), tv_pos t, if_neg (show ¬ (1 : Int) = 0 by decide), hR.2.2, w32_id (a := R) (by omega), gd_pos (by omega), c1, c2, Option.bind_some, Option.bind_some]
      refine DQ.step (Int.le_of_eq (by rw [c4 _ _ (by omega), up_slot (by omega)])) (frCK.trans (fun a j q1 q2 q3 => by rw [up_at, if_neg (by omega)]) (c4.k R)) (frMK.trans (fun a j q1 q2 q3 q4 => by rw [up_at, if_neg (by omega)]) (c5.k R)) (end_both hF c3 _)
    · rw [if_pos (show σ 57 5 ≠ 9 from t), tv_neg t, if_pos rfl]
      exact end_both hF h _
  · have t := (pf.2.2 z).2.2
    rw [if_pos (show σ 57 1 ≠ 0 from z), if_pos (show σ 57 5 ≠ 9 by omega)]
    exact end_both hF h _
