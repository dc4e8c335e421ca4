-- PURE LAYER: rule (7): readTest and test
theorem L113_go {F : Nat} (hF : 300 ≤ F) {b : Int → Int} {L R : Int} {σ τ : St} (h : QR b L R σ τ) {i : Int} (hi : i = σ (63 + 12 * R) 9) (hi4 : i < 4) :
    ∃ σ1 τ1, gX8_advance F σ = some σ1 ∧ gX11_test_L113 F (4 * R + i) τ = (if w32 (τ1 143 10) ≠ 0 then gX11_test_L147 F (4 * R + i) τ1 else if w32 (τ1 143 14) = 2 then gX11_test_L147 F (4 * R + i) τ1 else (gX11_fails τ1 2).bind fun r2 => gX11_test_L147 F (4 * R + i) r2) ∧ QR b L R σ1 τ1 ∧ frC σ σ1 ∧ frMK R τ τ1 ∧ τ1 154 (4 * R + i) = τ 143 15 ∧ τ1 153 (4 * R + i) = τ 153 (4 * R + i) ∧ τ1 152 R = τ 152 R := by
  have hR := h.2.1
  have h9 := h.2.2.1.2
  obtain ⟨σ1, τ1, c1, c2, c3, c4, c5⟩ := (h.pend (k := 154) (i := i) (v := τ 143 15) (by omega) (by omega)).next hF
  refine ⟨σ1, τ1, c1, ?_, c3, c4, (frMK.pend τ (by omega) (by omega)).trans (c5.k R), by rw [c5 _ _ (by omega), up_self], by rw [c5 _ _ (by omega), up_cell (by omega)], by rw [c5 _ _ (by omega), up_cell (by omega)]⟩
  unfold gX11_test_L113
  rw [w32_id (a := 4 * R + i) (by omega), gd_pos (by omega), c2, Option.bind_some]
theorem test2 {F : Nat} (hF : 300 ≤ F) {b : Int → Int} {L R : Int} {σ τ : St} (h : QR b L R σ τ) {x i : Int} (hi : i = σ (63 + 12 * R) 9) (hi4 : i < 4) (h152 : τ 152 R = i) (ok : σ 57 1 = 0 → (0 ≤ x ∧ x ≤ 5) ∧ τ 153 (4 * R + i) = x) :
    DT b L R σ τ (gX8_readTest_L40 F (63 + 12 * R) x σ) (if w32 (τ 143 10) ≠ 0 then gX11_test_L113 F (4 * R + i) τ else (gX11_isSign τ 60).bind fun r2 => if w32 r2 ≠ 0 then gX11_test_L113 F (4 * R + i) τ else (gX11_isSign τ 62).bind fun r3 => if w32 r3 ≠ 0 then gX11_test_L113 F (4 * R + i) τ else (gX11_fails τ 2).bind fun r4 => gX11_test_L113 F (4 * R + i) r4) := by
  have hR := h.2.1
  have pf := h.1.2.2.1
  have tk := h.tk
  have w18 : w32 (σ 57 5) = σ 57 5 := w32_id (by omega)
  have go : ∀ (σ0 τ0 : St), QR b L R σ0 τ0 → frC σ σ0 → frM τ τ0 → ∀ y : Int, y = 0 ∨ y = 1 → (σ0 57 1 = 0 → σ 57 1 = 0 ∧ (y = 1 ∧ τ0 143 15 = 60 ∨ y = 0 ∧ τ0 143 15 = 62)) → DT b L R σ τ ((gX8_advance F σ0).bind fun r1 => (gX8_expect F r1 16).bind fun r2 => (gX5_addTest r2 (63 + 12 * R) x y (r1 57 7)).bind fun r3 => some r3) (gX11_test_L113 F (4 * R + i) τ0) := by
    intro σ0 τ0 g f m y hy hz
    obtain ⟨σ1, τ1, c1, c2, c3, c4, c5, c6, c7, c8⟩ := L113_go hF g (i := i) (by rw [f _ _ (by omega)]; exact hi) hi4
    rw [c1, c2, Option.bind_some]
    refine DT.step hR.1 (f.trans c4) ((m.k R).trans c5) (test3 hF c3 (by rw [c4 _ _ (by omega), f _ _ (by omega)]; exact hi) hi4 hy (by rw [c8, m _ _ (by omega)]; exact h152) (fun z1 => ?_))
    have z0 : σ0 57 1 = 0 := by
      by_cases q : σ0 57 1 = 0
      · exact q
      · rw [adv_fault F g.1.2.2.1.2.1 q] at c1
        rw [← Option.some.inj c1] at z1
        exact absurd z1 q
    obtain ⟨u1, u2⟩ := hz z0
    obtain ⟨o1, o2⟩ := ok u1
    exact ⟨o1, by rw [c7, m _ _ (by omega)]; exact o2, by rw [c6]; exact u2⟩
  unfold gX8_readTest_L40 gX8_readTest_L54 gX8_readTest_L67
  rw [w18, ← pf.1, w32_id (a := σ 57 1) (by have := pf.2.1; omega)]
  have ex : ∀ s, 0 ≤ s → s ≤ 18 → gX8_expect F σ s = if σ 57 5 ≠ s then gX8_fail σ 2 else gX8_advance F σ := fun s s0 s1 => by
    unfold gX8_expect
    rw [w18, w32_id (a := s) (by omega), bindS, bindS]
  by_cases z : σ 57 1 = 0
  · have k := (h.1.2.2.2 z).2.2
    have kv : (σ 57 5 = 13 → τ 143 15 = 60) ∧ (σ 57 5 = 14 → τ 143 15 = 62) := by
      unfold tok at k
      rcases k with k | k | k | k | k | k | k | k | k <;> omega
    rw [if_neg (show ¬ σ 57 1 ≠ 0 from fun w => w z), h.isSign z (t := 13) (w := 60) (by omega), h.isSign z (t := 14) (w := 62) (by omega), Option.bind_some, Option.bind_some, w32_tv, w32_tv]
    by_cases t : σ 57 5 = 13
    · rw [if_neg (show ¬ σ 57 5 ≠ 13 from fun w => w t), w32_1, if_neg (show ¬ (1 : Int) = 0 by decide), tv_pos t, if_pos (show (1 : Int) ≠ 0 by decide), ex 13 (by omega) (by omega), if_neg (fun w => w t)]
      exact go σ τ h (frC.refl σ) (frM.refl τ) 1 (Or.inr rfl) (fun _ => ⟨z, Or.inl ⟨rfl, kv.1 t⟩⟩)
    · rw [if_pos (show σ 57 5 ≠ 13 from t), w32_0, if_pos rfl, tv_neg t, if_neg (fun w => w rfl), ex 14 (by omega) (by omega)]
      by_cases u : σ 57 5 = 14
      · rw [if_neg (show ¬ σ 57 5 ≠ 14 from fun w => w u), tv_pos u, if_pos (by decide)]
        exact go σ τ h (frC.refl σ) (frM.refl τ) 0 (Or.inl rfl) (fun _ => ⟨z, Or.inr ⟨rfl, kv.2 u⟩⟩)
      · obtain ⟨σ1, τ1, c1, c2, c3, c4, c5, c6⟩ := h.fail (x := 2) (by omega)
        have e := go σ1 τ1 c3 c5 c6 0 (Or.inl rfl) (fun q => absurd q c4)
        rw [adv_fault F c3.1.2.2.1.2.1 c4, Option.bind_some] at e
        rw [if_pos (show σ 57 5 ≠ 14 from u), tv_neg u, if_neg (fun w => w rfl), c1, c2, Option.bind_some, Option.bind_some]
        exact e
  · have t := (pf.2.2 z).2.2
    have e := go σ τ h (frC.refl σ) (frM.refl τ) 0 (Or.inl rfl) (fun q => absurd q z)
    rw [adv_fault F pf.2.1 z, Option.bind_some] at e
    rw [if_pos (show σ 57 1 ≠ 0 from z), if_pos (show σ 57 5 ≠ 13 by omega), w32_0, if_pos rfl, ex 14 (by omega) (by omega), if_pos (show σ 57 5 ≠ 14 by omega), fail_fault h z, Option.bind_some]
    exact e
