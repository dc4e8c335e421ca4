-- PURE LAYER: mean, ends
theorem MeanOK.frame {F : Nat} {σ σ' : St} {r : Int} (h : MeanOK F σ r) (h1 : ∀ a, 1 ≤ a ∧ a ≤ 6 ∨ 63 + 12 * r ≤ a ∧ a ≤ 68 + 12 * r → σ' a = σ a) (h2 : ∀ b, 0 ≤ b → b ≤ 4 → σ' (69 + 12 * r) b = σ (69 + 12 * r) b) (h0 : σ' 0 12 = σ 0 12) : MeanOK F σ' r := by
  obtain ⟨k1, k2, k3⟩ := h
  have em : MF σ' (69 + 12 * r) = MF σ (69 + 12 * r) := by unfold MF; rw [h2 1 (by omega) (by omega), h2 2 (by omega) (by omega), h2 3 (by omega) (by omega), h2 4 (by omega) (by omega)]
  refine ⟨by rw [h2 0 (by omega) (by omega), h1 1 (by omega)]; exact k1, by rw [h2 0 (by omega) (by omega), h0]; exact k2, ?_⟩
  rw [h2 0 (by omega) (by omega), h1 1 (by omega), em]
  exact fun q => ⟨(k3 q).1, fun τ hτ => (k3 q).2 τ (hτ.frame h1)⟩
/-- the version has grown: nothing kept is asked -/
theorem MeanOK.grow {F : Nat} {σ σ' : St} {r : Int} (h : MeanOK F σ r) (hv : σ 1 7 < σ' 1 7) (h2 : σ' (69 + 12 * r) 0 = σ (69 + 12 * r) 0) (h0 : σ' 0 12 = σ 0 12) : MeanOK F σ' r := by
  obtain ⟨k1, k2, k3⟩ := h
  refine ⟨by rw [h2]; omega, by rw [h2, h0]; exact k2, fun q => ?_⟩
  rw [h2] at q
  omega
def OnlyN (r : Int) (σ σ' : St) : Prop := ∀ a b, ¬ scr a b → a ≠ 162 → ¬ (a = 69 + 12 * r ∧ 0 ≤ b ∧ b ≤ 4) → σ' a b = σ a b
/-- both sides, up to the mean itself -/
theorem both_mean {F n : Nat} (hF : 1000 ≤ F) (hn : n < 1000) {σ : St} {r : Int} (hB : InvB n σ) (hR : InvR σ) (hr : 0 ≤ r ∧ r < σ 0 12) (hG6 : σ 1 6 ≤ 6) (hm : MeanOK F σ r) :
    ∃ σ1 σ2 M, gX10_meanOverOrders F σ (63 + 12 * r) = some σ1 ∧ gX11_layMean F σ1 r = some σ2 ∧ MF σ1 (69 + 12 * r) = M ∧ SM σ2 M ∧ MR M 0 ∧ 0 < M.2.1 ∧ MeanOK F σ2 r ∧ (OnlyN r σ σ2 ∧ Ew σ2) ∧ (∀ a b, supB a b ∨ supR a b → σ1 a b = σ a b) := by
  have hr6 : 0 ≤ r ∧ r < 6 := by have := hR.1; omega
  obtain ⟨τc, hx⟩ := ready_ex (F := F) (by omega) hB hR hr
  obtain ⟨σ1, d1, d2, d3, d4⟩ := meanOver_eq hF hn hB hR hr hG6 hm hx
  have sb : ∀ a b, supB a b ∨ supR a b → σ1 a b = σ a b := fun a b q => d4 a b (by unfold supB supR at q; omega) (by unfold supB supR at q; omega)
  obtain ⟨σ2, e1, e2, e3, e4, e162, e5⟩ := layMean_eq (s := σ1) hF hB hR hr hG6 hx sb
  refine ⟨σ1, σ2, _, d1, e1, d2, e2, e3, e4, d3.frame (fun a q => by funext b; exact e5 a b (by omega) (by omega)) (fun b _ _ => e5 _ b (by omega) (by omega)) (e5 0 12 (by omega) (by omega)), ⟨fun a b q1 q3 q2 => ?_, fun j q1 q2 => by rw [e162 j q1 q2]; exact hB.worth j q1 q2⟩, sb⟩
  unfold scr at q1
  rw [e5 a b (by omega) (by omega), d4 a b (by omega) q2]
theorem op_mean {F n : Nat} (hF : 1000 ≤ F) (hn : n < 1000) {σ : St} {a b : Int} (hB : InvB n σ) (hR : InvR σ) (hm : ∀ r, 0 ≤ r → r < 6 → MeanOK F σ r) (ha : w32 a = a) (hb : w32 b = b) :
    ∃ r σ1 σ2, gX10_mean F σ a b = some (r, σ1) ∧ gX11_mean F σ1 a b = some (r, σ2) ∧ (σ2 = σ ∨ (0 ≤ a ∧ a < σ 0 12) ∧ MeanOK F σ2 a ∧ OnlyN a σ σ2 ∧ Ew σ2) := by
  obtain ⟨⟨p1, p2, p3⟩, ⟨g1, g2, g3⟩, -⟩ := id hB
  have hR1 := hR.1
  have mm : ∀ s : St, s 143 16 = σ 0 12 → s 143 4 = σ 1 6 → gX11_mean F s a b = (if 0 ≤ a ∧ a < σ 0 12 then (if 0 ≤ b ∧ b ≤ 1 then (if σ 1 6 ≤ 6 then ((gX11_layMean F s a).bind fun r3 => (gX11_lowest F r3 (r3 143 43) (r3 143 44) b).bind fun r4 => some (r4, r3)) else some (-2, s)) else some (-1, s)) else some (-1, s)) := by
    intro s h1 h2
    unfold gX11_mean
    rw [gX11_isRule_eq s ha (by omega), Option.bind_some, tv_if0, h1, h2, hb, gX11_in_eq s (by rw [← hb]; exact w64w b) (by decide) (by decide), Option.bind_some, tv_if1, w32_id (a := σ 1 6) (by omega)]
  unfold gX10_mean
  rw [gX10_isRule_eq σ ha (w32_id (by omega)), Option.bind_some, tv_if0, gX10_isIn_eq σ hb (by decide) (by decide), Option.bind_some, tv_if1, w32_id (a := σ 1 6) (by omega)]
  by_cases q1 : 0 ≤ a ∧ a < σ 0 12
  · by_cases q2 : 0 ≤ b ∧ b ≤ 1
    · by_cases q3 : σ 1 6 ≤ 6
      · obtain ⟨σ1, σ2, M, d1, d2, d3, d4, d5, d6, d7, d8, d9⟩ := both_mean hF hn hB hR q1 q3 (hm a q1.1 (by omega))
        obtain ⟨s1, s2, -⟩ := d4
        have f1 : σ1 (69 + 12 * a) 1 = M.1 := by rw [← d3]; rfl
        have f2 : σ1 (69 + 12 * a) 2 = M.2.1 := by rw [← d3]; rfl
        obtain ⟨m1, m2, -⟩ := d5
        obtain ⟨r, r1, r2⟩ := lowest_eq (F := F) hF (σ := σ1) (τ := σ2) (a := M.1) (b := M.2.1) (x4 := b) (by omega) (by omega)
        refine ⟨r, σ1, σ2, ?_, ?_, Or.inr ⟨q1, d7, d8⟩⟩
        · rw [if_pos q1, if_pos q2, if_pos q3, ha, gd_pos (by omega), d1, Option.bind_some, show 63 + 12 * a + 6 = 69 + 12 * a by omega, f1, f2, r1, Option.bind_some]
        · rw [mm σ1 (by rw [d9 143 16 (by unfold supR; omega)]; exact hR1.2.2) (by rw [d9 143 4 (by unfold supB; omega)]; exact g3), if_pos q1, if_pos q2, if_pos q3, d2, Option.bind_some, s1, s2, r2, Option.bind_some]
      · refine ⟨-2, σ, σ, by rw [if_pos q1, if_pos q2, if_neg q3], ?_, Or.inl rfl⟩
        rw [mm σ hR1.2.2 g3, if_pos q1, if_pos q2, if_neg q3]
    · refine ⟨-1, σ, σ, by rw [if_pos q1, if_neg q2], ?_, Or.inl rfl⟩
      rw [mm σ hR1.2.2 g3, if_pos q1, if_neg q2]
  · refine ⟨-1, σ, σ, by rw [if_neg q1], ?_, Or.inl rfl⟩
    rw [mm σ hR1.2.2 g3, if_neg q1]
theorem op_ends {F n : Nat} (hF : 1000 ≤ F) (hn : n < 1000) {σ : St} {a b : Int} (hB : InvB n σ) (hR : InvR σ) (hm : ∀ r, 0 ≤ r → r < 6 → MeanOK F σ r) (ha : w32 a = a) (hb : w32 b = b) :
    ∃ r σ1 σ2, gX10_ends F σ a b = some (r, σ1) ∧ gX11_ends F σ1 a b = some (r, σ2) ∧ (σ2 = σ ∨ (0 ≤ a ∧ a < σ 0 12) ∧ MeanOK F σ2 a ∧ OnlyN a σ σ2 ∧ Ew σ2) := by
  obtain ⟨⟨p1, p2, p3⟩, ⟨g1, g2, g3⟩, -⟩ := id hB
  have hR1 := hR.1
  have mm : ∀ s : St, s 143 16 = σ 0 12 → s 143 4 = σ 1 6 → gX11_ends F s a b = (if 0 ≤ a ∧ a < σ 0 12 then (if 0 ≤ b ∧ b ≤ 1 then (if σ 1 6 ≤ 6 then ((gX11_layMean F s a).bind fun r3 => if b ≠ 0 then some (r3 143 46, r3) else some (r3 143 45, r3)) else some (-2, s)) else some (-1, s)) else some (-1, s)) := by
    intro s h1 h2
    unfold gX11_ends
    rw [gX11_isRule_eq s ha (by omega), Option.bind_some, tv_if0, h1, h2, hb, gX11_in_eq s (by rw [← hb]; exact w64w b) (by decide) (by decide), Option.bind_some, tv_if1, w32_id (a := σ 1 6) (by omega)]
  unfold gX10_ends
  rw [gX10_isRule_eq σ ha (w32_id (by omega)), Option.bind_some, tv_if0, gX10_isIn_eq σ hb (by decide) (by decide), Option.bind_some, tv_if1, w32_id (a := σ 1 6) (by omega), hb]
  by_cases q1 : 0 ≤ a ∧ a < σ 0 12
  · by_cases q2 : 0 ≤ b ∧ b ≤ 1
    · by_cases q3 : σ 1 6 ≤ 6
      · obtain ⟨σ1, σ2, M, d1, d2, d3, d4, d5, d6, d7, d8, d9⟩ := both_mean hF hn hB hR q1 q3 (hm a q1.1 (by omega))
        obtain ⟨s1, s2, -, s4⟩ := d4
        have s4' := s4 (by omega)
        have f3 : σ1 (69 + 12 * a) 3 = M.2.2.1 := by rw [← d3]; rfl
        have f4 : σ1 (69 + 12 * a) 4 = M.2.2.2 := by rw [← d3]; rfl
        have m0 := mm σ1 (by rw [d9 143 16 (by unfold supR; omega)]; exact hR1.2.2) (by rw [d9 143 4 (by unfold supB; omega)]; exact g3)
        rw [if_pos q1, if_pos q2, if_pos q3, d2, Option.bind_some, s4'.1, s4'.2] at m0
        rw [if_pos q1, if_pos q2, if_pos q3, ha, gd_pos (by omega), d1, Option.bind_some, show 63 + 12 * a + 6 = 69 + 12 * a by omega, f3, f4]
        by_cases z : b = 0
        · rw [if_neg (fun y => y z)] at m0 ⊢
          exact ⟨_, σ1, σ2, rfl, m0, Or.inr ⟨q1, d7, d8⟩⟩
        · rw [if_pos z] at m0 ⊢
          exact ⟨_, σ1, σ2, rfl, m0, Or.inr ⟨q1, d7, d8⟩⟩
      · refine ⟨-2, σ, σ, by rw [if_pos q1, if_pos q2, if_neg q3], ?_, Or.inl rfl⟩
        rw [mm σ hR1.2.2 g3, if_pos q1, if_pos q2, if_neg q3]
    · refine ⟨-1, σ, σ, by rw [if_pos q1, if_neg q2], ?_, Or.inl rfl⟩
      rw [mm σ hR1.2.2 g3, if_pos q1, if_neg q2]
  · refine ⟨-1, σ, σ, by rw [if_neg q1], ?_, Or.inl rfl⟩
    rw [mm σ hR1.2.2 g3, if_neg q1]
