-- PURE LAYER: share
def OnlyPE (σ σ' : St) : Prop := ∀ a b, ¬ supP a b → ¬ scr a b → a ≠ 162 → σ' a b = σ a b
theorem op_share {F n : Nat} (hF : 1000 ≤ F) (hn : n < 1000) {σ : St} {a b d : Int} (hB : InvB n σ) (hR : InvR σ) (hp : PlanOK σ) (hE : Ew σ) (ha : w32 a = a) (hb : w32 b = b) (hd : w32 d = d) :
    ∃ r σ1 σ2, gX10_share F σ a b d = some (r, σ1) ∧ gX11_share F σ1 a b d = some (r, σ2) ∧ PlanOK σ2 ∧ OnlyPE σ σ2 ∧ Ew σ2 := by
  obtain ⟨⟨p1, p2, p3⟩, ⟨g1, g2, g3⟩, -⟩ := id hB
  have hR1 := hR.1
  have b17 : bd 17 = 1 := by decide
  have mm : ∀ s : St, s 143 16 = σ 0 12 → gX11_share F s a b d = (if 0 ≤ a ∧ a < σ 0 12 then (if 0 ≤ b ∧ b ≤ 99 then (if 1 ≤ d ∧ d ≤ 99 then ((gX11_loadMain F s).bind fun r4 => (gX11_runByNumbers F r4 a).bind fun r5 => (gX11_keptNow F r5).bind fun r6 => (gX11_best F r5).bind fun r7 => if w32 (r6 * d) < w32 (b * r7.1) then some (0, r7.2) else some (1, r7.2)) else some (-1, s)) else some (-1, s)) else some (-1, s)) := by
    intro s h1
    unfold gX11_share
    rw [gX11_isRule_eq s ha (by omega), Option.bind_some, tv_if0, h1, hb, gX11_in_eq s (by rw [← hb]; exact w64w b) (by decide) (by decide), Option.bind_some, tv_if0, hd, gX11_in_eq s (by rw [← hd]; exact w64w d) (by decide) (by decide), Option.bind_some, tv_if1]
  unfold gX10_share
  rw [gX10_isRule_eq σ ha (w32_id (by omega)), Option.bind_some, tv_if0, gX10_isIn_eq σ hb (by decide) (by decide), Option.bind_some, tv_if0, gX10_isIn_eq σ hd (by decide) (by decide), Option.bind_some, tv_if1]
  by_cases q1 : 0 ≤ a ∧ a < σ 0 12
  · by_cases q2 : 0 ≤ b ∧ b ≤ 99
    · by_cases q3 : 1 ≤ d ∧ d ≤ 99
      · obtain ⟨σ1, e1, e2, e3⟩ := both_run (F := F) (by omega) hB hR q1
        have hB1 : InvB n σ1 := hB.frame (fun x y q => by rw [e2 x (by unfold supB at q; omega)])
        have hp1 : PlanOK σ1 := hp.frame (fun x y q => by rw [e2 x (by unfold supP supB at q; omega)])
        obtain ⟨σ2, d1, d2, d3, d4, d5⟩ := make_eq hF hn hB1 hp1 (b := 9) (by omega)
        have so : ∀ x y, ¬ (17 ≤ x ∧ x ≤ 26) → ¬ supP x y → ¬ (45 ≤ x ∧ x ≤ 49) → σ2 x y = σ x y := fun x y y1 y2 y3 => by rw [d5 x y y2 y3, e2 x y1]
        obtain ⟨τ, τ', k1, k2, k3, k4⟩ := e3 σ2 (fun x y q => so x y (by unfold supB supR at q; omega) (by unfold supB supR at q; unfold supP; omega) (by unfold supB supR at q; omega))
        obtain ⟨r1, r2, r3, r4⟩ := k3.rel
        have ep : plR σ1 = plR σ := by
          funext x
          unfold plR
          rw [e2 2 (by omega), e2 6 (by omega), e2 1 (by omega)]
        obtain ⟨τ2, f1, f2, f3, f4, f5⟩ := bestM_eq hF hB (s := τ') (fun x y q => by rw [k4 x y (by unfold supB at q; omega) (by unfold supB at q; omega)]; exact so x y (by unfold supB at q; omega) (by unfold supB at q; unfold supP; omega) (by unfold supB at q; omega))
        -- the class's kept, read behind the plan
        have sc : ∀ x, 17 ≤ x → x ≤ 26 → σ2 x = σ1 x := fun x y1 y2 => by funext y; exact d5 x y (by unfold supP; omega) (by omega)
        have sb : ∀ x, 1 ≤ x → x ≤ 6 → σ2 x = σ1 x := fun x y1 y2 => by funext y; exact d5 x y (by unfold supP; omega) (by omega)
        have hBd2 : BdOK σ2 (bd 17) := by
          have h := k3.1
          unfold BdOK at h ⊢
          rw [b17] at h ⊢
          rw [sb 1 (by omega) (by omega), sb (1 + 1) (by omega) (by omega), sb (1 + 2) (by omega) (by omega), sb (1 + 3) (by omega) (by omega), sb (1 + 5) (by omega) (by omega)]
          exact h
        have hS2 : StOK σ2 17 := by
          have h := k3.2.1
          unfold StOK at h ⊢
          rw [b17] at h ⊢
          rw [sb 1 (by omega) (by omega), sb (1 + 1) (by omega) (by omega), sb (1 + 3) (by omega) (by omega), sc (17 + 1) (by omega) (by omega), sc (17 + 2) (by omega) (by omega), sc (17 + 3) (by omega) (by omega), sc (17 + 4) (by omega) (by omega)]
          exact h
        have kc := kept_eq (F := F) (by omega) hBd2 hS2
        rw [b17, sb 1 (by omega) (by omega), sb (1 + 5) (by omega) (by omega), sc (17 + 3) (by omega) (by omega)] at kc
        have km := keptNow_eq (F := F) (by omega) r1
        rw [r3, b17] at km
        rw [ep] at d3
        have on : OnlyPE σ τ2 ∧ Ew τ2 := ⟨fun x y y1 y2 y3 => by
          unfold scr at y2
          rw [f5 x y (by omega) (by omega), k4 x y (by omega) (by omega), so x y (by omega) y1 (by omega)], fun j y1 y2 => by
          have h162 : τ' 162 j = σ1 6 j := k3.2.2.1.1.2.2.1 j y1 y2
          rw [f5 162 j (by omega) (by omega), h162, e2 6 (by omega)]; exact hB.worth j y1 y2⟩
        have ok : PlanOK τ2 := d2.frame (fun x y q => by rw [f5 x y (by unfold supP supB at q; omega) (by unfold supP supB at q; omega), k4 x y (by unfold supP supB at q; omega) (by unfold supP supB at q; omega)])
        have m0 := mm σ2 (by rw [so 143 16 (by omega) (by unfold supP; omega) (by omega)]; exact hR1.2.2)
        rw [if_pos q1, if_pos q2, if_pos q3, k1, Option.bind_some, k2, Option.bind_some, km, Option.bind_some, f1, Option.bind_some] at m0
        unfold gX3_makeBest
        rw [if_pos q1, if_pos q2, if_pos q3, ha, gd_pos (by omega), e1, Option.bind_some, d1, Option.bind_some, Option.bind_some, kc, Option.bind_some, d3]
        by_cases z : w32 (sumN (ktF (σ1 (17 + 3)) (σ1 (1 + 5))) (σ1 1 6).toNat 0 * d) < w32 (b * (plR σ 9).1)
        · rw [if_pos z]
          exact ⟨0, σ2, τ2, rfl, by rw [m0, if_pos z], ok, on⟩
        · rw [if_neg z]
          exact ⟨1, σ2, τ2, rfl, by rw [m0, if_neg z], ok, on⟩
      · refine ⟨-1, σ, σ, by rw [if_pos q1, if_pos q2, if_neg q3], ?_, hp, fun _ _ _ _ _ => rfl, hE⟩
        rw [mm σ hR1.2.2, if_pos q1, if_pos q2, if_neg q3]
    · refine ⟨-1, σ, σ, by rw [if_pos q1, if_neg q2], ?_, hp, fun _ _ _ _ _ => rfl, hE⟩
      rw [mm σ hR1.2.2, if_pos q1, if_neg q2]
  · refine ⟨-1, σ, σ, by rw [if_neg q1], ?_, hp, fun _ _ _ _ _ => rfl, hE⟩
    rw [mm σ hR1.2.2, if_neg q1]
