-- PURE LAYER: meanOfRanks
def OnlyK (r : Int) (σ σ' : St) : Prop := ∀ a b, ¬ scr a b → a ≠ 32 → a ≠ 162 → ¬ (a = 70 + 12 * r ∧ 0 ≤ b ∧ b ≤ 4) → σ' a b = σ a b
theorem op_meanOfRanks {F n : Nat} (hF : 1000 ≤ F) (hn : n < 1000) {σ : St} {a b : Int} (hB : InvB n σ) (hR : InvR σ) (hm : ∀ r, 0 ≤ r → r < 6 → RkMean F σ r) (ht : TrOK σ) (ha : w32 a = a) (hb : w32 b = b) :
    ∃ r σ1 σ2, gX10_meanOfRanks F σ a b = some (r, σ1) ∧ gX11_meanOfRanks F σ1 a b = some (r, σ2) ∧ (σ2 = σ ∨ (0 ≤ a ∧ a < σ 0 12) ∧ RkMean F σ2 a ∧ TrOK σ2 ∧ OnlyK a σ σ2 ∧ Ew σ2) := by
  obtain ⟨⟨p1, p2, p3⟩, ⟨g1, g2, g3⟩, v1, -⟩ := id hB
  have hR1 := hR.1
  have mm : ∀ s : St, s 143 16 = σ 0 12 → gX11_meanOfRanks F s a b = (if 0 ≤ a ∧ a < σ 0 12 then (if 0 ≤ b ∧ b ≤ 1 then ((gX11_loadMain F s).bind fun r3 => (gX11_firstOrder F r3).bind fun r4 => gX11_meanOfRanks_L38 F a b F 0 0 1 r4) else some (-1, s)) else some (-1, s)) := by
    intro s h1
    unfold gX11_meanOfRanks
    rw [gX11_isRule_eq s ha (by omega), Option.bind_some, tv_if0, h1, hb, gX11_in_eq s (by rw [← hb]; exact w64w b) (by decide) (by decide), Option.bind_some, tv_if1]
  unfold gX10_meanOfRanks
  rw [gX10_isRule_eq σ ha (w32_id (by omega)), Option.bind_some, tv_if0, gX10_isIn_eq σ hb (by decide) (by decide), Option.bind_some, tv_if1]
  by_cases q1 : 0 ≤ a ∧ a < σ 0 12
  · by_cases q2 : 0 ≤ b ∧ b ≤ 1
    · have ha6 : 0 ≤ a ∧ a < 6 := by omega
      obtain ⟨k1, k2, k3⟩ := id (hm a q1.1 (by omega))
      obtain ⟨τc, hl⟩ := loaded_ex (F := F) (by omega) hB hR q1
      -- what follows once the class's fields stand
      have fin : ∀ s : St, (∀ x y, supB x y ∨ supR x y → s x y = σ x y) → s 143 16 = σ 0 12 → ((s (70 + 12 * a) 1 = rsum F σ a τc ∧ s (70 + 12 * a) 2 = rway σ) ∨ (NoRk σ (63 + 12 * a) ∧ s (70 + 12 * a) 1 = VR F a τc (rhoL σ (idL (σ 1 5).toNat)) ∧ s (70 + 12 * a) 2 = 1)) → ∃ r σ2, gX10_meanOfRanks_L104 F a b (70 + 12 * a) s = some (r, s) ∧ gX11_meanOfRanks F s a b = some (r, σ2) ∧ Ew σ2 ∧ ∀ x y, ¬ (x = 143 ∧ (y = 26 ∨ y = 27 ∨ y = 35 ∨ y = 36)) → ¬ (159 ≤ x ∧ x ≤ 166) → σ2 x y = s x y := by
        intro s h1 h2 h3
        obtain ⟨τ', e1, e2, e3, e4, e162, e5⟩ := rkRef (F := F) hF (x2 := b) hB hR q1 hl h1
        rcases h3 with h3 | h3
        · obtain ⟨r, r1, r2⟩ := lowest_eq (F := F) hF (σ := s) (τ := τ') (a := rsum F σ a τc) (b := rway σ) (x4 := b) (by omega) (by omega)
          refine ⟨r, τ', ?_, ?_, fun j y1 y2 => by rw [e162 j y1 y2]; exact hB.worth j y1 y2, e5⟩
          · unfold gX10_meanOfRanks_L104
            rw [h3.1, h3.2, r1, Option.bind_some]
          · rw [mm s h2, if_pos q1, if_pos q2, e1, r2, Option.bind_some]
        · obtain ⟨w1, w2⟩ := e4 h3.1
          obtain ⟨m1, m2⟩ := lowest_mul (F := F) hF (σ := s) (τ := τ') (v := VR F a τc (rhoL σ (idL (σ 1 5).toNat))) (K := rway σ) (b := b) w2 (by omega)
          refine ⟨if w32 b ≠ 0 then 1 else VR F a τc (rhoL σ (idL (σ 1 5).toNat)), τ', ?_, ?_, fun j y1 y2 => by rw [e162 j y1 y2]; exact hB.worth j y1 y2, e5⟩
          · unfold gX10_meanOfRanks_L104
            rw [h3.2.1, h3.2.2, m1, Option.bind_some]
          · rw [mm s h2, if_pos q1, if_pos q2, e1, w1, m2, Option.bind_some]
      rw [if_pos q1, if_pos q2, ha, gd_pos (by omega), show 63 + 12 * a + 7 = 70 + 12 * a by omega]
      unfold gX2_isStale
      rw [w32_id (a := σ (70 + 12 * a) 0) (by omega), w32_id (a := σ 1 7) (by omega)]
      by_cases q3 : σ (70 + 12 * a) 0 = σ 1 7
      · obtain ⟨r, σ2, f1, f2, fE, f3⟩ := fin σ (fun _ _ _ => rfl) hR1.2.2 (k3 q3 τc hl)
        rw [if_pos q3, Option.bind_some, if_pos (by decide)]
        refine ⟨r, σ, σ2, f1, f2, Or.inr ⟨q1, (hm a q1.1 (by omega)).frame q1.1 (fun x y => by funext z; exact f3 x z (by omega) (by omega)) (fun y _ _ => f3 _ y (by omega) (by omega)) (f3 0 12 (by omega) (by omega)), fun j y1 y2 => by rw [f3 32 j (by omega) (by omega)]; exact ht j y1 y2, fun x y y1 y2 y4 y3 => f3 x y (by unfold scr at y1; omega) (by unfold scr at y1; omega), fE⟩⟩
      · rw [if_neg q3, Option.bind_some, if_neg (by decide)]
        obtain ⟨s5, s6, v, σ1, c1, c2, c3, c4, c5, c6, c7, c8, c9, c10⟩ := rkNew (F := F) hF hB hR q1 hl
        have sb : ∀ x y, supB x y ∨ supR x y → σ1 x y = σ x y := fun x y q => c10 x y (by unfold supB supR at q; omega) (by unfold supB supR at q; omega)
        obtain ⟨r, σ2, f1, f2, fE, f3⟩ := fin σ1 sb (by rw [sb 143 16 (by unfold supR; omega)]; exact hR1.2.2) c7
        have cc : ∀ x, 1 ≤ x ∧ x ≤ 6 ∨ 63 + 12 * a ≤ x ∧ x ≤ 68 + 12 * a → σ1 x = σ x := fun x y => by funext z; exact c10 x z (by omega) (by omega)
        have rk1 : RkMean F σ1 a := by
          have er : rhoL σ1 = rhoL σ := by funext L p; unfold rhoL; rw [cc 1 (by omega), cc 3 (by omega)]
          have es : rsum F σ1 a = rsum F σ a := by funext τ; unfold rsum; rw [er, cc 1 (by omega)]
          have ew : rway σ1 = rway σ := by unfold rway; rw [cc 1 (by omega)]
          refine ⟨by rw [c8, cc 1 (by omega)]; omega, fun y => ?_, fun _ τ hτ => ?_⟩
          · rw [c10 0 12 (by omega) (by omega)] at y
            omega
          · have hτ' : Loaded σ a τ := hτ.back cc
            obtain ⟨s5', s6', v', σ1', d1, d2, d3, d4, d5, d6, d7, -⟩ := rkNew (F := F) hF hB hR q1 hτ'
            -- the same store: the class's way doesn't ask which reference's store
            rw [c1] at d1
            obtain rfl := Option.some.inj d1
            rw [c2] at d2
            obtain rfl := Option.some.inj d2
            rw [c3] at d3
            obtain rfl := Option.some.inj d3
            rw [c6] at d6
            obtain rfl := Option.some.inj d6
            rw [es, ew, er, cc 1 (by omega)]
            unfold NoRk at d7 ⊢
            rw [cc (63 + 12 * a) (by omega), cc (63 + 12 * a + 1) (by omega), cc (63 + 12 * a + 3) (by omega)]
            exact d7
        refine ⟨r, σ1, σ2, ?_, f2, Or.inr ⟨q1, rk1.frame q1.1 (fun x y => by funext z; exact f3 x z (by omega) (by omega)) (fun y _ _ => f3 _ y (by omega) (by omega)) (f3 0 12 (by omega) (by omega)), fun j y1 y2 => by rw [f3 32 j (by omega) (by omega)]; exact c9 j y1 y2, fun x y y1 y2 y4 y3 => ?_, fE⟩⟩
        · have ov : gX10_meanOfRanks_L101 F a b (70 + 12 * a) (63 + 12 * a) (70 + 12 * a) (if v = 0 then σ 1 5 else 0) s6 = some (r, σ1) := by
            unfold gX10_meanOfRanks_L101
            rw [c6, Option.bind_some]; exact f1
          rw [c1, Option.bind_some, c2, Option.bind_some, gd_pos (by omega), gd_pos (by omega), c3, Option.bind_some, c4]
          rcases c5 with z | z
          · rw [if_pos z] at ov
            rw [z, if_pos (by decide)]; exact ov
          · rw [if_neg (by omega)] at ov
            rw [z, if_neg (by decide)]; exact ov
        · unfold scr at y1
          rw [f3 x y (by omega) (by omega), c10 x y (by omega) y3]
    · refine ⟨-1, σ, σ, by rw [if_pos q1, if_neg q2], ?_, Or.inl rfl⟩
      rw [mm σ hR1.2.2, if_pos q1, if_neg q2]
  · refine ⟨-1, σ, σ, by rw [if_neg q1], ?_, Or.inl rfl⟩
    rw [mm σ hR1.2.2, if_neg q1]
