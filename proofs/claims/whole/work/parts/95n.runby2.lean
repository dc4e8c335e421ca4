-- PURE LAYER: runBy
theorem op_runBy {F n : Nat} (hF : 100 ≤ F) {σ : St} {a b : Int} (hB : InvB n σ) (hR : InvR σ) (hE : Ew σ) (ha : w32 a = a) (hb : w32 b = b) :
    ∃ r σ1 σ2, gX10_runBy F σ a b = some (r, σ1) ∧ gX11_runBy F σ1 a b = some (r, σ2) ∧ OnlyE σ σ2 ∧ Ew σ2 := by
  obtain ⟨⟨p1, p2, p3⟩, ⟨g1, g2, g3⟩, -⟩ := id hB
  have hR1 := hR.1
  have br := w32_rng b
  rw [hb] at br
  have b17 : bd 17 = 1 := by decide
  have mm : ∀ s : St, s 143 16 = σ 0 12 → s 143 4 = σ 1 6 → gX11_runBy F s a b = (if 0 ≤ a ∧ a < σ 0 12 then (if 0 ≤ b then gX11_runBy_L27 F a b F b 0 (σ 1 6 - 1) s else some (-1, s)) else some (-1, s)) := by
    intro s h1 h2
    unfold gX11_runBy
    rw [gX11_isRule_eq s ha (by omega), Option.bind_some, tv_if0, h1, h2, hb]
  unfold gX10_runBy
  rw [gX10_isRule_eq σ ha (w32_id (by omega)), Option.bind_some, tv_if0]
  by_cases q1 : 0 ≤ a ∧ a < σ 0 12
  · rw [if_pos q1]
    unfold gX10_readOrder
    rw [hb]
    by_cases q2 : 0 ≤ b
    · rw [if_pos (show b ≥ 0 from q2)]
      obtain ⟨G, hGe⟩ : ∃ G : Nat, σ 1 6 = (G : Int) := ⟨(σ 1 6).toNat, by omega⟩
      obtain ⟨x, hx⟩ : ∃ x : Nat, b = (x : Int) := ⟨b.toNat, by omega⟩
      have hG9 : G ≤ 9 := by omega
      have hp0 : 0 < 2 ^ G := Nat.two_pow_pos G
      obtain ⟨σ1, d1, d2, d3⟩ := readOrder_21 (F := F) (x1 := b) hG9 G F x 0 σ (by omega) hp0 (by omega) hGe (by omega)
      have d1' : gX10_readOrder_L21 F b F b 0 (σ 1 6 - 1) σ = some (tv (pOrd G G x 0 = true), σ1) := by
        rw [hGe]
        rw [← hx] at d1
        exact d1
      rw [d1', Option.bind_some, tv_if1]
      have ok := pOrd_iff hG9 G x 0 hp0 (by show 0 + G = G; omega)
      have k4 : ∀ s : St, s 143 4 = (G : Int) → ∃ σ', (∀ (a b : Int), σ' a b = if a = 166 ∧ 0 ≤ b ∧ b < G then ((pDig G x b.toNat : Nat) : Int) else s a b) ∧ gX11_runBy_L27 F a b F b 0 (σ 1 6 - 1) s = if pOrd G G x 0 = true then ((gX11_loadMain F σ').bind fun r1 => (gX11_runByOrder F r1 a).bind fun r2 => some (r2.1, r2.2)) else some (-1, σ') := by
        intro s h4
        obtain ⟨σ', e1, e2⟩ := runBy_27 (F := F) (r := a) (y := b) hG9 G F x 0 s (by omega) (by decide) (by omega) h4 (by omega)
        refine ⟨σ', e1, ?_⟩
        rw [← hx] at e2
        rw [hGe]
        rw [show ((0 : Nat) : Int) = 0 from rfl] at e2
        rw [e2]
        by_cases z : pOrd G G x 0 = true
        · rw [if_pos z, if_pos (ok.mp z)]
        · rw [if_neg z, if_neg (fun w => z (ok.mpr w))]
      by_cases q3 : pOrd G G x 0 = true
      · obtain ⟨dg1, dg2⟩ := pOrd_dig hG9 G x 0 hp0 q3
        have hru := hR.2.2 a q1.1 q1.2
        have hr6 : 0 ≤ a ∧ a < 6 := by omega
        have s1o : ∀ c, c ≠ 61 → σ1 c = σ c := fun c q => by funext y; exact d2 c y q
        have hBd : BdOK σ1 (bd 17) := by
          have h := hB.bd1
          unfold BdOK at h ⊢
          rw [b17, s1o 1 (by omega), s1o (1 + 1) (by omega), s1o (1 + 2) (by omega), s1o (1 + 3) (by omega), s1o (1 + 5) (by omega)]
          exact h
        -- both, for a reference's store that stands behind the class's
        have two : ∀ s : St, (∀ x y, supB x y ∨ supR x y → s x y = σ x y) → ∃ v σ' τ', gX10_runBy_L27 F a b F 0 (clearS σ1 17) = some (v, σ') ∧ gX11_runBy_L27 F a b F b 0 (σ 1 6 - 1) s = some (v, τ') ∧ (∀ c, ¬ (17 ≤ c ∧ c ≤ 26) → σ' c = clearS σ1 17 c) ∧ (∀ j, 0 ≤ j → j < 54 → τ' 162 j = σ 6 j) ∧ ∀ x y, ¬ (x = 143 ∧ (y = 26 ∨ y = 27 ∨ y = 35 ∨ y = 36)) → ¬ (159 ≤ x ∧ x ≤ 166) → τ' x y = s x y := by
          intro s hs
          obtain ⟨s', e1, e2⟩ := k4 s (by rw [hs 143 4 (by unfold supB; omega), g3]; exact hGe)
          have e1o : ∀ c y, c ≠ 166 → s' c y = s c y := fun c y q => by rw [e1, if_neg (by omega)]
          obtain ⟨τ0, l1, l2, l3, l4⟩ := hB.load hF (σ1 := s') (fun x y q => by rw [e1o x y (by unfold supB at q; omega)]; exact hs x y (Or.inl q))
          obtain ⟨τ1, f1, f2⟩ := fresh_eq hF τ0
          have fo : ∀ x y, ¬ supC x y → τ1 x y = τ0 x y := fun x y q => by
            unfold supC at q
            rw [f2, if_neg (by omega), if_neg (by omega), if_neg (by omega), if_neg (by omega)]
          have fc : ∀ x, x ≠ 143 → x ≠ 163 → x ≠ 164 → x ≠ 165 → τ1 x = τ0 x := fun x q1 q2 q3 q4 => by funext y; exact fo x y (by unfold supC; omega)
          have hE1 : RelE σ1 17 τ1 := by
            unfold RelE
            rw [b17, fo 143 26 (by unfold supC; omega), fo 143 27 (by unfold supC; omega), fc 159 (by omega) (by omega) (by omega) (by omega), fc 160 (by omega) (by omega) (by omega) (by omega), fc 161 (by omega) (by omega) (by omega) (by omega), fc 162 (by omega) (by omega) (by omega) (by omega), s1o 1 (by omega), s1o (1 + 1) (by omega), s1o (1 + 2) (by omega), s1o (1 + 3) (by omega), s1o (1 + 5) (by omega)]
            exact l2
          have hF1 : FrM τ1 := ⟨⟨by rw [f2, if_pos (by omega)], by rw [f2, if_pos (by omega)]⟩, fun p q1 q2 => by rw [f2, if_neg (by omega), if_neg (by omega), if_neg (by omega), if_pos (by omega)], fun g q1 q2 => ⟨by rw [f2, if_neg (by omega), if_pos (by omega)], by rw [f2, if_neg (by omega), if_neg (by omega), if_pos (by omega)]⟩⟩
          have rc : ∀ x y, supR x y → τ1 x y = σ x y := fun x y q => by
            rw [fo x y (by unfold supR at q; unfold supC; omega), l4 x y (by unfold supR at q; omega) (by unfold supR at q; omega), e1o x y (by unfold supR at q; omega)]
            exact hs x y (Or.inr q)
          obtain ⟨st, s4⟩ := Rn.start (k := 17) (Or.inr (Or.inl rfl)) hr6 hBd hE1 hF1 (hru.frame hr6 rc) (fun c y1 y2 => by funext y; rw [s1o c (by omega)]; exact rc c y (by unfold supR; omega))
          have k1 : clearS σ1 17 1 = σ 1 := by rw [clearS_o (by omega), s1o 1 (by omega)]
          have k61 : clearS σ1 17 61 = σ1 61 := clearS_o (by omega)
          obtain ⟨v, σ', τ', o1, o2, o3, o4⟩ := order_run hF (y := b) hr6 ha (D := fun j => ((pDig G x j.toNat : Nat) : Int)) G F 0 (clearS σ1 17) τ1 st (fun j y1 y2 => by
            rw [k1] at y2 ⊢
            obtain ⟨w1, w2⟩ := dg1 j.toNat (by omega)
            refine ⟨by omega, by rw [hGe]; omega, s4 _ (by omega) (by omega)⟩) (fun j l y1 y2 y3 z => by
            rw [k1] at y3
            exact dg2 j.toNat l.toNat (by omega) (by omega) (by omega)) (fun j y1 y2 => by
            rw [k1] at y2
            rw [k61, d3 q3 j, if_pos (by omega)]
            refine ⟨rfl, ?_⟩
            rw [fc 166 (by omega) (by omega) (by omega) (by omega), l4 166 j (by omega) (by omega), e1, if_pos (by omega)]) (by rw [k1, hGe]; omega) (by omega)
          refine ⟨v, σ', τ', o1, ?_, o3, fun j y1 y2 => by rw [o4 162 j (by unfold supC; omega), fo 162 j (by unfold supC; omega)]; exact l2.2.2 j y1 y2, fun x y y1 y2 => ?_⟩
          · rw [e2, if_pos q3, l1, Option.bind_some]
            unfold gX11_runByOrder
            rw [f1, Option.bind_some, o2, Option.bind_some]
          · rw [o4 x y (by unfold supC; omega), fo x y (by unfold supC; omega), l4 x y y1 (by omega), e1o x y (by omega)]
        obtain ⟨v, σ', -, a1, -, a2, -, -⟩ := two σ (fun _ _ _ => rfl)
        have so : ∀ c, ¬ (17 ≤ c ∧ c ≤ 26) → c ≠ 61 → σ' c = σ c := fun c y1 y2 => by rw [a2 c y1, clearS_o (by omega), s1o c y2]
        obtain ⟨v', σ'', τ', c1, c2, -, c162, c4⟩ := two σ' (fun x y q => by rw [so x (by unfold supB supR at q; omega) (by unfold supB supR at q; omega)])
        rw [a1] at c1
        have ev : v = v' := (Prod.mk.inj (Option.some.inj c1)).1
        refine ⟨v, σ', τ', ?_, ?_, fun x y q q' => ?_, fun j y1 y2 => by rw [c162 j y1 y2]; exact hB.worth j y1 y2⟩
        · rw [if_pos q3]
          show ((gX7_clear σ1 17).bind fun r3 => gX10_runBy_L27 F a b F 0 r3) = _
          rw [clear_eq, Option.bind_some]; exact a1
        · rw [mm σ' (by rw [so 143 (by omega) (by omega)]; exact hR1.2.2) (by rw [so 143 (by omega) (by omega)]; exact g3), if_pos q1, if_pos q2, c2, ev]
        · unfold scr at q
          rw [c4 x y (by omega) (by omega), so x (by omega) (by omega)]
      · obtain ⟨s', e1, e2⟩ := k4 σ1 (by rw [d2 143 4 (by omega), g3]; exact hGe)
        rw [if_neg q3] at e2
        refine ⟨-1, σ1, s', ?_, ?_, fun x y q q' => ?_, fun j y1 y2 => by rw [e1, if_neg (by omega), d2 162 j (by omega)]; exact hE j y1 y2⟩
        · rw [if_neg q3]
        · rw [mm σ1 (by rw [d2 143 16 (by omega)]; exact hR1.2.2) (by rw [d2 143 4 (by omega)]; exact g3), if_pos q1, if_pos q2, e2]
        · unfold scr at q
          rw [e1, if_neg (by omega), d2 x y (by omega)]
    · refine ⟨-1, σ, σ, ?_, ?_, fun _ _ _ _ => rfl, hE⟩
      · rw [if_neg (show ¬ b ≥ 0 from q2), Option.bind_some, if_neg (show ¬ w32 0 ≠ 0 by decide)]
      · rw [mm σ hR1.2.2 g3, if_pos q1, if_neg q2]
  · refine ⟨-1, σ, σ, ?_, ?_, fun _ _ _ _ => rfl, hE⟩
    · rw [if_neg q1]
    · rw [mm σ hR1.2.2 g3, if_neg q1]
