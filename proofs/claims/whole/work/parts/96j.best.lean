-- PURE LAYER: best, bestOf, price
theorem plR_9 {n : Nat} {σ : St} (hB : InvB n σ) : (plR σ 9).1 = dpI (σ 2) (σ 6) (σ 1 5).toNat (σ 1 6).toNat 0 (stI (σ 2) (σ 1 5).toNat - 1) ∧ ∀ x : Int, 0 ≤ x → x < σ 1 6 → (plR σ 9).2 x = (prI (σ 2) (σ 6) (σ 1 5).toNat (σ 1 6).toNat 0 (stI (σ 2) (σ 1 5).toNat - 1) (fun _ => 0)).2 x := by
  obtain ⟨⟨p1, p2, p3⟩, ⟨g1, g2, g3⟩, -⟩ := id hB
  have e9 : ((9 : Int)).toNat = 9 := rfl
  have e1 : plR σ 9 = if (σ 1 6).toNat ≤ 0 then (0, fun _ => 0) else btI (σ 2) (σ 6) (σ 1 5).toNat (σ 1 6).toNat 9 8 (0 + 9) (prI (σ 2) (σ 6) (σ 1 5).toNat (min (0 + 9) (σ 1 6).toNat - 0) ((0 : Nat) : Int) (stI (σ 2) (σ 1 5).toNat - 1) (fun _ => 0)).1 (0 + dpI (σ 2) (σ 6) (σ 1 5).toNat (min (0 + 9) (σ 1 6).toNat - 0) ((0 : Nat) : Int) (stI (σ 2) (σ 1 5).toNat - 1)) (prI (σ 2) (σ 6) (σ 1 5).toNat (min (0 + 9) (σ 1 6).toNat - 0) ((0 : Nat) : Int) (stI (σ 2) (σ 1 5).toNat - 1) (fun _ => 0)).2 := rfl
  have e2 : ∀ s sum po, btI (σ 2) (σ 6) (σ 1 5).toNat (σ 1 6).toNat 9 8 (0 + 9) s sum po = (sum, po) := fun s sum po => by
    show (if (σ 1 6).toNat ≤ 0 + 9 then (sum, po) else _) = _
    rw [if_pos (by omega)]
  by_cases z : (σ 1 6).toNat ≤ 0
  · have z0 : (σ 1 6).toNat = 0 := by omega
    rw [e1, if_pos z, z0]
    exact ⟨rfl, fun x _ _ => rfl⟩
  · have em : min (0 + 9) (σ 1 6).toNat - 0 = (σ 1 6).toNat := by omega
    rw [e1, if_neg z, e2, em]
    exact ⟨Int.zero_add _, fun x _ _ => rfl⟩
/-- the reference's greatest sum -/
theorem bestSum_eq {F : Nat} (hF : 1000 ≤ F) {τ : St} {c w : Int → Int} {P G : Nat} (hc : CapOK c P) (hP : P ≤ 6) (h486 : stI c P ≤ 486) (hw : WOK w) (hG : G ≤ 9) (h3 : FgM τ c P) (h4 : τ 143 4 = (G : Int)) (h5 : τ 148 = w) : ∃ τ', gX11_bestSum F τ = some (dpI c w P G 0 (stI c P - 1), τ') ∧ ∀ a b, a ≠ 169 → τ' a b = τ a b := by
  have pos := stI_pos hc P (Nat.le_refl _)
  obtain ⟨τ', d1, d2, d3⟩ := layBest_eq (F := F) hF (σ := τ) (fr := 0) (to := G) hc hP h486 hw (by omega) hG h3 h5
  refine ⟨τ', ?_, d3⟩
  have r := d2 0 (by omega) (by omega) (stI c P - 1) (by omega) (by omega)
  rw [Nat.sub_zero] at r
  have r' : τ' 169 (stI c P - 1) = dpI c w P G 0 (stI c P - 1) := by
    rw [show 512 * ((0 : Nat) : Int) + (stI c P - 1) = stI c P - 1 by omega] at r
    exact r
  unfold gX11_bestSum
  rw [h4]
  have d1' : gX11_layBest F τ 0 (G : Int) = some τ' := d1
  rw [d1', Option.bind_some]
  show ((some (τ' 143 40 - 1)).bind fun r2 => gd (0 ≤ w32 r2 ∧ w32 r2 < 5120) (some (τ' 169 (w32 r2), τ'))) = _
  rw [Option.bind_some, d3 143 40 (by omega), h3.2.1, w32_id (a := stI c P - 1) (by omega), gd_pos (by omega), r']
theorem bestM_eq {F n : Nat} (hF : 1000 ≤ F) {σ s : St} (hB : InvB n σ) (hs : ∀ a b, supB a b → s a b = σ a b) : ∃ τ, gX11_best F s = some ((plR σ 9).1, τ) ∧ FgM τ (σ 2) (σ 1 5).toNat ∧ τ 143 4 = σ 1 6 ∧ τ 148 = σ 6 ∧ ∀ a b, ¬ (a = 143 ∧ b = 40) → ¬ (167 ≤ a ∧ a ≤ 169) → τ a b = s a b := by
  obtain ⟨⟨p1, p2, p3⟩, ⟨g1, g2, g3⟩, -⟩ := id hB
  obtain ⟨hc, hP, h324, hw⟩ := hB.caps
  obtain ⟨τ0, a1, a2, a3, a4, a5⟩ := hB.figs hF hs
  obtain ⟨τ, d1, d2⟩ := bestSum_eq (G := (σ 1 6).toNat) hF hc hP (by omega) hw (by omega) a2 (by rw [a3]; omega) a4
  have dc : ∀ a, a ≠ 169 → τ a = τ0 a := fun a q => by funext y; exact d2 a y q
  refine ⟨τ, ?_, a2.frame (d2 143 0 (by omega)) (d2 143 40 (by omega)) (dc 167 (by omega)) (dc 168 (by omega)), by rw [d2 143 4 (by omega)]; exact a3, by rw [dc 148 (by omega)]; exact a4, fun a b y1 y2 => by rw [d2 a b (by omega), a5 a b y1 (by omega) (by omega)]⟩
  unfold gX11_best
  rw [a1, Option.bind_some, d1, Option.bind_some, (plR_9 hB).1]
theorem op_best {F n : Nat} (hF : 1000 ≤ F) (hn : n < 1000) {σ : St} (hB : InvB n σ) (hp : PlanOK σ) :
    ∃ r σ1 σ2, gX10_best F σ = some (r, σ1) ∧ gX11_best F σ1 = some (r, σ2) ∧ PlanOK σ2 ∧ OnlyP σ σ2 := by
  obtain ⟨σ1, d1, d2, d3, d4, d5⟩ := make_eq hF hn hB hp (b := 9) (by omega)
  obtain ⟨τ, e1, e2, e3, e4, e5⟩ := bestM_eq hF hB (s := σ1) (fun x y q => d5 x y (by unfold supB at q; unfold supP; omega) (by unfold supB at q; omega))
  refine ⟨_, σ1, τ, ?_, e1, d2.frame (fun x y q => e5 x y (by unfold supP supB at q; omega) (by unfold supP supB at q; omega)), fun x y y1 y2 => ?_⟩
  · unfold gX10_best gX3_makeBest
    rw [d1, Option.bind_some, Option.bind_some, d3]
  · unfold scr at y2
    rw [e5 x y (by omega) (by omega), d5 x y y1 (by omega)]
theorem op_bestOf {F n : Nat} (hF : 1000 ≤ F) (hn : n < 1000) {σ : St} {a : Int} (hB : InvB n σ) (hp : PlanOK σ) (ha : w32 a = a) :
    ∃ r σ1 σ2, gX10_bestOf F σ a = some (r, σ1) ∧ gX11_bestOf F σ1 a = some (r, σ2) ∧ PlanOK σ2 ∧ OnlyP σ σ2 := by
  obtain ⟨⟨p1, p2, p3⟩, ⟨g1, g2, g3⟩, -⟩ := id hB
  obtain ⟨hc, hP, h324, hw⟩ := hB.caps
  have pos := stI_pos hc (σ 1 5).toNat (Nat.le_refl _)
  unfold gX10_bestOf
  rw [gX10_isGuest_eq σ ha (w32_id (by omega)), Option.bind_some, tv_if1]
  by_cases q1 : 0 ≤ a ∧ a < σ 1 6
  · obtain ⟨σ1, d1, d2, d3, d4, d5⟩ := make_eq hF hn hB hp (b := 9) (by omega)
    obtain ⟨τ0, a1, a2, a3, a4, a5⟩ := hB.figs hF (s := σ1) (fun x y q => d5 x y (by unfold supB at q; unfold supP; omega) (by unfold supB at q; omega))
    obtain ⟨τ1, b1', b2, b3⟩ := layBest_eq (F := F) hF (σ := τ0) (fr := 0) (to := (σ 1 6).toNat) hc hP (by omega) hw (by omega) (by omega) a2 a4
    have bc : ∀ x, x ≠ 169 → τ1 x = τ0 x := fun x q => by funext y; exact b3 x y q
    obtain ⟨τ2, c1, c2, c3⟩ := pairs_6 (F := F) hF (x1 := 0) (x3 := stI (σ 2) (σ 1 5).toNat - 1) (to := (σ 1 6).toNat) hc hP (by omega) hw (by omega) (σ 1 6).toNat F 0 (stI (σ 2) (σ 1 5).toNat - 1) τ1 (by omega) (by omega) (by omega) (a2.frame (b3 143 0 (by omega)) (b3 143 40 (by omega)) (bc 167 (by omega)) (bc 168 (by omega))) (by rw [bc 148 (by omega)]; exact a4) (fun x y1 y2 y y3 y4 => b2 x y1 y2 y y3 y4) (by omega)
    have eG : ((σ 1 6).toNat : Int) = σ 1 6 := by omega
    have b1'' : gX11_layBest F τ0 0 (τ0 143 4) = some τ1 := by rw [a3, ← eG]; exact b1'
    have c1' : gX11_layPairs F τ1 0 (τ1 143 4) (stI (σ 2) (σ 1 5).toNat - 1) = some ((prI (σ 2) (σ 6) (σ 1 5).toNat (σ 1 6).toNat 0 (stI (σ 2) (σ 1 5).toNat - 1) (τ1 170)).1, τ2) := by
      unfold gX11_layPairs
      rw [b3 143 4 (by omega), a3, ← eG]; exact c1
    have ev : τ2 170 a = σ1 44 a := by
      rw [d4 a q1.1 q1.2, (plR_9 hB).2 a q1.1 q1.2, c2]
      exact (prI_ind _ _ _ _ _).2 a (Or.inl ⟨q1.1, by omega⟩)
    have fo : ∀ x y, ¬ (x = 143 ∧ y = 40) → ¬ (167 ≤ x ∧ x ≤ 170) → τ2 x y = σ1 x y := fun x y y1 y2 => by rw [c3 x y (by omega), b3 x y (by omega), a5 x y y1 (by omega) (by omega)]
    refine ⟨σ1 44 a, σ1, τ2, ?_, ?_, d2.frame (fun x y q => fo x y (by unfold supP supB at q; omega) (by unfold supP supB at q; omega)), fun x y y1 y2 => ?_⟩
    · unfold gX3_makeBest
      rw [if_pos q1, d1, Option.bind_some, Option.bind_some, ha, gd_pos (by omega)]
    · have e4 : σ1 143 4 = σ 1 6 := by rw [d5 143 4 (by unfold supP; omega) (by omega), g3]
      have ew : gX11_whole τ1 = some (stI (σ 2) (σ 1 5).toNat - 1) := by
        unfold gX11_whole
        rw [b3 143 40 (by omega), a2.2.1]
      unfold gX11_bestOf
      rw [gX11_isGuest_eq σ1 ha (by omega), Option.bind_some, tv_if1, e4, if_pos q1, a1, Option.bind_some, b1'', Option.bind_some, ew, Option.bind_some, c1', Option.bind_some, ha, gd_pos (by omega)]
      show some (τ2 170 a, τ2) = _
      rw [ev]
    · unfold scr at y2
      rw [fo x y (by omega) (by omega), d5 x y y1 (by omega)]
  · refine ⟨-1, σ, σ, by rw [if_neg q1], ?_, hp, fun _ _ _ _ => rfl⟩
    unfold gX11_bestOf
    rw [gX11_isGuest_eq σ ha (by omega), Option.bind_some, tv_if1, g3, if_neg q1]
/-- the class's greatest sum, with one room more at a post or none -/
theorem greatest_eq {F : Nat} (hF : 1000 ≤ F) {σ : St} {x1 x2 : Int} {c w : Int → Int} {P G : Nat} (hc : CapOK c P) (hP : P ≤ 6) (h486 : stI c P ≤ 486) (hw : WOK w) (hG : G ≤ 9) (hx : x1 = 1 ∨ x1 = 27) (hx2 : x2 = -4 ∨ 0 ≤ x2 ∧ x2 < 6) (h5 : σ x1 5 = (P : Int)) (h6 : σ x1 6 = (G : Int)) (h7 : σ (x1 + 5) = w) (h4 : ∀ q : Nat, q < P → σ (x1 + 1) q + (if (q : Int) = x2 then 1 else 0) = c q) :
    ∃ σ', gX3_greatest F σ x1 x2 = some (dpI c w P G 0 (stI c P - 1), σ') ∧ ∀ a b, ¬ (45 ≤ a ∧ a ≤ 49) → σ' a b = σ a b := by
  have pos := stI_pos hc P (Nat.le_refl _)
  obtain ⟨σ1, a1, a2, a3⟩ := shape_eq (F := F) hF (σ := σ) (k := 45) (x1 := x1) (x2 := x2) hc hP h486 hx2 (by omega) h5 h4
  have ac : ∀ a, ¬ (45 ≤ a ∧ a ≤ 48) → σ1 a = σ a := fun a q => by funext y; exact a3 a y (by omega) (by omega)
  obtain ⟨σ2, b1', b2, b3⟩ := fill_eq (F := F) hF (σ := σ1) (x1 := x1) (fr := 0) (to := G) hc hP h486 hw hx (by omega) hG a2 (by rw [ac x1 (by omega)]; exact h5) (by rw [ac (x1 + 5) (by omega)]; exact h7)
  refine ⟨σ2, ?_, fun a b y => by rw [b3 a b (by omega), ac a (by omega)]⟩
  have r := b2 0 (by omega) (by omega) (stI c P - 1) (by omega) (by omega)
  rw [Nat.sub_zero] at r
  have r' : σ2 49 (stI c P - 1) = dpI c w P G 0 (stI c P - 1) := by
    rw [show 486 * ((0 : Nat) : Int) + (stI c P - 1) = stI c P - 1 by omega] at r
    exact r
  have e6 : σ1 x1 6 = (G : Int) := by rw [ac x1 (by omega)]; exact h6
  have b1'' : gX3_fill F σ1 x1 0 (σ1 x1 6) = some σ2 := by rw [e6]; exact b1'
  unfold gX3_greatest
  rw [a1, Option.bind_some, b1'', Option.bind_some]
  show ((some (σ2 45 3 - 1)).bind fun r3 => gd (0 ≤ w32 r3 ∧ w32 r3 < 4860) (some (σ2 49 (w32 r3), σ2))) = _
  rw [Option.bind_some, b3 45 3 (by omega), a2.2.1, w32_id (a := stI c P - 1) (by omega), gd_pos (by omega), r']
theorem op_price {F n : Nat} (hF : 1000 ≤ F) (hn : n < 1000) {σ : St} {a : Int} (hB : InvB n σ) (hp : PlanOK σ) (ha : w32 a = a) :
    ∃ r σ1 σ2, gX10_price F σ a = some (r, σ1) ∧ gX11_price F σ1 a = some (r, σ2) ∧ PlanOK σ2 ∧ OnlyP σ σ2 := by
  obtain ⟨⟨p1, p2, p3⟩, ⟨g1, g2, g3⟩, v1, -, b5, -, -, b8⟩ := id hB
  obtain ⟨hc, hP, h324, hw⟩ := hB.caps
  unfold gX10_price
  rw [gX10_isPost_eq σ ha (w32_id (by omega)), Option.bind_some, tv_if1]
  by_cases q1 : 0 ≤ a ∧ a < σ 1 5
  · obtain ⟨σ1, d1, d2, d3, d4, d5⟩ := make_eq hF hn hB hp (b := 9) (by omega)
    have dc : ∀ x, ¬ (43 ≤ x ∧ x ≤ 49) → σ1 x = σ x := fun x q => by funext y; exact d5 x y (by unfold supP; omega) (by omega)
    let c' : Int → Int := fun q => σ 2 q + (if q = a then 1 else 0)
    have ec : ∀ q, c' q = σ 2 q + (if q = a then 1 else 0) := fun q => rfl
    have hc' : CapOK c' (σ 1 5).toNat := fun q hq => by
      have := (b5 q (by omega) (by omega)).1
      rw [ec]
      split <;> omega
    have s11 : sumN c' (σ 1 5).toNat 0 ≤ 11 := by
      rw [sumN_chg (f := σ 2) (g := a) (σ 1 5).toNat 0 q1.1 (by omega) (fun i z => by rw [ec, if_neg z, Int.add_zero]), ec, if_pos rfl]
      omega
    have h486 := (stI_486 hc' hP s11).1
    obtain ⟨σ2, e1, e2⟩ := greatest_eq (F := F) (G := (σ 1 6).toNat) hF (σ := σ1) (x1 := 1) (x2 := a) (c := c') (w := σ 6) hc' hP h486 hw (by omega) (Or.inl rfl) (Or.inr (by omega)) (by rw [dc 1 (by omega)]; omega) (by rw [dc 1 (by omega)]; omega) (dc 6 (by omega)) (fun q hq => by
      rw [show (1 : Int) + 1 = 2 from rfl, dc 2 (by omega)])
    have ac : ∀ x y, ¬ supP x y → ¬ (45 ≤ x ∧ x ≤ 49) → σ2 x y = σ x y := fun x y y1 y2 => by rw [e2 x y y2, d5 x y y1 y2]
    obtain ⟨τ0, f1, f2, f3, f4, f5⟩ := bestM_eq hF hB (s := σ2) (fun x y q => ac x y (by unfold supB at q; unfold supP; omega) (by unfold supB at q; omega))
    have u0 : ∀ x y, ¬ (x = 167 ∧ y = a) → up τ0 167 a (τ0 167 a + 1) x y = τ0 x y := fun x y q => by rw [up_at, if_neg q]
    obtain ⟨τ1, k1, k2, k3⟩ := layFigures_eq (F := F) hF (σ := up τ0 167 a (τ0 167 a + 1)) (c := c') hc' hP (by rw [u0 143 0 (by omega)]; exact f2.1) (fun q hq => by
      have fq := (f2.2.2 q hq).2
      by_cases z : (q : Int) = a
      · rw [← z, up_self, fq, ec, if_pos z]
      · rw [u0 167 q (by omega), fq, ec, if_neg z, Int.add_zero])
    obtain ⟨τ2, l1, l2⟩ := bestSum_eq (F := F) (G := (σ 1 6).toNat) hF (τ := τ1) (c := c') (w := σ 6) hc' hP h486 hw (by omega) k2 (by rw [k3 143 4 (by omega) (by omega), u0 143 4 (by omega), f3]; omega) (by funext y; rw [k3 148 y (by omega) (by omega), u0 148 y (by omega), f4])
    have fo : ∀ x y, ¬ (x = 143 ∧ y = 40) → ¬ (167 ≤ x ∧ x ≤ 169) → τ2 x y = σ2 x y := fun x y y1 y2 => by rw [l2 x y (by omega), k3 x y y1 (by omega), u0 x y (by omega), f5 x y y1 y2]
    have e43 : σ2 43 1 = (plR σ 9).1 := by rw [e2 43 1 (by omega), d3]
    refine ⟨dpI c' (σ 6) (σ 1 5).toNat (σ 1 6).toNat 0 (stI c' (σ 1 5).toNat - 1) - (plR σ 9).1, σ2, τ2, ?_, ?_, d2.frame (fun x y q => by rw [fo x y (by unfold supP supB at q; omega) (by unfold supP supB at q; omega)]; exact e2 x y (by unfold supP supB at q; omega)), fun x y y1 y2 => ?_⟩
    · unfold gX3_makeBest
      rw [if_pos q1, d1, Option.bind_some, Option.bind_some, e1, Option.bind_some, ← e43]
    · have e0 : σ2 143 0 = σ 1 5 := by rw [ac 143 0 (by unfold supP; omega) (by omega), p3]
      unfold gX11_price
      rw [gX11_isPost_eq σ2 ha (by omega), Option.bind_some, tv_if1, e0, if_pos q1, f1, Option.bind_some, ha, gd_pos (by omega), gd_pos (by omega), k1, Option.bind_some, l1, Option.bind_some]
    · unfold scr at y2
      rw [fo x y (by omega) (by omega), ac x y y1 (by omega)]
  · refine ⟨-1, σ, σ, by rw [if_neg q1], ?_, hp, fun _ _ _ _ => rfl⟩
    unfold gX11_price
    rw [gX11_isPost_eq σ ha (by omega), Option.bind_some, tv_if1, p3, if_neg q1]
