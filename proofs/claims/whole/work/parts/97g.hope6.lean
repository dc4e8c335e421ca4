-- PURE LAYER: hope, hopeFor
def OnlyH (σ σ' : St) : Prop := ∀ a b, ¬ supH a b → ¬ scr a b → σ' a b = σ a b
theorem op_hope {F n : Nat} (hF : 1000 ≤ F) (hn : n < 1000) {σ : St} {a b : Int} (hB : InvB n σ) (hh : HopesOK σ) (ha : w32 a = a) (hb : w32 b = b) :
    ∃ r σ1 σ2, gX10_hope F σ a b = some (r, σ1) ∧ gX11_hope F σ1 a b = some (r, σ2) ∧ HopesOK σ2 ∧ OnlyH σ σ2 := by
  obtain ⟨⟨p1, p2, p3⟩, ⟨g1, g2, g3⟩, v1, ⟨c1, c2, c3, c4, c5⟩, -⟩ := id hB
  obtain ⟨hc, hP, h324, hw⟩ := hB.caps
  obtain ⟨hch, hC1, hC2⟩ := hB.chs
  have pos := stI_pos hc (σ 1 5).toNat (Nat.le_refl _)
  have mm : ∀ s : St, (∀ x y, supB x y → s x y = σ x y) → gX11_hope F s a b = (if 0 ≤ a ∧ a ≤ 6 then (if 0 ≤ b ∧ b ≤ 1 then (if chS σ ≠ 0 then ((gX11_layHopes F s a).bind fun r4 => (gX11_whole r4).bind fun r5 => gd (0 ≤ w32 ((512 * a) + r5) ∧ w32 ((512 * a) + r5) < 3584) (gd (0 ≤ w32 a ∧ w32 a < 7) ((gX11_lowest F r4 (r4 171 (w32 ((512 * a) + r5))) (r4 172 (w32 a)) b).bind fun r6 => some (r6, r4)))) else some (-2, s)) else some (-1, s)) else some (-1, s)) := by
    intro s hs
    have cs : gX11_chanceSum F s = some (chS σ) := chanceSum_eq hF (G := (σ 1 6).toNat) (by omega) (by rw [hs 143 4 (by unfold supB; omega), g3]; omega) (by funext y; rw [hs 147 y (by unfold supB; omega), c4])
    unfold gX11_hope
    rw [ha, gX11_in_eq s (by rw [← ha]; exact w64w a) (by decide) (by decide), Option.bind_some, tv_if0, hb, gX11_in_eq s (by rw [← hb]; exact w64w b) (by decide) (by decide), Option.bind_some, tv_if1, cs, Option.bind_some, w32_id (a := chS σ) (by omega)]
  unfold gX10_hope
  rw [gX10_isIn_eq σ ha (by decide) (by decide), Option.bind_some, tv_if0, gX10_isIn_eq σ hb (by decide) (by decide), Option.bind_some, tv_if1]
  by_cases q1 : 0 ≤ a ∧ a ≤ 6
  · by_cases q2 : 0 ≤ b ∧ b ≤ 1
    · obtain ⟨σ1, d1, d2, d3, d4⟩ := bringUp_eq hF hn hB hh
      have sb : ∀ x y, supB x y → σ1 x y = σ x y := fun x y q => d4 x y (by unfold supB at q; unfold supH; omega)
      have sc : ∀ x, 1 ≤ x → x ≤ 6 → σ1 x = σ x := fun x y1 y2 => by funext y; exact d4 x y (by unfold supH; omega)
      have ec : chS σ1 = chS σ := by unfold chS; rw [sc 5 (by omega) (by omega), sc 1 (by omega) (by omega)]
      obtain ⟨e1, e2, e3⟩ := d3
      rw [ec] at e1 e3
      rw [sc 1 (by omega) (by omega), sc 2 (by omega) (by omega)] at e2
      rw [sc 1 (by omega) (by omega), sc 2 (by omega) (by omega), sc 5 (by omega) (by omega), sc 6 (by omega) (by omega)] at e3
      rw [if_pos q1, if_pos q2, d1, Option.bind_some, e1, w32_id (a := chS σ) (by omega)]
      have m0 := mm σ1 sb
      rw [if_pos q1, if_pos q2] at m0
      by_cases q3 : chS σ = 0
      · rw [if_neg (fun z => z q3)] at m0 ⊢
        exact ⟨-2, σ1, σ1, rfl, m0, d2, fun x y y1 _ => d4 x y y1⟩
      · rw [if_pos q3] at m0 ⊢
        obtain ⟨N, hN⟩ : ∃ N : Nat, a = (N : Int) := ⟨a.toNat, by omega⟩
        have hN6 : N ≤ 6 := by omega
        obtain ⟨f1, f2⟩ := e3 N hN6
        obtain ⟨τ, k1, k2, k3, k4, k5⟩ := layHopes_eq hF hB hN6 sb
        obtain ⟨l1, l2⟩ := k4 N (Nat.le_refl _)
        have hv := hpI_rng (c := σ 2) hw hP (G := (σ 1 6).toNat) (by omega) hch rfl ⟨hC1, hC2⟩ N (stI (σ 2) (σ 1 5).toNat - 1)
        have ob := oB_at hN6
        have or := ovI_rng (C := chS σ) ⟨hC1, hC2⟩ N
        have or3 := or.2.2 (by omega)
        have cv := f2 (stI (σ 2) (σ 1 5).toNat - 1) (by omega) (by omega) (by omega)
        have mv := l2 (stI (σ 2) (σ 1 5).toNat - 1) (by omega) (by omega)
        have hv' : 0 ≤ hpI (σ 2) (σ 6) (σ 5) (σ 1 5).toNat (σ 1 6).toNat (chS σ) N (stI (σ 2) (σ 1 5).toNat - 1) ∧ hpI (σ 2) (σ 6) (σ 5) (σ 1 5).toNat (σ 1 6).toNat (chS σ) N (stI (σ 2) (σ 1 5).toNat - 1) ≤ hB' N := hv
        obtain ⟨r, r1, r2⟩ := lowest_eq (F := F) hF (σ := σ1) (τ := τ) (a := hpI (σ 2) (σ 6) (σ 5) (σ 1 5).toNat (σ 1 6).toNat (chS σ) N (stI (σ 2) (σ 1 5).toNat - 1)) (b := ovI (chS σ) N) (x4 := b) (by omega) (by omega)
        have on : OnlyH σ τ := fun x y y1 y2 => by
          unfold scr at y2
          rw [k5 x y (by omega) (by omega) (by omega), d4 x y y1]
        have ok : HopesOK τ := d2.frame (fun x y q => k5 x y (by unfold supH supB at q; omega) (by unfold supH supB at q; omega) (by unfold supH supB at q; omega))
        have aS : gX1_atStart σ1 a = some (hpI (σ 2) (σ 6) (σ 5) (σ 1 5).toNat (σ 1 6).toNat (chS σ) N (stI (σ 2) (σ 1 5).toNat - 1)) := by
          have a3 : σ1 52 3 = stI (σ 2) (σ 1 5).toNat := e2.2.1
          unfold gX1_atStart gX4_allFree
          rw [Option.bind_some, a3, hN, show (N : Int) * 324 + (stI (σ 2) (σ 1 5).toNat - 1) = 324 * N + (stI (σ 2) (σ 1 5).toNat - 1) by omega, w32_id (a := 324 * (N : Int) + (stI (σ 2) (σ 1 5).toNat - 1)) (by omega), gd_pos (by omega), cv]
        have ew : gX11_whole τ = some (stI (σ 2) (σ 1 5).toNat - 1) := by
          unfold gX11_whole
          rw [k2.2.1]
        refine ⟨r, σ1, τ, ?_, ?_, ok, on⟩
        · rw [aS, Option.bind_some, ha, gd_pos (by omega), hN, f1, r1, Option.bind_some]
        · rw [m0]
          have k1' : gX11_layHopes F σ1 a = some τ := by rw [hN]; exact k1
          rw [k1', Option.bind_some, ew, Option.bind_some, hN, w32_id (a := 512 * (N : Int) + (stI (σ 2) (σ 1 5).toNat - 1)) (by omega), gd_pos (by omega), w32_id (a := (N : Int)) (by omega), gd_pos (by omega), mv, l1, r2, Option.bind_some]
    · refine ⟨-1, σ, σ, by rw [if_pos q1, if_neg q2], ?_, hh, fun _ _ _ _ => rfl⟩
      rw [mm σ (fun _ _ _ => rfl), if_pos q1, if_neg q2]
  · refine ⟨-1, σ, σ, by rw [if_neg q1], ?_, hh, fun _ _ _ _ => rfl⟩
    rw [mm σ (fun _ _ _ => rfl), if_neg q1]
theorem op_hopeFor {F n : Nat} (hF : 1000 ≤ F) (hn : n < 1000) {σ : St} {a b : Int} (hB : InvB n σ) (hh : HopesOK σ) (ha : w32 a = a) (hb : w32 b = b) :
    ∃ r σ1 σ2, gX10_hopeFor F σ a b = some (r, σ1) ∧ gX11_hopeFor F σ1 a b = some (r, σ2) ∧ HopesOK σ2 ∧ OnlyH σ σ2 := by
  obtain ⟨⟨p1, p2, p3⟩, ⟨g1, g2, g3⟩, v1, ⟨c1, c2, c3, c4, c5⟩, -⟩ := id hB
  obtain ⟨hc, hP, h324, hw⟩ := hB.caps
  obtain ⟨hch, hC1, hC2⟩ := hB.chs
  have pos := stI_pos hc (σ 1 5).toNat (Nat.le_refl _)
  have mm : ∀ s : St, (∀ x y, supB x y → s x y = σ x y) → gX11_hopeFor F s a b = (if 0 ≤ a ∧ a < σ 1 6 then (if 1 ≤ b ∧ b ≤ 6 then (if chS σ ≠ 0 then ((gX11_layHopes F s (b - 1)).bind fun r4 => (gX11_whole r4).bind fun r5 => gd (0 ≤ w32 ((512 * (b - 1)) + r5) ∧ w32 ((512 * (b - 1)) + r5) < 3584) (gX11_hopeFor_L64 F a b F ((-4)) (r4 171 (w32 ((512 * (b - 1)) + r5))) 0 r4)) else some (-2, s)) else some (-1, s)) else some (-1, s)) := by
    intro s hs
    have s4 : s 143 4 = σ 1 6 := by rw [hs 143 4 (by unfold supB; omega), g3]
    have cs : gX11_chanceSum F s = some (chS σ) := chanceSum_eq hF (G := (σ 1 6).toNat) (by omega) (by rw [s4]; omega) (by funext y; rw [hs 147 y (by unfold supB; omega), c4])
    unfold gX11_hopeFor
    rw [gX11_isGuest_eq s ha (by omega), Option.bind_some, tv_if0, s4, hb, gX11_in_eq s (by rw [← hb]; exact w64w b) (by decide) (by decide), Option.bind_some, tv_if1, cs, Option.bind_some, w32_id (a := chS σ) (by omega)]
  unfold gX10_hopeFor
  rw [gX10_isGuest_eq σ ha (w32_id (by omega)), Option.bind_some, tv_if0, gX10_isIn_eq σ hb (by decide) (by decide), Option.bind_some, tv_if1]
  by_cases q1 : 0 ≤ a ∧ a < σ 1 6
  · by_cases q2 : 1 ≤ b ∧ b ≤ 6
    · obtain ⟨σ1, d1, d2, d3, d4⟩ := bringUp_eq hF hn hB hh
      have sb : ∀ x y, supB x y → σ1 x y = σ x y := fun x y q => d4 x y (by unfold supB at q; unfold supH; omega)
      have sc : ∀ x, 1 ≤ x → x ≤ 6 → σ1 x = σ x := fun x y1 y2 => by funext y; exact d4 x y (by unfold supH; omega)
      have ec : chS σ1 = chS σ := by unfold chS; rw [sc 5 (by omega) (by omega), sc 1 (by omega) (by omega)]
      obtain ⟨e1, e2, e3⟩ := d3
      rw [ec] at e1 e3
      rw [sc 1 (by omega) (by omega), sc 2 (by omega) (by omega)] at e2
      rw [sc 1 (by omega) (by omega), sc 2 (by omega) (by omega), sc 5 (by omega) (by omega), sc 6 (by omega) (by omega)] at e3
      rw [if_pos q1, if_pos q2, d1, Option.bind_some, e1, w32_id (a := chS σ) (by omega)]
      have m0 := mm σ1 sb
      rw [if_pos q1, if_pos q2] at m0
      by_cases q3 : chS σ = 0
      · rw [if_neg (fun z => z q3)] at m0 ⊢
        exact ⟨-2, σ1, σ1, rfl, m0, d2, fun x y y1 _ => d4 x y y1⟩
      · rw [if_pos q3] at m0 ⊢
        obtain ⟨N, hN⟩ : ∃ N : Nat, b = (N : Int) + 1 := ⟨b.toNat - 1, by omega⟩
        have hN5 : N ≤ 5 := by omega
        obtain ⟨f1, f2⟩ := e3 N (by omega)
        obtain ⟨τ, k1, k2, k3, k4, k5⟩ := layHopes_eq hF hB (N := N) (by omega) sb
        obtain ⟨l1, l2⟩ := k4 N (Nat.le_refl _)
        have ob := oB_at (n := N) (by omega)
        have or := ovI_rng (C := chS σ) ⟨hC1, hC2⟩ N
        have hf : ∀ x, 0 ≤ hpI (σ 2) (σ 6) (σ 5) (σ 1 5).toNat (σ 1 6).toNat (chS σ) N x ∧ hpI (σ 2) (σ 6) (σ 5) (σ 1 5).toNat (σ 1 6).toNat (chS σ) N x ≤ 200000000000000 := fun x => by
          have := hpI_rng (c := σ 2) hw hP (G := (σ 1 6).toNat) (by omega) hch rfl ⟨hC1, hC2⟩ N x
          have this' : 0 ≤ hpI (σ 2) (σ 6) (σ 5) (σ 1 5).toNat (σ 1 6).toNat (chS σ) N x ∧ hpI (σ 2) (σ 6) (σ 5) (σ 1 5).toNat (σ 1 6).toNat (chS σ) N x ≤ hB' N := this
          omega
        have fS := hf (stI (σ 2) (σ 1 5).toNat - 1)
        have hw1 : WOK (σ1 6) := by rw [sc 6 (by omega) (by omega)]; exact hw
        have s15 : σ1 1 5 = ((σ 1 5).toNat : Int) := by rw [sc 1 (by omega) (by omega)]; omega
        have rows : ∀ p : Nat, p < (σ 1 5).toNat → 0 < dgI (σ 2) p (stI (σ 2) (σ 1 5).toNat - 1) → σ1 56 (324 * N + (stI (σ 2) (σ 1 5).toNat - 1 - stI (σ 2) p)) = hpI (σ 2) (σ 6) (σ 5) (σ 1 5).toNat (σ 1 6).toNat (chS σ) N (stI (σ 2) (σ 1 5).toNat - 1 - stI (σ 2) p) := fun p hp hd => by
          obtain ⟨y1, y2⟩ := less_in hc (s := stI (σ 2) (σ 1 5).toNat - 1) (by omega) hp hd
          have fl := (frI_less hc (σ 1 5).toNat (stI (σ 2) (σ 1 5).toNat - 1) p (Nat.le_refl _) (by omega) hp hd).2
          exact f2 _ y1 y2 (by omega)
        have cv := f2 (stI (σ 2) (σ 1 5).toNat - 1) (by omega) (by omega) (by omega)
        have mv := l2 (stI (σ 2) (σ 1 5).toNat - 1) (by omega) (by omega)
        have gf := gfor_19 (F := F) (σ := σ1) (g := a) (s := stI (σ 2) (σ 1 5).toNat - 1) (n := N) (f := hpI (σ 2) (σ 6) (σ 5) (σ 1 5).toNat (σ 1 6).toNat (chS σ) N) hc hP h324 e2 s15 hw1 (by omega) hN5 (by omega) f1 (by omega) rows hf (σ 1 5).toNat F 0 (hpI (σ 2) (σ 6) (σ 5) (σ 1 5).toNat (σ 1 6).toNat (chS σ) N (stI (σ 2) (σ 1 5).toNat - 1)) (by omega) (by omega) (by omega)
        have hr := hmP_rng (c := σ 2) (w := σ 6) (f := hpI (σ 2) (σ 6) (σ 5) (σ 1 5).toNat (σ 1 6).toNat (chS σ) N) (ov := ovI (chS σ) N) (g := a) (s := stI (σ 2) (σ 1 5).toNat - 1) (O := 300000000000) (B := 200000000000000) hw (by omega) (by omega) hf (σ 1 5).toNat 0 (hpI (σ 2) (σ 6) (σ 5) (σ 1 5).toNat (σ 1 6).toNat (chS σ) N (stI (σ 2) (σ 1 5).toNat - 1)) (by omega) (by omega) (by omega)
        rw [sc 6 (by omega) (by omega)] at gf
        have pd : ∀ p : Nat, p < (σ 1 5).toNat → 0 < dgI (σ 2) p (stI (σ 2) (σ 1 5).toNat - 1) := fun p hp => by
          rw [dgI_all hc hp]
          have := hc p hp
          omega
        have fp := first_20 (F := F) (σ := σ1) (g := a) (n := N) (f := hpI (σ 2) (σ 6) (σ 5) (σ 1 5).toNat (σ 1 6).toNat (chS σ) N) (M := hmP (σ 2) (σ 6) (hpI (σ 2) (σ 6) (σ 5) (σ 1 5).toNat (σ 1 6).toNat (chS σ) N) (ovI (chS σ) N) a (stI (σ 2) (σ 1 5).toNat - 1) (σ 1 5).toNat ((0 : Nat) : Int) (hpI (σ 2) (σ 6) (σ 5) (σ 1 5).toNat (σ 1 6).toNat (chS σ) N (stI (σ 2) (σ 1 5).toNat - 1))) hc hP h324 e2 s15 hw1 (by omega) hN5 f1 (by omega) (fun p hp => rows p hp (pd p hp)) hf (by
          have hr' : 0 ≤ hmP (σ 2) (σ 6) (hpI (σ 2) (σ 6) (σ 5) (σ 1 5).toNat (σ 1 6).toNat (chS σ) N) (ovI (chS σ) N) a (stI (σ 2) (σ 1 5).toNat - 1) (σ 1 5).toNat ((0 : Nat) : Int) (hpI (σ 2) (σ 6) (σ 5) (σ 1 5).toNat (σ 1 6).toNat (chS σ) N (stI (σ 2) (σ 1 5).toNat - 1)) ∧ hmP (σ 2) (σ 6) (hpI (σ 2) (σ 6) (σ 5) (σ 1 5).toNat (σ 1 6).toNat (chS σ) N) (ovI (chS σ) N) a (stI (σ 2) (σ 1 5).toNat - 1) (σ 1 5).toNat ((0 : Nat) : Int) (hpI (σ 2) (σ 6) (σ 5) (σ 1 5).toNat (σ 1 6).toNat (chS σ) N (stI (σ 2) (σ 1 5).toNat - 1)) ≤ 99 * 300000000000 + 200000000000000 := hr
          omega) (σ 1 5).toNat F 0 (by omega) (by omega)
        rw [sc 6 (by omega) (by omega)] at fp
        have hm := hopeM_64 (F := F) (g := a) (ov := ovI (chS σ) N) (n := N) (f := hpI (σ 2) (σ 6) (σ 5) (σ 1 5).toNat (σ 1 6).toNat (chS σ) N) (w := σ 6) (σ := τ) hc hP (by omega) k2 k3 hw (by omega) hN5 l1 (by omega) l2 hf (σ 1 5).toNat F 0 (-4) (hpI (σ 2) (σ 6) (σ 5) (σ 1 5).toNat (σ 1 6).toNat (chS σ) N (stI (σ 2) (σ 1 5).toNat - 1)) (by omega) (by omega) (Or.inl rfl) (by omega)
        rw [hfI_eq (P := (σ 1 5).toNat) pd (σ 1 5).toNat ((0 : Nat) : Int) (-4) _ (by omega) (by omega), if_neg (fun z => z.1 rfl)] at hm
        have on : OnlyH σ τ := fun x y y1 y2 => by
          unfold scr at y2
          rw [k5 x y (by omega) (by omega) (by omega), d4 x y y1]
        have ok : HopesOK τ := d2.frame (fun x y q => k5 x y (by unfold supH supB at q; omega) (by unfold supH supB at q; omega) (by unfold supH supB at q; omega))
        have ew : gX11_whole τ = some (stI (σ 2) (σ 1 5).toNat - 1) := by
          unfold gX11_whole
          rw [k2.2.1]
        have a3 : σ1 52 3 = stI (σ 2) (σ 1 5).toNat := e2.2.1
        have gf' : gX1_greatestFor F σ1 a ((N : Int) + 1) (stI (σ 2) (σ 1 5).toNat - 1) = some (hmP (σ 2) (σ 6) (hpI (σ 2) (σ 6) (σ 5) (σ 1 5).toNat (σ 1 6).toNat (chS σ) N) (ovI (chS σ) N) a (stI (σ 2) (σ 1 5).toNat - 1) (σ 1 5).toNat ((0 : Nat) : Int) (hpI (σ 2) (σ 6) (σ 5) (σ 1 5).toNat (σ 1 6).toNat (chS σ) N (stI (σ 2) (σ 1 5).toNat - 1))) := by
          unfold gX1_greatestFor
          rw [show ((N : Int) + 1 - 1) * 324 + (stI (σ 2) (σ 1 5).toNat - 1) = 324 * N + (stI (σ 2) (σ 1 5).toNat - 1) by omega, w32_id (a := 324 * (N : Int) + (stI (σ 2) (σ 1 5).toNat - 1)) (by omega), gd_pos (by omega), cv]
          exact gf
        refine ⟨lfI (σ 2) (σ 6) (hpI (σ 2) (σ 6) (σ 5) (σ 1 5).toNat (σ 1 6).toNat (chS σ) N) (ovI (chS σ) N) a (stI (σ 2) (σ 1 5).toNat - 1) (hmP (σ 2) (σ 6) (hpI (σ 2) (σ 6) (σ 5) (σ 1 5).toNat (σ 1 6).toNat (chS σ) N) (ovI (chS σ) N) a (stI (σ 2) (σ 1 5).toNat - 1) (σ 1 5).toNat ((0 : Nat) : Int) (hpI (σ 2) (σ 6) (σ 5) (σ 1 5).toNat (σ 1 6).toNat (chS σ) N (stI (σ 2) (σ 1 5).toNat - 1))) (σ 1 5).toNat ((0 : Nat) : Int), σ1, τ, ?_, ?_, ok, on⟩
        · unfold gX1_firstPost gX4_allFree
          rw [Option.bind_some, a3, hN, gf', Option.bind_some]
          exact (congrArg (fun o => Option.bind o fun r4 => some (r4, σ1)) fp).trans rfl
        · rw [m0]
          have k1' : gX11_layHopes F σ1 (b - 1) = some τ := by rw [hN, show (N : Int) + 1 - 1 = N by omega]; exact k1
          rw [k1', Option.bind_some, ew, Option.bind_some, hN, show 512 * ((N : Int) + 1 - 1) + (stI (σ 2) (σ 1 5).toNat - 1) = 512 * N + (stI (σ 2) (σ 1 5).toNat - 1) by omega, w32_id (a := 512 * (N : Int) + (stI (σ 2) (σ 1 5).toNat - 1)) (by omega), gd_pos (by omega), mv]
          exact hm
    · refine ⟨-1, σ, σ, by rw [if_pos q1, if_neg q2], ?_, hh, fun _ _ _ _ => rfl⟩
      rw [mm σ (fun _ _ _ => rfl), if_pos q1, if_neg q2]
  · refine ⟨-1, σ, σ, by rw [if_neg q1], ?_, hh, fun _ _ _ _ => rfl⟩
    rw [mm σ (fun _ _ _ => rfl), if_neg q1]
