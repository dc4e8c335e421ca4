-- PURE LAYER: rule (11): op 8 rule
theorem rule_ref {F : Nat} {τ : St} {R : Int} (hR : 0 ≤ R ∧ R < 6) (h16 : τ 143 16 = R) : gX11_rule F τ = (gX11_readRule F (up (up (up (up (up τ 143 10 0) 143 12 0) 150 R 0) 152 R 0) 156 R 0)).bind fun r1 => if w32 (r1 143 10) ≤ 0 then some (r1 143 16 + 1 - 1, up (up (up r1 143 8 0) 143 9 (r1 143 10)) 143 16 (r1 143 16 + 1)) else some (-10 - r1 143 11, up (up r1 143 8 0) 143 9 (r1 143 10)) := by
  unfold gX11_rule
  simp (disch := decide) only [up_cell, up_slot, up_self]
  rw [h16, w32_id (a := R) (by omega), if_pos (show R ≠ 6 by omega), gd_pos (by omega), gd_pos (by omega), gd_pos (by omega)]
theorem rule_cls {F : Nat} {σ : St} {R : Int} (hR : 0 ≤ R ∧ R < 6) (h12 : σ 0 12 = R) : gX10_rule F σ = ((gX8_advance F (up (up (up (up (up (up σ 57 4 0) 57 1 0) 57 2 0) (63 + 12 * R) 8 0) (63 + 12 * R) 9 0) (63 + 12 * R) 10 0)).bind fun r2 => (gX8_expect F r2 6).bind fun r3 => (gX8_readKey F r3 (63 + 12 * R)).bind fun r4 => gX8_readInto_L36 F (63 + 12 * R) F 0 r4).bind fun r2 => if w32 (r2 57 1) = 0 then some (r2 0 12 + 1 - 1, up (up (up r2 57 0 0) 0 13 (r2 57 1)) 0 12 (r2 0 12 + 1)) else some (-10 - r2 57 2, up (up r2 57 0 0) 0 13 (r2 57 1)) := by
  unfold gX10_rule gX8_readInto gX5_clear
  simp (disch := decide) only [up_cell, up_slot, up_self]
  rw [h12, w32_id (a := R) (by omega), if_pos (show R < 6 by omega), gd_pos (by omega), Option.bind_some]
/-- only rule R's tables, the tape and its counters changed -/
def OnlyR (R : Int) (σ σ' : St) : Prop := ∀ a b, ¬ scr a b → ¬ (a = 0 ∧ (b = 12 ∨ b = 13)) → ¬ (a = 57 ∧ b = 0) → ¬ (a = 143 ∧ (b = 8 ∨ b = 9 ∨ b = 16)) → ¬ (63 + 12 * R ≤ a ∧ a ≤ 68 + 12 * R) → ¬ (150 ≤ a ∧ a ≤ 156) → σ' a b = σ a b
theorem RuleOK.eq {σ σ' : St} {r : Int} (h : RuleOK σ r) (h1 : ∀ c, 63 + 12 * r ≤ c → c ≤ 68 + 12 * r → σ' c = σ c) (h2 : σ' 150 r = σ 150 r ∧ σ' 152 r = σ 152 r ∧ σ' 156 r = σ 156 r) (h3 : ∀ i, 0 ≤ i → i < 6 → σ' 151 (6 * r + i) = σ 151 (6 * r + i)) (h4 : ∀ c i, 153 ≤ c → c ≤ 155 → 0 ≤ i → i < 4 → σ' c (4 * r + i) = σ c (4 * r + i)) : RuleOK σ' r := by
  obtain ⟨k1, k2, k3, k4, k5⟩ := h
  unfold RuleOK
  rw [h1 (63 + 12 * r) (by omega) (by omega), h1 (64 + 12 * r) (by omega) (by omega), h1 (65 + 12 * r) (by omega) (by omega), h1 (66 + 12 * r) (by omega) (by omega), h1 (67 + 12 * r) (by omega) (by omega), h1 (68 + 12 * r) (by omega) (by omega), h2.1, h2.2.1, h2.2.2]
  refine ⟨k1, fun i i1 i2 => ?_, k3, fun i i1 i2 => ?_, k5⟩
  · rw [h3 i i1 (by omega)]; exact k2 i i1 i2
  · rw [h4 153 i (by omega) (by omega) i1 (by omega), h4 154 i (by omega) (by omega) i1 (by omega), h4 155 i (by omega) (by omega) i1 (by omega)]; exact k4 i i1 i2
theorem KT.ok {R : Int} {σ τ ω : St} (h : KT R σ τ) (h8 : 1 ≤ σ (63 + 12 * R) 8 ∧ σ (63 + 12 * R) 8 ≤ 6) (h9 : 0 ≤ σ (63 + 12 * R) 9 ∧ σ (63 + 12 * R) 9 ≤ 4) (hc : ∀ c, 63 + 12 * R ≤ c → c ≤ 68 + 12 * R → ω c = σ c) (hm : ∀ c, 150 ≤ c → c ≤ 156 → ω c = τ c) : RuleOK ω R := by
  obtain ⟨k1, k2, k3, k4, k5, k6⟩ := h
  rw [show 63 + 12 * R + 1 = 64 + 12 * R by omega] at *
  rw [show 63 + 12 * R + 2 = 65 + 12 * R by omega] at *
  rw [show 63 + 12 * R + 3 = 66 + 12 * R by omega] at *
  rw [show 63 + 12 * R + 4 = 67 + 12 * R by omega] at *
  rw [show 63 + 12 * R + 5 = 68 + 12 * R by omega] at *
  unfold RuleOK
  rw [hc (63 + 12 * R) (by omega) (by omega), hc (64 + 12 * R) (by omega) (by omega), hc (65 + 12 * R) (by omega) (by omega), hc (66 + 12 * R) (by omega) (by omega), hc (67 + 12 * R) (by omega) (by omega), hc (68 + 12 * R) (by omega) (by omega), hm 150 (by omega) (by omega), hm 151 (by omega) (by omega), hm 152 (by omega) (by omega), hm 153 (by omega) (by omega), hm 154 (by omega) (by omega), hm 155 (by omega) (by omega), hm 156 (by omega) (by omega)]
  exact ⟨⟨h8.1, h8.2, k1⟩, k2, ⟨h9.1, h9.2, k4⟩, k5, k6⟩
theorem op_rule {F : Nat} (hF : 300 ≤ F) {σ : St} (hR : InvR σ) (hT : InvT σ) : ∃ r σ1 σ2, gX10_rule F σ = some (r, σ1) ∧ gX11_rule F σ1 = some (r, σ2) ∧ InvR σ2 ∧ InvT σ2 ∧ OnlyR (σ 0 12) σ σ2 ∧ (σ2 = σ ∨ σ 0 12 < 6 ∧ (σ2 0 12 = σ 0 12 ∨ σ2 0 12 = σ 0 12 + 1)) := by
  obtain ⟨r1, r2, r3⟩ := hR
  by_cases q : σ 0 12 = 6
  · refine ⟨-3, σ, σ, ?_, ?_, ⟨r1, r2, r3⟩, hT, fun _ _ _ _ _ _ _ _ => rfl, Or.inl rfl⟩
    · unfold gX10_rule
      rw [q, w32_id (by decide), if_neg (by decide)]
    · unfold gX11_rule
      rw [r1.2.2, q, w32_id (by decide), if_neg (by decide)]
  · obtain ⟨R, hRd⟩ : ∃ R, R = σ 0 12 := ⟨_, rfl⟩
    have hR6 : 0 ≤ R ∧ R < 6 := by omega
    have t1 := hT.1
    rw [rule_cls hR6 hRd.symm]
    generalize hs0 : up (up (up (up (up (up σ 57 4 0) 57 1 0) 57 2 0) (63 + 12 * R) 8 0) (63 + 12 * R) 9 0) (63 + 12 * R) 10 0 = s0
    have s0n : ∀ a j, ¬ (a = 57 ∧ (j = 4 ∨ j = 1 ∨ j = 2)) → ¬ (a = 63 + 12 * R ∧ (j = 8 ∨ j = 9 ∨ j = 10)) → s0 a j = σ a j := fun a j w1 w2 => by
      rw [← hs0]
      simp only [up_at]
      rw [if_neg (by omega), if_neg (by omega), if_neg (by omega), if_neg (by omega), if_neg (by omega), if_neg (by omega)]
    have z57 : s0 57 1 = 0 ∧ s0 57 4 = 0 := by
      rw [← hs0]; simp (disch := omega) only [up_cell, up_slot, up_self]; exact ⟨trivial, trivial⟩
    have zK : s0 (63 + 12 * R) 8 = 0 ∧ s0 (63 + 12 * R) 9 = 0 ∧ s0 (63 + 12 * R) 10 = 0 := by
      rw [← hs0]; simp (disch := omega) only [up_slot, up_self]; exact ⟨trivial, trivial, trivial⟩
    have c0 : TC (σ 58) (σ 57 0) s0 := ⟨⟨t1.1, t1.2.1⟩, hT.2.2.1, s0n 57 0 (by omega) (by omega), by funext j; exact s0n 58 j (by omega) (by omega)⟩
    -- the reading, for each store of the reference that is ready
    have go := fun (τ : St) (w1 : TM (σ 58) (σ 57 0) τ) (w2 : τ 143 16 = R) (w3 : τ 143 10 = 0) (w4 : τ 143 12 = 0) (w5 : τ 150 R = 0) (w6 : τ 152 R = 0) (w7 : τ 156 R = 0) => read_both hF c0 w1 ⟨hR6.1, hR6.2, w2⟩ ⟨z57.1, w3⟩ ⟨z57.2, w4⟩ zK ⟨w5, w6, w7⟩
    have rdy : ∀ ω : St, (∀ a j, a = 149 ∨ a = 157 ∨ a = 158 → ω a j = σ a j) → ω 143 8 = σ 143 8 → ω 143 16 = σ 143 16 → ∀ τ, τ = up (up (up (up (up ω 143 10 0) 143 12 0) 150 R 0) 152 R 0) 156 R 0 → TM (σ 58) (σ 57 0) τ ∧ τ 143 16 = R ∧ τ 143 10 = 0 ∧ τ 143 12 = 0 ∧ τ 150 R = 0 ∧ τ 152 R = 0 ∧ τ 156 R = 0 ∧ ∀ a j, ¬ (a = 143 ∧ (j = 10 ∨ j = 12)) → ¬ ((a = 150 ∨ a = 152 ∨ a = 156) ∧ j = R) → τ a j = ω a j := by
      intro ω w1 w2 w3 τ hτ
      have e : ∀ k, k = 149 ∨ k = 157 ∨ k = 158 → τ k = σ k := fun k hk => by
        funext j; rw [hτ, ← w1 k j hk]; simp (disch := omega) only [up_cell]
      have f : ∀ a j, ¬ (a = 143 ∧ (j = 10 ∨ j = 12)) → ¬ ((a = 150 ∨ a = 152 ∨ a = 156) ∧ j = R) → τ a j = ω a j := fun a j v1 v2 => by
        rw [hτ]; simp only [up_at]
        rw [if_neg (by omega), if_neg (by omega), if_neg (by omega), if_neg (by omega), if_neg (by omega)]
      refine ⟨⟨⟨t1.1, t1.2.1⟩, hT.2.2.1, by rw [f _ _ (by omega) (by omega), w2, t1.2.2], by rw [e _ (by omega), hT.2.1], by rw [e _ (by omega), hT.2.2.2.1], by rw [e _ (by omega), hT.2.2.2.2]⟩, by rw [f _ _ (by omega) (by omega), w3, r1.2.2, hRd], ?_, ?_, ?_, ?_, ?_, f⟩ <;> rw [hτ] <;> simp (disch := omega) only [up_cell, up_slot, up_self]
    obtain ⟨u1, u2, u3, u4, u5, u6, u7, _⟩ := rdy σ (fun _ _ _ => rfl) rfl rfl _ rfl
    obtain ⟨s1, _, e1, _, q1, f1, _, _⟩ := go _ u1 u2 u3 u4 u5 u6 u7
    have pf1 := q1.1.2.2.1.2.1
    clear u1 u2 u3 u4 u5 u6 u7 q1
    rw [e1, Option.bind_some]
    have s1n : ∀ a j, ¬ (a = 57 ∧ 1 ≤ j ∧ j ≤ 7) → ¬ (63 + 12 * R ≤ a ∧ a ≤ 68 + 12 * R) → s1 a j = σ a j := fun a j w1 w2 => (f1 a j w1 (by omega) (by omega)).trans (s0n a j (by omega) (by omega))
    -- class's store at the end
    have fin : ∀ (s2 : St) (r : Int), (∀ a j, ¬ (a = 57 ∧ j = 0) → ¬ (a = 0 ∧ (j = 12 ∨ j = 13)) → s2 a j = s1 a j) → s2 57 0 = 0 → s2 0 13 = s1 57 1 → (s1 57 1 = 0 ∧ s2 0 12 = R + 1 ∧ r = R + 1 - 1 ∨ s1 57 1 ≠ 0 ∧ s2 0 12 = R ∧ r = -10 - s1 57 2) → ∃ σ2, gX11_rule F s2 = some (r, σ2) ∧ InvR σ2 ∧ InvT σ2 ∧ OnlyR (σ 0 12) σ σ2 ∧ (σ2 = σ ∨ σ 0 12 < 6 ∧ (σ2 0 12 = σ 0 12 ∨ σ2 0 12 = σ 0 12 + 1)) := by
      intro s2 r g1 g2 g3 g4
      have g5 : ∀ a j, ¬ (a = 57 ∧ j ≤ 7) → ¬ (63 + 12 * R ≤ a ∧ a ≤ 68 + 12 * R) → ¬ (a = 0 ∧ (j = 12 ∨ j = 13)) → s2 a j = σ a j := fun a j w1 w2 w3 => (g1 a j (by omega) w3).trans (s1n a j (by omega) w2)
      obtain ⟨u1, u2, u3, u4, u5, u6, u7, u8⟩ := rdy s2 (fun a j w => g5 a j (by omega) (by omega) (by omega)) (g5 _ _ (by omega) (by omega) (by omega)) (g5 _ _ (by omega) (by omega) (by omega)) _ rfl
      rw [rule_ref hR6 ((g5 143 16 (by omega) (by omega) (by omega)).trans (r1.2.2.trans hRd.symm))]
      generalize hτ0 : up (up (up (up (up s2 143 10 0) 143 12 0) 150 R 0) 152 R 0) 156 R 0 = τ0 at *
      obtain ⟨s1', τ1, e1', e2, e3, _, f2, e4⟩ := go _ u1 u2 u3 u4 u5 u6 u7
      have es := Option.some.inj (e1.symm.trans e1')
      subst es
      rw [e2, Option.bind_some]
      obtain ⟨p1, p2, p3, p4⟩ := e3
      have pf := p1.2.2.1
      have t1n : ∀ a j, ¬ (a = 143 ∧ 10 ≤ j ∧ j ≤ 15) → ¬ (150 ≤ a ∧ a ≤ 156) → τ1 a j = s2 a j := fun a j w1 w2 => (f2 a j w1 (by omega) (by omega) (by omega)).trans (u8 a j (by omega) (by omega))
      have t1o : ∀ a j, 150 ≤ a → a ≤ 156 → ¬ ((a = 150 ∨ a = 152 ∨ a = 156) ∧ j = R) → ¬ (a = 151 ∧ 6 * R ≤ j ∧ j < 6 * R + 6) → ¬ (153 ≤ a ∧ a ≤ 155 ∧ 4 * R ≤ j ∧ j < 4 * R + 4) → τ1 a j = σ a j := fun a j w1 w2 w3 w4 w5 => ((f2 a j (by omega) w3 w4 w5).trans (u8 a j (by omega) w3)).trans (g5 a j (by omega) (by omega) (by omega))
      rw [← pf.1, w32_id (a := s1 57 1) (by have := pf.2.1; omega), p2.2.2]
      clear go rdy e1 e1' e2 hτ0 u1 u2 u3 u4 u5 u6 u7 u8 f1 f2 hs0 s0n z57 zK c0
      -- the reference's store at the end
      have fin2 : ∀ σ2 : St, (∀ a j, ¬ (a = 143 ∧ (j = 8 ∨ j = 9 ∨ j = 16)) → σ2 a j = τ1 a j) → σ2 143 8 = 0 → σ2 143 9 = s1 57 1 → σ2 143 16 = s2 0 12 → InvR σ2 ∧ InvT σ2 ∧ OnlyR (σ 0 12) σ σ2 ∧ (σ2 = σ ∨ σ 0 12 < 6 ∧ (σ2 0 12 = σ 0 12 ∨ σ2 0 12 = σ 0 12 + 1)) := by
        intro σ2 v1 v2 v3 v4
        have a12 : σ2 0 12 = s2 0 12 := (v1 _ _ (by omega)).trans (t1n _ _ (by omega) (by omega))
        have a13 : σ2 0 13 = s1 57 1 := (v1 _ _ (by omega)).trans ((t1n _ _ (by omega) (by omega)).trans g3)
        have aK : ∀ c, 63 + 12 * R ≤ c → c ≤ 68 + 12 * R → σ2 c = s1 c := fun c c1 c2 => by
          funext j; exact (v1 c j (by omega)).trans ((t1n c j (by omega) (by omega)).trans (g1 c j (by omega) (by omega)))
        have aM : ∀ c, 150 ≤ c → c ≤ 156 → σ2 c = τ1 c := fun c c1 c2 => by funext j; exact v1 c j (by omega)
        have aO : ∀ a j, ¬ (a = 57 ∧ j ≤ 7) → ¬ (63 + 12 * R ≤ a ∧ a ≤ 68 + 12 * R) → ¬ (a = 0 ∧ (j = 12 ∨ j = 13)) → ¬ (a = 143 ∧ (j = 8 ∨ j = 9 ∨ j = 16)) → ¬ (a = 143 ∧ 10 ≤ j ∧ j ≤ 15) → ¬ (150 ≤ a ∧ a ≤ 156) → σ2 a j = σ a j := fun a j w1 w2 w3 w4 w5 w6 => (v1 a j w4).trans ((t1n a j w5 w6).trans (g5 a j w1 w2 w3))
        refine ⟨⟨by rw [a12, v4]; omega, by rw [a13, v3]; have := pf.2.1; omega, fun r r0 r5 => ?_⟩, ⟨?_, ?_, ?_, ?_, ?_⟩, fun a b w1 w2 w3 w4 w5 w6 => ?_, Or.inr ⟨by omega, by rw [a12]; omega⟩⟩
        · by_cases w : r = R
          · have z : s1 57 1 = 0 := by
              rcases g4 with g4 | g4
              · exact g4.1
              · rw [a12, g4.2.1] at r5; omega
            subst w
            exact (p4 z).ok ⟨e4 z, p3.1.2⟩ p3.2 aK aM
          · have r6 : r < R := by rw [a12] at r5; omega
            refine (r3 r r0 (by omega)).eq (fun c c1 c2 => ?_) ⟨?_, ?_, ?_⟩ (fun i i1 i2 => ?_) (fun c i c1 c2 i1 i2 => ?_)
            · funext j; exact aO c j (by omega) (by omega) (by omega) (by omega) (by omega) (by omega)
            · rw [aM _ (by omega) (by omega), t1o _ _ (by omega) (by omega) (by omega) (by omega) (by omega)]
            · rw [aM _ (by omega) (by omega), t1o _ _ (by omega) (by omega) (by omega) (by omega) (by omega)]
            · rw [aM _ (by omega) (by omega), t1o _ _ (by omega) (by omega) (by omega) (by omega) (by omega)]
            · rw [aM _ (by omega) (by omega), t1o _ _ (by omega) (by omega) (by omega) (by omega) (by omega)]
            · rw [aM _ (by omega) (by omega), t1o _ _ (by omega) (by omega) (by omega) (by omega) (by omega)]
        · have : σ2 57 0 = 0 := (v1 _ _ (by omega)).trans ((t1n _ _ (by omega) (by omega)).trans g2)
          omega
        · rw [show σ2 149 = σ 149 by funext j; exact aO _ _ (by omega) (by omega) (by omega) (by omega) (by omega) (by omega), show σ2 58 = σ 58 by funext j; exact aO _ _ (by omega) (by omega) (by omega) (by omega) (by omega) (by omega)]
          exact hT.2.1
        · intro i i1 i2
          rw [aO 58 i (by omega) (by omega) (by omega) (by omega) (by omega) (by omega)]
          exact hT.2.2.1 i i1 i2
        · rw [show σ2 157 = σ 157 by funext j; exact aO _ _ (by omega) (by omega) (by omega) (by omega) (by omega) (by omega)]; exact hT.2.2.2.1
        · rw [show σ2 158 = σ 158 by funext j; exact aO _ _ (by omega) (by omega) (by omega) (by omega) (by omega) (by omega)]; exact hT.2.2.2.2
        · unfold scr at w1
          exact aO a b (by omega) (by omega) w2 w4 (by omega) w6
      by_cases z : s1 57 1 = 0
      · rw [if_pos (by omega)]
        refine ⟨_, by rw [show R + 1 - 1 = r by omega], fin2 _ (fun a j w => ?_) ?_ ?_ ?_⟩
        · simp only [up_at]
          rw [if_neg (by omega), if_neg (by omega), if_neg (by omega)]
        · simp (disch := omega) only [up_slot, up_self]
        · simp (disch := omega) only [up_slot, up_self]
        · rw [up_self]; omega
      · have := pf.2.1
        rw [if_neg (by omega), ← (pf.2.2 z).1]
        refine ⟨_, by rw [show -10 - s1 57 2 = r by omega], fin2 _ (fun a j w => ?_) ?_ ?_ ?_⟩
        · simp only [up_at]
          rw [if_neg (by omega), if_neg (by omega)]
        · simp (disch := omega) only [up_slot, up_self]
        · rw [up_self]
        · rw [up_slot (by omega), up_slot (by omega), t1n _ _ (by omega) (by omega), g5 _ _ (by omega) (by omega) (by omega), r1.2.2]; omega
    have h12 : s1 0 12 = R := by rw [s1n _ _ (by omega) (by omega), hRd]
    rw [h12]
    rw [w32_id (a := s1 57 1) (by omega)]
    by_cases z : s1 57 1 = 0
    · rw [if_pos z]
      obtain ⟨σ2, x1, x2⟩ := fin (up (up (up s1 57 0 0) 0 13 (s1 57 1)) 0 12 (R + 1)) (R + 1 - 1) (fun a j w1 w2 => by
        simp only [up_at]
        rw [if_neg (by omega), if_neg (by omega), if_neg (by omega)]) (by simp (disch := omega) only [up_cell, up_self]) (by simp (disch := omega) only [up_slot, up_self]) (Or.inl ⟨z, up_self _ _ _ _, rfl⟩)
      exact ⟨_, _, σ2, rfl, x1, x2⟩
    · rw [if_neg z]
      obtain ⟨σ2, x1, x2⟩ := fin (up (up s1 57 0 0) 0 13 (s1 57 1)) (-10 - s1 57 2) (fun a j w1 w2 => by
        simp only [up_at]
        rw [if_neg (by omega), if_neg (by omega)]) (by simp (disch := omega) only [up_cell, up_self]) (up_self _ _ _ _) (Or.inr ⟨z, by simp (disch := omega) only [up_cell, up_slot]; exact h12, rfl⟩)
      exact ⟨_, _, σ2, rfl, x1, x2⟩
