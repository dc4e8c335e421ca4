-- PURE LAYER: net, the call
theorem mul_54 {G P : Int} (hG : 0 ≤ G ∧ G ≤ 9) (hP : 0 ≤ P ∧ P ≤ 6) : 0 ≤ G * P ∧ G * P ≤ 54 := by
  have h1 := Int.mul_nonneg hG.1 hP.1
  have h2 : G * P ≤ 9 * 6 := Int.mul_le_mul hG.2 hP.2 hP.1 (by omega)
  omega
theorem op_net {F n : Nat} (hF : 100 ≤ F) {σ : St} {a b c : Int} (hB : InvB n σ) (hM : InvM σ) (hS : InvS σ) (ha : w32 a = a) (hb : w32 b = b) (hc : w32 c = c) :
    ∃ r σ1 σ2, gX10_net F σ a b c = some (r, σ1) ∧ gX11_net F σ1 a b c = some (r, σ2) ∧ InvB (n + 1) σ2 ∧ InvM σ2 ∧ ChgB σ σ2 := by
  obtain ⟨⟨p1, p2, p3⟩, ⟨g1, g2, g3⟩, v1, ⟨c1, c2, c3, c4, c5⟩, b5, b6, b7, b8⟩ := id hB
  have x1 : gX10_isSheet σ a = some (tv (0 ≤ a ∧ a ≤ 3)) := by
    unfold gX10_isSheet
    rw [ha]
    by_cases q1 : a < 0
    · rw [if_pos q1, tv_neg (by omega)]
    · rw [if_neg q1]
      by_cases q2 : a ≥ 4
      · rw [if_pos q2, tv_neg (by omega)]
      · rw [if_neg q2, tv_pos (by omega)]
  have x2 : gX10_isIn σ b 0 2 = some (tv (0 ≤ b ∧ b ≤ 2)) := gX10_isIn_eq σ hb (by decide) (by decide)
  have m1 : ∀ s, gX11_in s (w32 a) 0 3 = some (tv (0 ≤ a ∧ a ≤ 3)) := fun s => gX11_in32 s ha (by decide) (by decide)
  have m2 : ∀ s, gX11_in s (w32 b) 0 2 = some (tv (0 ≤ b ∧ b ≤ 2)) := fun s => gX11_in32 s hb (by decide) (by decide)
  by_cases h1 : 0 ≤ a ∧ a ≤ 3
  · by_cases h2 : 0 ≤ b ∧ b ≤ 2
    · obtain ⟨⟨s1, s2⟩, ⟨s3, s4⟩, s5⟩ := hS a h1.1 (by omega)
      have x3 : gX6_isNothing σ (135 + 2 * a) = some (tv (σ (135 + 2 * a) 1 = -4)) := by
        unfold gX6_isNothing tv
        rw [w32_id (a := σ (135 + 2 * a) 1) (by omega)]
        by_cases q : σ (135 + 2 * a) 1 = -4
        · rw [if_neg (fun z => z q), if_pos q]
        · rw [if_pos q, if_neg q]
      have wl : w32 (σ (135 + 2 * a) 1) = σ (135 + 2 * a) 1 := w32_id (by omega)
      have xx : gX10_net F σ a b c = if ¬ σ (135 + 2 * a) 1 = -4 then (if σ (135 + 2 * a) 1 = b then gX10_net_L69 F a b c F (135 + 2 * a) (σ 1 6 * σ 1 5) 0 σ else some (-13, σ)) else some (-11, σ) := by
        unfold gX10_net
        rw [x1, Option.bind_some, tv_if0, if_pos h1, x2, Option.bind_some, tv_if1, if_pos h2, ha, gd_pos (by omega), x3, Option.bind_some, tv_if0, wl, hb]
        by_cases q : σ (135 + 2 * a) 1 = -4
        · rw [if_pos q, if_neg (fun z => z q)]
        · rw [if_neg q, if_pos q]
      have mm : ∀ s : St, s 178 a = σ (135 + 2 * a) 1 → gX11_net F s a b c = if σ (135 + 2 * a) 1 = b then gX11_net_L58 F a b c F 0 s else (if σ (135 + 2 * a) 1 ≠ -4 then some (-13, s) else some (-11, s)) := by
        intro s hs
        unfold gX11_net
        rw [m1, Option.bind_some, tv_if0, if_pos h1, m2, Option.bind_some, tv_if1, if_pos h2, ha, gd_pos (by omega), gd_pos (by omega), hs, wl, hb]
      rw [xx]
      by_cases h3 : σ (135 + 2 * a) 1 = -4
      · rw [if_neg (fun z => z h3)]
        refine ⟨-11, σ, σ, rfl, ?_, hB.next, hM, ChgB.rf σ⟩
        rw [mm σ s1, if_neg (by omega), if_neg (fun z => z h3)]
      rw [if_pos h3]
      by_cases h4 : σ (135 + 2 * a) 1 = b
      · rw [if_pos h4]
        have N1 := mul_54 ⟨g1, g2⟩ ⟨p1, p2⟩
        rw [net_69 F a b c σ (135 + 2 * a) (σ 1 6 * σ 1 5) s4 hc N1.2 (fun i y1 y2 => by rw [show 135 + 2 * a + 1 = 136 + 2 * a by omega]; exact (s5 i y1 y2).2) (σ 1 6 * σ 1 5).toNat F 0 (by omega) (by omega) (by omega)]
        have m58 : ∀ s : St, s 143 0 = σ 1 5 → s 143 4 = σ 1 6 → s 179 = σ 179 → s 180 = σ 180 → gX11_net_L58 F a b c F 0 s = (chkN (σ (135 + 2 * a) 2) (σ (135 + 2 * a + 1)) c (σ 1 6 * σ 1 5).toNat 0).elim ((gX11_came F s).bind fun r1 => if w32 r1 ≤ 0 then gX11_net_L153 F a b c F 0 0 s else some ((-2), s)) (fun r => some (r, s)) := by
          intro s y1 y2 y3 y4
          exact net_58 F a b c s (σ (135 + 2 * a + 1)) (σ (135 + 2 * a) 2) h1 (by rw [y3, s3]) s4 hc (by rw [y1, y2]; omega) (by rw [y1, y2]; omega) (fun i z1 z2 => by rw [y4, show 135 + 2 * a + 1 = 136 + 2 * a by omega]; exact s5 i z1 z2) _ F 0 (by omega) (by rw [y1, y2]; omega) (by omega)
        have cr := (hM.cur.cnt_rng ⟨g1, g2⟩).2
        have ec : w32 (σ 7 10) = σ 7 10 := w32_id (by omega)
        cases hk : chkN (σ (135 + 2 * a) 2) (σ (135 + 2 * a + 1)) c (σ 1 6 * σ 1 5).toNat 0 with
        | some r =>
          refine ⟨r, σ, σ, rfl, ?_, hB.next, hM, ChgB.rf σ⟩
          rw [mm σ s1, if_pos h4, m58 σ p3 g3 rfl rfl, hk]
          rfl
        | none =>
          have ok := chkN_ok _ _ hk
          show ∃ r σ1 σ2, (if w32 (σ 7 10) ≤ 0 then (gX10_readWorths F σ (135 + 2 * a) c).bind fun r1 => some (r1.1, r1.2) else some (-2, σ)) = some (r, σ1) ∧ _
          rw [ec]
          by_cases h5 : σ 7 10 ≤ 0
          · rw [if_pos h5]
            have eN : (σ 1 6).toNat * (σ 1 5).toNat = (σ 1 6 * σ 1 5).toNat := by rw [Int.toNat_mul g1 p1]
            have e0 : stW σ (σ 6) (σ 1 7) = σ := by
              funext q j
              unfold stW
              split
              · rename_i z; rw [z]
              · split
                · rename_i z; rw [z.1, z.2]
                · rfl
            have rw8 := readW_8 F hF σ (135 + 2 * a) c (by omega) ⟨p1, p2⟩ ⟨g1, g2⟩ (σ 1 6).toNat F 0 0 (σ 1 7) (σ 6) (by omega) (by omega) (by omega) (fun j y1 y2 => hB.worth j y1 y2) (fun j y1 y2 => by
              have := ok j (by omega) (by rw [eN] at y2; omega)
              omega)
            rw [e0, eN, Int.zero_mul, Int.add_zero, Int.zero_add] at rw8
            obtain ⟨k1, k2, k3⟩ := ntC_rng (σ 1 5) (σ (135 + 2 * a + 1)) c (σ 1 6 * σ 1 5).toNat 0 (σ 6)
            generalize hC : ntC (σ 1 5) (σ (135 + 2 * a + 1)) c (σ 1 6 * σ 1 5).toNat 0 (σ 6) = C at rw8 k1 k2 k3
            generalize hW : ntW (σ 1 5) (σ (135 + 2 * a + 1)) c (σ 1 6 * σ 1 5).toNat 0 (σ 6) = W at rw8 k3
            have o1 : ∀ q, q ≠ 6 → q ≠ 1 → stW σ W (σ 1 7 + C) q = σ q := fun q y1 y2 => by funext j; exact stW_o y1 (by omega)
            have w148 : stW σ W (σ 1 7 + C) 148 = σ 6 := by rw [o1 148 (by omega) (by omega), c5]
            obtain ⟨σ2, t1, t2⟩ := net_153 F a b c (σ 1 5) (σ 1 6) (σ (135 + 2 * a + 1)) h1 ⟨p1, p2⟩ ⟨g1, g2⟩ N1.2 (σ 1 6 * σ 1 5).toNat F 0 0 (stW σ W (σ 1 7 + C)) (by rw [o1 143 (by omega) (by omega), p3]) (by rw [o1 143 (by omega) (by omega), g3]) (fun i y1 y2 => by rw [o1 180 (by omega) (by omega), show 135 + 2 * a + 1 = 136 + 2 * a by omega]; exact (s5 i y1 y2).1) (fun j y1 y2 => by rw [w148]; exact hB.worth j y1 y2) (fun j y1 y2 => by
              have := ok j (by omega) (by omega)
              omega) (by omega) (by omega) (by omega)
            rw [w148, hC, Int.zero_add] at t1
            rw [w148, hW] at t2
            have u6 : σ2 6 = W := by funext j; rw [t2, if_neg (by omega), stW_6]
            have u148 : σ2 148 = W := by funext j; rw [t2, if_pos rfl]
            have u17 : σ2 1 7 = σ 1 7 + C := by rw [t2, if_neg (by omega), stW_17]
            have uo : ∀ q j, q ≠ 6 → q ≠ 148 → ¬ (q = 1 ∧ j = 7) → σ2 q j = σ q j := fun q j y1 y2 y3 => by rw [t2, if_neg y2, stW_o y1 y3]
            have uc : ∀ q, q ≠ 6 → q ≠ 148 → q ≠ 1 → σ2 q = σ q := fun q y1 y2 y3 => by funext j; exact uo q j y1 y2 (by omega)
            refine ⟨C, stW σ W (σ 1 7 + C), σ2, ?_, ?_, ?_, ?_, ?_⟩
            · unfold gX10_readWorths
              rw [rw8]; rfl
            · rw [mm _ (by rw [o1 178 (by omega) (by omega)]; exact s1), if_pos h4, m58 _ (by rw [o1 143 (by omega) (by omega), p3]) (by rw [o1 143 (by omega) (by omega), g3]) (o1 179 (by omega) (by omega)) (o1 180 (by omega) (by omega)), hk]
              show ((gX11_came F (stW σ W (σ 1 7 + C))).bind fun r1 => if w32 r1 ≤ 0 then gX11_net_L153 F a b c F 0 0 (stW σ W (σ 1 7 + C)) else some ((-2), stW σ W (σ 1 7 + C))) = _
              rw [hM.came (by omega) ⟨g1, g2⟩ (by rw [o1 143 (by omega) (by omega), g3]) (o1 173 (by omega) (by omega)), Option.bind_some, ec, if_pos h5]
              exact t1
            · refine ⟨?_, ?_, ?_, ?_, ?_, ?_, ?_, ?_⟩
              · rw [uo 1 5 (by omega) (by omega) (by omega), uo 143 0 (by omega) (by omega) (by omega)]; exact ⟨p1, p2, p3⟩
              · rw [uo 1 6 (by omega) (by omega) (by omega), uo 143 4 (by omega) (by omega) (by omega)]; exact ⟨g1, g2, g3⟩
              · rw [u17]; omega
              · rw [uc 144 (by omega) (by omega) (by omega), uc 2 (by omega) (by omega) (by omega), uc 145 (by omega) (by omega) (by omega), uc 3 (by omega) (by omega) (by omega), uc 146 (by omega) (by omega) (by omega), uc 4 (by omega) (by omega) (by omega), uc 147 (by omega) (by omega) (by omega), uc 5 (by omega) (by omega) (by omega), u6, u148]
                exact ⟨c1, c2, c3, c4, rfl⟩
              · rw [uo 1 5 (by omega) (by omega) (by omega), uc 2 (by omega) (by omega) (by omega), uc 3 (by omega) (by omega) (by omega), uc 4 (by omega) (by omega) (by omega)]; exact b5
              · rw [uo 1 6 (by omega) (by omega) (by omega), uc 5 (by omega) (by omega) (by omega)]; exact b6
              · rw [uo 1 5 (by omega) (by omega) (by omega), uo 1 6 (by omega) (by omega) (by omega), u6, ← hW]
                have iv := ntW_inv (σ 1 5) (σ (135 + 2 * a + 1)) c (fun j x => ∀ g p, 0 ≤ g → g < 9 → 0 ≤ p → p < 6 → j = 6 * g + p → (0 ≤ x ∧ x ≤ 99) ∧ (σ 1 6 ≤ g ∨ σ 1 5 ≤ p → x = 0)) (σ 1 6 * σ 1 5).toNat 0 (σ 6) (fun j g p y1 y2 y3 y4 y5 => by rw [y5]; exact b7 g p y1 y2 y3 y4) (fun j z1 z2 g p y1 y2 y3 y4 y5 => by
                  have hP0 : 0 < σ 1 5 := by
                    by_cases q : σ 1 5 = 0
                    · rw [q, Int.mul_zero] at z2; omega
                    · omega
                  have d2 : j / σ 1 5 < σ 1 6 := Int.ediv_lt_of_lt_mul hP0 (by omega)
                  have d3 : 0 ≤ j % σ 1 5 := Int.emod_nonneg j (by omega)
                  have d4 : j % σ 1 5 < σ 1 5 := Int.emod_lt_of_pos j hP0
                  unfold ixN at y5
                  have := ok j (by omega) (by omega)
                  exact ⟨this.2, fun y6 => by omega⟩)
                intro g p y1 y2 y3 y4
                exact iv (6 * g + p) g p y1 y2 y3 y4 rfl
              · rw [uo 1 5 (by omega) (by omega) (by omega), uc 2 (by omega) (by omega) (by omega)]; exact b8
            · refine hM.frame (fun q j y => ?_)
              unfold supM redM at y
              exact uo q j (by omega) (by omega) (by omega)
            · refine ⟨fun q j y1 y2 => ?_, ?_⟩
              · unfold supB at y1
                exact uo q j (by omega) (by omega) (by omega)
              · by_cases z : C = 0
                · left
                  have zW := k3 z
                  funext q j
                  by_cases y1 : q = 6
                  · rw [y1, u6, zW]
                  by_cases y2 : q = 148
                  · rw [y2, u148, zW, c5]
                  by_cases y3 : q = 1 ∧ j = 7
                  · rw [y3.1, y3.2, u17]; omega
                  · exact uo q j y1 y2 y3
                · right; rw [u17]; omega
          · rw [if_neg h5]
            refine ⟨-2, σ, σ, rfl, ?_, hB.next, hM, ChgB.rf σ⟩
            rw [mm σ s1, if_pos h4, m58 σ p3 g3 rfl rfl, hk]
            show ((gX11_came F σ).bind fun r1 => if w32 r1 ≤ 0 then gX11_net_L153 F a b c F 0 0 σ else some ((-2), σ)) = _
            rw [hM.came (by omega) ⟨g1, g2⟩ g3 rfl, Option.bind_some, ec, if_neg h5]
      · rw [if_neg h4]
        refine ⟨-13, σ, σ, rfl, ?_, hB.next, hM, ChgB.rf σ⟩
        rw [mm σ s1, if_neg h4, if_pos h3]
    · refine ⟨-1, σ, σ, ?_, ?_, hB.next, hM, ChgB.rf σ⟩
      · unfold gX10_net
        rw [x1, Option.bind_some, tv_if0, if_pos h1, x2, Option.bind_some, tv_if1, if_neg h2]
      · unfold gX11_net
        rw [m1, Option.bind_some, tv_if0, if_pos h1, m2, Option.bind_some, tv_if1, if_neg h2]
  · refine ⟨-1, σ, σ, ?_, ?_, hB.next, hM, ChgB.rf σ⟩
    · unfold gX10_net
      rw [x1, Option.bind_some, tv_if0, if_neg h1]
    · unfold gX11_net
      rw [m1, Option.bind_some, tv_if0, if_neg h1]
