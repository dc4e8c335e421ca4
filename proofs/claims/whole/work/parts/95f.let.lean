-- PURE LAYER: let
theorem op_let {F n : Nat} (hF : 100 ≤ F) {σ : St} {a b : Int} (hB : InvB n σ) (hM : InvM σ) (hE : Ew σ) (ha : w32 a = a) (hb : w32 b = b) :
    ∃ r σ1 σ2, gX10_let F σ a b = some (r, σ1) ∧ gX11_let F σ1 a b = some (r, σ2) ∧ InvM σ2 ∧ OnlyME σ σ2 ∧ Ew σ2 := by
  obtain ⟨⟨p1, p2, p3⟩, ⟨g1, g2, g3⟩, -⟩ := id hB
  obtain ⟨m1, m4, m5, m6, -⟩ := id hM
  have hS := hM.st hB
  have hBd : BdOK σ (bd 7) := hB.bd1
  have b7 : bd 7 = 1 := by decide
  unfold gX10_let
  rw [gX10_isGuest_eq σ ha (w32_id (by omega)), Option.bind_some, tv_if0, gX10_isPost_eq σ hb (w32_id (by omega)), Option.bind_some, tv_if1]
  by_cases q1 : 0 ≤ a ∧ a < σ 1 6
  · by_cases q2 : 0 ≤ b ∧ b < σ 1 5
    · have hw := hBd.2.2.2 (6 * a + b) (by omega) (by omega)
      have hbb := hBd.2.2.1 b q2.1 q2.2
      have sb := (hS.2 b q2.1 (by omega)).2 q2.2
      have cn := cntN_rng (σ 10) b
      have s11 : 0 ≤ σ 11 a ∧ σ 11 a ≤ 9 := (hS.1 a q1.1 (by omega)).2.1
      have ct := canTake_eq hBd hS (g := a) (p := b) (by omega) q2
      rw [if_pos q1, if_pos q2, hasCome_eq (σ := σ) (k := 7) (g := a) (by omega) s11, Option.bind_some, tv_if1, ct, Option.bind_some, tv_if1]
      have hw' : 0 ≤ σ 6 (6 * a + b) ∧ σ 6 (6 * a + b) ≤ 99 := hw
      have hbb' : (1 ≤ σ 2 b ∧ σ 2 b ≤ 3) ∧ (0 ≤ σ 3 b ∧ σ 3 b ≤ 99) ∧ (1 ≤ σ 4 b ∧ σ 4 b ≤ 999) := hbb
      have sb' : cntN (σ 10) b ≤ σ 2 b ∧ 0 ≤ σ 9 b ∧ σ 9 b ≤ σ 4 b := sb
      show ∃ r σ1 σ2, (if 0 < σ 11 a then some (-2, σ) else if 0 < σ 6 (6 * a + b) ∧ 0 < σ 2 b - cntN (σ 10) b ∧ σ 9 b < σ 4 b then (gX7_enter F σ 7 a b).bind fun r5 => some (r5.1, r5.2) else some (-2, σ)) = some (r, σ1) ∧ _
      have mm : ∀ s : St, (∀ x y, supB x y ∨ (173 ≤ x ∧ x ≤ 176) ∨ (x = 143 ∧ y = 53) → s x y = σ x y) → ∃ τ, RelB σ 7 τ (-1) ∧ τ 143 35 = σ 7 10 ∧ (∀ x y, ¬ (x = 143 ∧ (y = 26 ∨ y = 27 ∨ y = 35 ∨ y = 36)) → ¬ (159 ≤ x ∧ x ≤ 165) → τ x y = s x y) ∧ gX11_let F s a b = (if 0 < σ 11 a then some (-2, τ) else if 0 < σ 6 (6 * a + b) ∧ 0 < σ 2 b - cntN (σ 10) b ∧ σ 9 b < σ 4 b then (gX11_record F τ).bind fun r5 => ((gX11_takes F (up (up r5 143 35 ((r5 143 35) + 1)) 165 a ((r5 143 35) + 1)) a b).bind fun r6 => (gX11_storeMarket F r6.2).bind fun r7 => some (r6.1, up r7 173 a 1)) else some (-2, τ)) := by
        intro s hs
        obtain ⟨τ, e, f1, f2, f3⟩ := hM.loadM hF hB hs
        refine ⟨τ, f1, f2, f3, ?_⟩
        have mok : MOK τ := f1.mok hBd hS (fun x y1 y2 => by rw [(f1.2.2.2 x y1 y2).2 (by omega)]; exact (hS.1 x y1 y2).2.1)
        have t4 : s 143 4 = σ 1 6 := by rw [hs 143 4 (by unfold supB; omega), g3]
        have t0 : s 143 0 = σ 1 5 := by rw [hs 143 0 (by unfold supB; omega), p3]
        have g9 : 0 ≤ a ∧ a < 9 := by omega
        have t162 : τ 162 (6 * a + b) = σ 6 (6 * a + b) := f1.2.2.1 _ (by omega) (by omega)
        obtain ⟨v1, v2, v3, v4⟩ := f1.2.1 b q2.1 (by omega)
        have v1' : τ 159 b = σ 2 b := v1
        have v3' : τ 161 b = σ 4 b := v3
        have v4' : τ 163 b = σ 9 b := v4
        have ec : cntN (τ 164) b = cntN (σ 10) b := cntN_congr b (fun x y1 y2 => (f1.2.2.2 x y1 y2).1)
        have c173 : τ 173 a = if 0 < σ 11 a then 1 else 0 := by rw [f3 173 a (by omega) (by omega), hs 173 a (by omega)]; exact (m5 a q1.1 q1.2).1
        unfold gX11_let
        rw [gX11_isGuest_eq s ha (by omega), Option.bind_some, tv_if0, gX11_isPost_eq s hb (by omega), Option.bind_some, tv_if1, t4, t0, if_pos q1, if_pos q2, e, Option.bind_some, ha, hb, w32_id (a := 6 * a + b) (by omega), heldBy_eq hF mok (by omega), Option.bind_some]
        simp only [gd_pos g9, gd_pos (show 0 ≤ 6 * a + b ∧ 6 * a + b < 54 by omega), gd_pos (show 0 ≤ b ∧ b < 6 by omega), up_self]
        rw [t162, v1', v3', v4', ec, w32_id (a := σ 6 (6 * a + b)) (by omega), w32_id (a := cntN (σ 10) b) (by omega), w32_id (a := σ 2 b) (by omega), w32_id (a := σ 9 b) (by omega), w32_id (a := σ 4 b) (by omega), c173]
        by_cases y1 : 0 < σ 11 a
        · rw [if_pos y1, if_pos y1, if_pos (by decide)]
        · rw [if_neg y1, if_neg y1, if_neg (by decide)]
          by_cases y2 : σ 6 (6 * a + b) = 0
          · rw [if_pos y2, if_neg (by omega)]
          · rw [if_neg y2]
            by_cases y3 : cntN (σ 10) b = σ 2 b
            · rw [if_pos y3, if_neg (by omega)]
            · rw [if_neg y3]
              by_cases y4 : σ 9 b = σ 4 b
              · rw [if_neg (fun z => z y4), if_neg (by omega)]
              · rw [if_pos y4, if_pos (by omega)]
      by_cases q3 : 0 < σ 11 a
      · obtain ⟨τ, f1, f2, f3, f4⟩ := mm σ (fun _ _ _ => rfl)
        rw [if_pos q3] at f4
        refine ⟨-2, σ, τ, by rw [if_pos q3], f4, ?_, ?_, ?_⟩
        · exact hM.frame (fun x y q => f3 x y (by unfold supM redM at q; omega) (by unfold supM redM at q; omega))
        · exact fun x y y1 y2 y3 => f3 x y (by unfold scr at y2; omega) (by unfold scr at y2; omega)
        · exact fun j y1 y2 => by rw [show τ 162 j = σ 6 j from f1.2.2.1 j y1 y2]; exact hB.worth j y1 y2
      · have z0 : σ 11 a = 0 := by omega
        by_cases q4 : 0 < σ 6 (6 * a + b) ∧ 0 < σ 2 b - cntN (σ 10) b ∧ σ 9 b < σ 4 b
        · obtain ⟨A1, A2, A3, A4, A5⟩ := hM.room (g := a) (by omega) z0
          have en := enter_eq hF (k := 7) (g := a) (p := b) (Or.inl rfl) hBd hS ⟨A1, A2⟩ (by omega) (Or.inr q2)
          have oc : outC σ 7 b = -4 := by
            unfold outC
            rw [if_pos (show 0 < σ (bd 7 + 1) b - cntN (σ (7 + 3)) b from q4.2.1)]
          have hS' := enterS_st (k := 7) (g := a) (p := b) (Or.inl rfl) hBd hS q1 A5 ⟨A4, A3⟩ (Or.inr q2) (fun _ => Or.inl oc) (fun _ _ => show cntN (σ 10) b < σ 2 b by omega)
          have eo : ∀ c, ¬ (7 ≤ c ∧ c ≤ 16) → enterS σ 7 a b c = σ c := fun c q => enterS_o (by omega)
          obtain ⟨τ, f1, f2, f3, f4⟩ := mm (enterS σ 7 a b) (fun x y q => by unfold supB at q; rw [eo x (by omega)])
          have fs : ∀ c, ¬ (7 ≤ c ∧ c ≤ 16) → c ≠ 143 → ¬ (159 ≤ c ∧ c ≤ 165) → τ c = σ c := fun c y1 y2 y3 => by funext y; rw [f3 c y (by omega) y3, eo c y1]
          obtain ⟨s3, r1, r2, r3, r4⟩ := record_eq hF (s := τ) (σ := σ) (A := σ 7 12) (by omega) (by rw [f3 143 54 (by omega) (by omega), eo 143 (by omega)]; exact m1.2.2) (fs 173 (by omega) (by omega) (by omega)) (fs 174 (by omega) (by omega) (by omega)) (fs 175 (by omega) (by omega) (by omega)) (fs 176 (by omega) (by omega) (by omega)) (by rw [f3 143 53 (by omega) (by omega), eo 143 (by omega)]; exact m4) (by rw [f3 143 4 (by omega) (by omega), eo 143 (by omega)]; exact g3)
          rw [if_neg q3, if_pos q4, r1, Option.bind_some] at f4
          have t1 : ∀ x y, up (up s3 143 35 (s3 143 35 + 1)) 165 a (s3 143 35 + 1) x y = if x = 165 ∧ y = a then s3 143 35 + 1 else if x = 143 ∧ y = 35 then s3 143 35 + 1 else s3 x y := fun x y => rfl
          generalize up (up s3 143 35 (s3 143 35 + 1)) 165 a (s3 143 35 + 1) = τ1 at t1 f4
          have s35 : s3 143 35 = σ 7 10 := by rw [r4 143 35 (by omega) (by omega)]; exact f2
          have tc : ∀ x y, ¬ (x = 165 ∧ y = a) → ¬ (x = 143 ∧ (y = 35 ∨ y = 54)) → x ≠ 177 → τ1 x y = τ x y := fun x y y1 y2 y3 => by rw [t1, if_neg y1, if_neg (by omega), r4 x y (by omega) (by omega)]
          have tcl : ∀ x, x ≠ 165 → x ≠ 143 → x ≠ 177 → τ1 x = τ x := fun x y1 y2 y3 => by funext y; exact tc x y (by omega) (by omega) y3
          have rel1 : RelB σ 7 τ1 a := by
            obtain ⟨h1, h2, h3, h4⟩ := f1
            refine ⟨?_, ?_, ?_, fun x y1 y2 => ?_⟩
            · rw [tc 143 26 (by omega) (by omega) (by omega), tc 143 27 (by omega) (by omega) (by omega)]; exact h1
            · rw [tcl 159 (by omega) (by omega) (by omega), tcl 160 (by omega) (by omega) (by omega), tcl 161 (by omega) (by omega) (by omega), tcl 163 (by omega) (by omega) (by omega)]; exact h2
            · rw [tcl 162 (by omega) (by omega) (by omega)]; exact h3
            · rw [tcl 164 (by omega) (by omega) (by omega)]
              refine ⟨(h4 x y1 y2).1, fun y3 => ?_⟩
              rw [tc 165 x (by omega) (by omega) (by omega)]
              exact (h4 x y1 y2).2 (by omega)
          have mok : MOK τ1 := rel1.mok hBd hS (fun x y1 y2 => by
            by_cases w : x = a
            · rw [t1, if_pos ⟨rfl, w⟩]; omega
            · rw [rel1.2.2.2 x y1 y2 |>.2 w]; exact (hS.1 x y1 y2).2.1)
          obtain ⟨τ', d1, d2, d3, d4⟩ := takes_eq hF mok (g := a) (p := b) (by omega) (by rw [rel1.1.1]; exact q2) (by rw [(rel1.2.2.2 a q1.1 (by omega)).1]; exact A5)
          obtain ⟨k1, k2, k3⟩ := took_rel (τ' := τ') (Or.inl rfl) hBd hS rel1 (by rw [t1, if_pos ⟨rfl, rfl⟩, s35]) (by rw [t1, if_neg (by omega), if_pos ⟨rfl, rfl⟩, s35]) (by omega) A5 q2 d2
          have t3 : ∀ x y, ¬ (x = 143 ∧ (y = 35 ∨ y = 36)) → ¬ (163 ≤ x ∧ x ≤ 165) → τ' x y = s3 x y := fun x y y1 y2 => by rw [k3 x y (by unfold supC; omega), t1, if_neg (by omega), if_neg (by omega)]
          obtain ⟨s5, u1, u2, u3⟩ := tail_push hF (τ' := τ') (p := b) hB hM q1 z0 (Or.inr q2) (fun _ => Or.inl oc) hS' (by rw [t3 143 54 (by omega) (by omega), r2]) (fun j y1 y2 => by rw [t3 177 _ (by omega) (by omega), r3 j y1 y2]) (fun x y y1 y2 y3 y4 => by rw [t3 x y (by omega) (by omega), r4 x y y1 y2, f3 x y y3 y4]) k1 k2.1
          have ep : payM τ1 a b = paysC σ 7 a b := by
            unfold paysC
            rw [if_neg (by omega)]
            exact rel_pay rel1 (by omega) (by omega)
          refine ⟨paysC σ 7 a b, enterS σ 7 a b, up s5 173 a 1, by rw [if_neg q3, if_pos q4, en, Option.bind_some], ?_, u2, u3⟩
          rw [f4, d1, Option.bind_some, u1, Option.bind_some, ep]
        · obtain ⟨τ, f1, f2, f3, f4⟩ := mm σ (fun _ _ _ => rfl)
          rw [if_neg q3, if_neg q4] at f4
          refine ⟨-2, σ, τ, by rw [if_neg q3, if_neg q4], f4, ?_, ?_, ?_⟩
          · exact hM.frame (fun x y q => f3 x y (by unfold supM redM at q; omega) (by unfold supM redM at q; omega))
          · exact fun x y y1 y2 y3 => f3 x y (by unfold scr at y2; omega) (by unfold scr at y2; omega)
          · exact fun j y1 y2 => by rw [show τ 162 j = σ 6 j from f1.2.2.1 j y1 y2]; exact hB.worth j y1 y2
    · refine ⟨-1, σ, σ, ?_, ?_, hM, fun _ _ _ _ _ => rfl, hE⟩
      · rw [if_pos q1, if_neg q2]
      · unfold gX11_let
        rw [gX11_isGuest_eq σ ha (by omega), Option.bind_some, tv_if0, gX11_isPost_eq σ hb (by omega), Option.bind_some, tv_if1, g3, p3, if_pos q1, if_neg q2]
  · refine ⟨-1, σ, σ, ?_, ?_, hM, fun _ _ _ _ _ => rfl, hE⟩
    · rw [if_neg q1]
    · unfold gX11_let
      rw [gX11_isGuest_eq σ ha (by omega), Option.bind_some, tv_if0, g3, if_neg q1]
