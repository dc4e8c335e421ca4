-- PURE LAYER: come
def OnlyM (σ σ' : St) : Prop := ∀ a b, ¬ supM a b → ¬ scr a b → σ' a b = σ a b
def OnlyME (σ σ' : St) : Prop := ∀ a b, ¬ supM a b → ¬ scr a b → a ≠ 162 → σ' a b = σ a b
theorem tail_push {F n : Nat} (hF : 100 ≤ F) {σ τ' : St} {g p : Int} (hB : InvB n σ) (hM : InvM σ) (hg : 0 ≤ g ∧ g < σ 1 6) (h0 : σ 11 g = 0) (hp : p = -4 ∨ 0 ≤ p ∧ p < σ 1 5)
    (ho : p ≠ -4 → outC σ 7 p = -4 ∨ 0 ≤ outC σ 7 p ∧ outC σ 7 p < 9 ∧ outC σ 7 p ≠ g ∧ σ 10 (outC σ 7 p) = p) (hS' : StOK (enterS σ 7 g p) 7)
    (t54 : τ' 143 54 = σ 7 12 + 1) (tr : ∀ j, 0 ≤ j → j ≤ 34 → τ' 177 (40 * σ 7 12 + j) = recF σ j)
    (to : ∀ a b, ¬ (a = 143 ∧ b = 54) → ¬ (a = 177 ∧ 40 * σ 7 12 ≤ b) → ¬ (a = 143 ∧ (b = 26 ∨ b = 27 ∨ b = 35 ∨ b = 36)) → ¬ (159 ≤ a ∧ a ≤ 165) → τ' a b = enterS σ 7 g p a b)
    (hrel : RelB (enterS σ 7 g p) 7 τ' (-1)) (h35 : τ' 143 35 = enterS σ 7 g p 7 10) : ∃ s5, gX11_storeMarket F τ' = some s5 ∧ InvM (up s5 173 g 1) ∧ OnlyME σ (up s5 173 g 1) ∧ Ew (up s5 173 g 1) := by
  obtain ⟨⟨p1, p2, p3⟩, ⟨g1, g2, g3⟩, -⟩ := id hB
  obtain ⟨c1, c2, c3, c4⟩ := hM.cur
  obtain ⟨m1, m4, m5, m6, -⟩ := id hM
  have eo : ∀ a, ¬ (7 ≤ a ∧ a ≤ 16) → enterS σ 7 g p a = σ a := fun a q => enterS_o (by omega)
  have t0 : τ' 143 0 = σ 1 5 := by rw [to 143 0 (by omega) (by omega) (by omega) (by omega), eo 143 (by omega), p3]
  have t4 : τ' 143 4 = σ 1 6 := by rw [to 143 4 (by omega) (by omega) (by omega) (by omega), eo 143 (by omega), g3]
  obtain ⟨s5, d, f⟩ := storeMarket_2 hF (σ 1 6).toNat F 0 τ' (by omega) (by omega) (by omega) (by omega) (by omega)
  rw [t0, t4] at f
  have fo : ∀ a b, ¬ (a = 143 ∧ b = 53) → a ≠ 173 → a ≠ 174 → a ≠ 175 → a ≠ 176 → up s5 173 g 1 a b = τ' a b := fun a b q1 q2 q3 q4 q5 => by rw [up_at, if_neg (by omega), f, if_neg (by omega), if_neg (by omega), if_neg (by omega), if_neg (by omega)]
  refine ⟨s5, d, enter_push (p := p) hB hM hg h0 hp ho hS' (fun a q1 q2 => ?_) (fun a b q => ?_) ?_ ?_ (fun x q1 q2 => ⟨?_, ?_, ?_⟩) (fun q q1 q2 => ?_) (fun j q1 q2 => ?_) (fun j q1 q2 => ?_), fun a b q1 q2 q162 => ?_, fun j q1 q2 => ?_⟩
  · funext b
    rw [fo a b (by omega) (by omega) (by omega) (by omega) (by omega), to a b (by omega) (by omega) (by omega) (by omega)]
  · unfold redM at q
    rw [fo a b (by omega) (by omega) (by omega) (by omega) (by omega), to a b (by omega) (by omega) (by omega) (by omega), eo a (by omega)]
  · rw [fo 143 54 (by omega) (by omega) (by omega) (by omega) (by omega), t54]
  · rw [up_at, if_neg (by omega), f, if_pos ⟨rfl, rfl⟩, h35]
  · rw [up_at]
    by_cases y : x = g
    · rw [if_pos ⟨rfl, y⟩, if_pos y]
    · rw [if_neg (by omega), if_neg y, f, if_neg (by omega), if_neg (by omega), if_neg (by omega), if_neg (by omega), to 173 x (by omega) (by omega) (by omega) (by omega), eo 173 (by omega)]
  · rw [up_at, if_neg (by omega), f, if_neg (by omega), if_neg (by omega), if_pos (by omega)]
    exact (hrel.2.2.2 x q1 (by omega)).1
  · rw [up_at, if_neg (by omega), f, if_neg (by omega), if_neg (by omega), if_neg (by omega), if_pos (by omega)]
    exact (hrel.2.2.2 x q1 (by omega)).2 (by omega)
  · rw [up_at, if_neg (by omega), f, if_neg (by omega)]
    by_cases y : q < σ 1 5
    · rw [if_pos ⟨rfl, q1, y⟩]; exact (hrel.2.1 q q1 q2).2.2.2
    · have e9 : enterS σ 7 g p 9 q = σ 9 q + (if q = p then payC σ 7 g p else 0) := enterS_paid (k := 7) q1
      rw [if_neg (by omega), if_neg (by omega), if_neg (by omega), to 176 q (by omega) (by omega) (by omega) (by omega), eo 176 (by omega), (m6 q q1 q2).1, e9, if_neg (by omega), Int.add_zero]
  · rw [fo 177 _ (by omega) (by omega) (by omega) (by omega) (by omega)]; exact tr j q1 q2
  · rw [fo 177 _ (by omega) (by omega) (by omega) (by omega) (by omega), to 177 j (by omega) (by omega) (by omega) (by omega), eo 177 (by omega)]
  · by_cases z : 7 ≤ a ∧ a ≤ 16
    · have z7 : a = 7 := by unfold supM at q1; omega
      subst z7
      unfold supM at q1
      unfold scr at q2
      rw [fo 7 b (by omega) (by omega) (by omega) (by omega) (by omega), to 7 b (by omega) (by omega) (by omega) (by omega)]
      by_cases y : p = -4
      · rw [y, enterS_no, if_neg (by omega), if_neg (by omega), if_neg (by omega), if_neg (by omega), if_neg (by omega), if_neg (by omega), if_neg (by omega), if_neg (by omega)]
      · rw [enterS_at y, if_neg (by omega), if_neg (by omega), if_neg (by omega), if_neg (by omega), if_neg (by omega), if_neg (by omega), if_neg (by omega), if_neg (by omega), if_neg (by omega), if_neg (by omega), if_neg (by omega), dropS_o (by omega) (by omega) (by omega)]
    · unfold supM at q1
      unfold scr at q2
      rw [fo a b (by omega) (by omega) (by omega) (by omega) (by omega), to a b (by omega) (by omega) (by omega) (by omega), eo a (by omega)]
  · have h162 : τ' 162 j = enterS σ 7 g p 6 j := hrel.2.2.1 j q1 q2
    rw [fo 162 j (by omega) (by omega) (by omega) (by omega) (by omega), h162, eo 6 (by omega)]
    exact hB.worth j q1 q2
theorem hasCome_eq {σ : St} {k g : Int} (hg : 0 ≤ g ∧ g < 9) (hs : 0 ≤ σ (k + 4) g ∧ σ (k + 4) g ≤ 9) : gX7_hasCome σ k g = some (tv (0 < σ (k + 4) g)) := by
  unfold gX7_hasCome
  rw [w32_id (a := g) (by omega), gd_pos (by omega), w32_id (a := σ (k + 4) g) (by omega)]
  by_cases q : σ (k + 4) g ≤ 0
  · rw [if_pos q, tv_neg (by omega)]
  · rw [if_neg q, tv_pos (by omega)]
/-- one who has not come leaves acts to be done -/
theorem InvM.room {σ : St} {g : Int} (h : InvM σ) (hg : 0 ≤ g ∧ g < 9) (h0 : σ 11 g = 0) : 0 ≤ σ 7 12 ∧ σ 7 12 < 18 ∧ σ 7 10 < 9 ∧ 0 ≤ σ 7 10 ∧ σ 10 g = -4 := by
  obtain ⟨c1, c2, c3, c4⟩ := h.cur
  have cu := comeN_upf (seq := σ 11) (g := g) (v := 1) hg h0 (by omega)
  have lt := sumN_lt (f := fun x => if 0 < σ 11 x then (if σ 10 x = -4 then (2 : Int) else 1) else 0) (f' := fun _ => 2) (g := g) 9 0 hg.1 (by omega) (fun x _ _ => by
    show (if 0 < σ 11 x then (if σ 10 x = -4 then (2 : Int) else 1) else 0) ≤ 2
    repeat' split
    all_goals omega) (by
    show (if 0 < σ 11 g then (if σ 10 g = -4 then (2 : Int) else 1) else 0) + 1 ≤ 2
    rw [h0, if_neg (by omega)]; omega)
  have e18 : sumN (fun _ => 2) 9 0 = 18 := by decide
  have cz := c1 g hg.1 hg.2
  have cn : 0 ≤ comeN (σ 11) := by
    have := (sumN_rng (f := fun x => if 0 < σ 11 x then (1 : Int) else 0) (lo := 0) (hi := 1) 9 0 (fun i _ _ => by by_cases q : 0 < σ 11 i <;> simp [q])).1
    unfold comeN
    omega
  refine ⟨h.1.1, ?_, by omega, by omega, ?_⟩
  · unfold wgtN at c4
    omega
  · by_cases z : σ 10 g = -4
    · exact z
    · have := cz.2.2.1 z; omega
theorem op_come {F n : Nat} (hF : 100 ≤ F) {σ : St} {a b : Int} (hB : InvB n σ) (hR : InvR σ) (hM : InvM σ) (hE : Ew σ) (ha : w32 a = a) (hb : w32 b = b) :
    ∃ r σ1 σ2, gX10_come F σ a b = some (r, σ1) ∧ gX11_come F σ1 a b = some (r, σ2) ∧ InvM σ2 ∧ OnlyME σ σ2 ∧ Ew σ2 := by
  obtain ⟨⟨p1, p2, p3⟩, ⟨g1, g2, g3⟩, -⟩ := id hB
  have hR1 := hR.1
  obtain ⟨m1, m4, m5, m6, -⟩ := id hM
  have hS := hM.st hB
  have b7 : bd 7 = 1 := by decide
  unfold gX10_come
  rw [gX10_isGuest_eq σ ha (w32_id (by omega)), Option.bind_some, tv_if0, gX10_isRule_eq σ hb (w32_id (by omega)), Option.bind_some, tv_if1]
  have mm : ∀ s : St, s 143 4 = σ 1 6 → s 143 16 = σ 0 12 → s 173 = σ 173 → gX11_come F s a b = (if 0 ≤ a ∧ a < σ 1 6 then (if 0 ≤ b ∧ b < σ 0 12 then (if ¬ 0 < σ 11 a then (gX11_record F s).bind fun r3 => (gX11_loadMarket F r3).bind fun r4 => (gX11_comes F r4 a b).bind fun r5 => (gX11_storeMarket F r5.2).bind fun r6 => some (r5.1, up r6 173 a 1) else some ((-2), s)) else some ((-1), s)) else some ((-1), s)) := by
    intro s h1 h2 h3
    unfold gX11_come
    rw [gX11_isGuest_eq s ha (by omega), Option.bind_some, tv_if0, gX11_isRule_eq s hb (by omega), Option.bind_some, tv_if1, h1, h2, h3, ha]
    by_cases q1 : 0 ≤ a ∧ a < σ 1 6
    · have g9 : 0 ≤ a ∧ a < 9 := by omega
      simp only [gd_pos g9]
      rw [if_pos q1, if_pos q1, (m5 a q1.1 q1.2).1]
      by_cases q3 : 0 < σ 11 a
      · rw [if_pos q3, if_neg (c := w32 1 ≠ 1) (fun z => z (by decide)), if_neg (c := ¬ 0 < σ 11 a) (fun z => z q3)]
      · rw [if_neg q3, if_pos (c := w32 0 ≠ 1) (by decide), if_pos (c := ¬ 0 < σ 11 a) q3]
    · rw [if_neg q1, if_neg q1]
  by_cases q1 : 0 ≤ a ∧ a < σ 1 6
  · by_cases q2 : 0 ≤ b ∧ b < σ 0 12
    · rw [if_pos q1, if_pos q2, hasCome_eq (σ := σ) (k := 7) (g := a) (by omega) (hS.1 a q1.1 (by omega)).2.1, Option.bind_some, tv_if0]
      by_cases q3 : 0 < σ 11 a
      · refine ⟨-2, σ, σ, ?_, ?_, hM, fun _ _ _ _ _ => rfl, hE⟩
        · rw [if_pos (show 0 < σ (7 + 4) a from q3)]
        · rw [mm σ g3 hR1.2.2 rfl, if_pos q1, if_pos q2, if_neg (fun z => z q3)]
      · have s11 := (hS.1 a q1.1 (by omega)).2.1
        have z0 : σ 11 a = 0 := by
          have : 0 ≤ σ 11 a := s11.1
          omega
        obtain ⟨A1, A2, A3, A4, A5⟩ := hM.room (g := a) (by omega) z0
        have hr6 : 0 ≤ b ∧ b < 6 := by omega
        have hru := hR.2.2 b q2.1 q2.2
        have stp : ∀ s, (∀ x y, supB x y ∨ (173 ≤ x ∧ x ≤ 176) ∨ (x = 143 ∧ y = 53) → s x y = σ x y) → (∀ x y, supR x y → s x y = σ x y) → ∃ τ p τ', gX11_loadMarket F s = some τ ∧ gX7_comeBy F σ 7 a (63 + 12 * b) = some (p, enterS σ 7 a p) ∧ gX11_comes F τ a b = some (p, τ') ∧ StOK (enterS σ 7 a p) 7 ∧ Lk (enterS σ 7 a p) 7 τ' b ∧ (∀ x y, ¬ (x = 143 ∧ (y = 26 ∨ y = 27 ∨ y = 35 ∨ y = 36)) → ¬ (159 ≤ x ∧ x ≤ 165) → τ' x y = s x y) ∧ (p = -4 ∨ 0 ≤ p ∧ p < σ (bd 7) 5) ∧ (p ≠ -4 → (outC σ 7 p = -4 ∨ 0 ≤ outC σ 7 p ∧ outC σ 7 p < 9 ∧ outC σ 7 p ≠ a ∧ σ (7 + 3) (outC σ 7 p) = p)) := by
          intro s hs1 hs2
          obtain ⟨τ, e, f1, f2, f3⟩ := hM.loadM hF hB hs1
          have rc : ∀ x y, supR x y → τ x y = σ x y := fun x y q => by rw [f3 x y (by unfold supR at q; omega) (by unfold supR at q; omega)]; exact hs2 x y q
          obtain ⟨p, τ', c1, c2, c3, c4, c5, c6, c7, c8, c9⟩ := step_eq hF (k := 7) (g := a) (Or.inl rfl) hr6 hB.bd1 hS ⟨f1, f2, hru.frame hr6 rc, fun c y1 y2 => by funext y; exact rc c y (by unfold supR; omega)⟩ ⟨A1, A2⟩ ⟨A4, A3⟩ (by rw [b7]; exact q1) A5
          exact ⟨τ, p, τ', e, c1, c2, c4, c5, fun x y y1 y2 => by rw [c6 x y (by unfold supC; omega), f3 x y y1 y2], c7, c8⟩
        obtain ⟨-, p, -, -, e1, -, hS', -, -, hp, ho⟩ := stp σ (fun _ _ _ => rfl) (fun _ _ _ => rfl)
        have eo : ∀ c, ¬ (7 ≤ c ∧ c ≤ 16) → enterS σ 7 a p c = σ c := fun c q => enterS_o (by omega)
        obtain ⟨s3, r1, r2, r3, r4⟩ := record_eq hF (s := enterS σ 7 a p) (σ := σ) (A := σ 7 12) (by omega) (by rw [eo 143 (by omega)]; exact m1.2.2) (eo 173 (by omega)) (eo 174 (by omega)) (eo 175 (by omega)) (eo 176 (by omega)) (by rw [eo 143 (by omega)]; exact m4) (by rw [eo 143 (by omega)]; exact g3)
        obtain ⟨τ, p', τ', d1, d2, d3, d4, d5, d6, d7, d8⟩ := stp s3 (fun x y q => by unfold supB at q; rw [r4 x y (by omega) (by omega), eo x (by omega)]) (fun x y q => by unfold supR at q; rw [r4 x y (by omega) (by omega), eo x (by omega)])
        rw [e1] at d2
        have epp : p = p' := (Prod.mk.inj (Option.some.inj d2)).1
        subst epp
        obtain ⟨s5, t1, t2, t3⟩ := tail_push hF (τ' := τ') (p := p) hB hM q1 z0 hp ho hS' (by rw [d6 143 54 (by omega) (by omega), r2]) (fun j y1 y2 => by rw [d6 177 _ (by omega) (by omega), r3 j y1 y2]) (fun x y y1 y2 y3 y4 => by rw [d6 x y y3 y4, r4 x y y1 y2]) d5.1 d5.2.1
        refine ⟨p, enterS σ 7 a p, up s5 173 a 1, ?_, ?_, t2, t3⟩
        · rw [if_neg (show ¬ 0 < σ (7 + 4) a from q3), hb, gd_pos (by omega), e1, Option.bind_some]
        · rw [mm _ (by rw [eo 143 (by omega)]; exact g3) (by rw [eo 143 (by omega)]; exact hR1.2.2) (eo 173 (by omega)), if_pos q1, if_pos q2, if_pos q3, r1, Option.bind_some, d1, Option.bind_some, d3, Option.bind_some, t1, Option.bind_some]
    · refine ⟨-1, σ, σ, ?_, ?_, hM, fun _ _ _ _ _ => rfl, hE⟩
      · rw [if_pos q1, if_neg q2]
      · rw [mm σ g3 hR1.2.2 rfl, if_pos q1, if_neg q2]
  · refine ⟨-1, σ, σ, ?_, ?_, hM, fun _ _ _ _ _ => rfl, hE⟩
    · rw [if_neg q1]
    · rw [mm σ g3 hR1.2.2 rfl, if_neg q1]
