-- PURE LAYER: come and let, the market afterwards
theorem enter_push {n : Nat} {σ σ2 : St} {g p : Int} (hB : InvB n σ) (hM : InvM σ) (hg : 0 ≤ g ∧ g < σ 1 6) (h0 : σ 11 g = 0) (hp : p = -4 ∨ 0 ≤ p ∧ p < σ 1 5)
    (ho : p ≠ -4 → outC σ 7 p = -4 ∨ 0 ≤ outC σ 7 p ∧ outC σ 7 p < 9 ∧ outC σ 7 p ≠ g ∧ σ 10 (outC σ 7 p) = p) (hS' : StOK (enterS σ 7 g p) 7)
    (k1 : ∀ a, 7 ≤ a → a ≤ 16 → σ2 a = enterS σ 7 g p a) (kb : ∀ a b, redM a b → σ2 a b = σ a b) (k54 : σ2 143 54 = σ 7 12 + 1) (k53 : σ2 143 53 = enterS σ 7 g p 7 10)
    (kg : ∀ x, 0 ≤ x → x < σ 1 6 → σ2 173 x = (if x = g then 1 else σ 173 x) ∧ σ2 174 x = enterS σ 7 g p 10 x ∧ σ2 175 x = enterS σ 7 g p 11 x)
    (kq : ∀ q, 0 ≤ q → q < 6 → σ2 176 q = enterS σ 7 g p 9 q)
    (kr : ∀ j, 0 ≤ j → j ≤ 34 → σ2 177 (40 * σ 7 12 + j) = recF σ j) (ko : ∀ j, 0 ≤ j → j < 40 * σ 7 12 → σ2 177 j = σ 177 j) : InvM σ2 := by
  obtain ⟨⟨p1, p2, p3⟩, ⟨g1, g2, g3⟩, -⟩ := id hB
  obtain ⟨c1, c2, c3, c4⟩ := hM.cur
  obtain ⟨m1, m4, m5, m6, -⟩ := id hM
  have b7 : bd 7 = 1 := by decide
  have es : enterS σ 7 g p 11 = upf (σ 11) g (σ 7 10 + 1) := enterS_seq
  have e10 : enterS σ 7 g p 7 10 = σ 7 10 + 1 := enterS_10
  have epd : ∀ q, 0 ≤ q → enterS σ 7 g p 9 q = σ 9 q + (if q = p then payC σ 7 g p else 0) := fun q hq => enterS_paid (k := 7) hq
  obtain ⟨⟨l1, l2, l3, l4, l5⟩, l6⟩ := enterS_log (σ := σ) (k := 7) (g := g) (p := p)
  have cz := c1 g hg.1 (by omega)
  have gp : σ 10 g = -4 := by
    by_cases z : σ 10 g = -4
    · exact z
    · have := cz.2.2.1 z; omega
  have cr := (hM.cur.cnt_rng ⟨g1, g2⟩)
  have cu := comeN_upf (seq := σ 11) (g := g) (v := σ 7 10 + 1) (by omega) h0 (by omega)
  have hcnt : enterS σ 7 g p 7 10 = comeN (enterS σ 7 g p 11) := by rw [e10, es, cu.1, c2]
  have epr : ∀ x, 0 ≤ x → x < 9 → enterS σ 7 g p 10 x = if p = -4 then σ 10 x else if x = g then p else if x = outC σ 7 p ∧ outC σ 7 p ≠ -4 then -4 else σ 10 x := by
    intro x q1 q2
    by_cases z : p = -4
    · rw [if_pos z, z]
      have : enterS σ 7 g (-4) (7 + 3) = σ (7 + 3) := enterS_no3
      exact congrFun this x
    · rw [if_neg z]
      exact enterS_pr (k := 7) z
  have s1 := hS'.1
  have s2 := hS'.2
  rw [show bd 7 = 1 from b7, show enterS σ 7 g p 1 = σ 1 from enterS_o (by omega)] at s1 s2
  rw [show enterS σ 7 g p (1 + 1) = σ 2 from enterS_o (by omega), show enterS σ 7 g p (1 + 3) = σ 4 from enterS_o (by omega)] at s2
  have hv : LVal (σ 1 5) (σ 1 6) (σ 2) (σ 4) (enterS σ 7 g p 10) (enterS σ 7 g p 11) (enterS σ 7 g p 9) (enterS σ 7 g p 7 10) (σ 7 12 + 1) := by
    refine ⟨fun x q1 q2 => ⟨(s1 x q1 q2).1, (s1 x q1 q2).2.1, fun q3 => ?_, fun q3 => ⟨(s1 x q1 q2).2.2 q3, ?_⟩⟩, hcnt, fun q q1 q2 => ⟨?_, fun q3 => ?_, fun q3 => ?_⟩, ?_⟩
    · rw [es]
      unfold upf
      by_cases y : x = g
      · rw [if_pos y]; omega
      · rw [if_neg y]
        refine (c1 x q1 q2).2.2.1 (fun w => q3 ?_)
        rw [epr x q1 q2, if_neg y]
        repeat' split
        all_goals first | exact w | rfl
    · rw [es, upf_ne (by omega)]; exact ((c1 x q1 q2).2.2.2 q3).2
    · by_cases y : q < σ 1 5
      · exact ((s2 q q1 q2).2 y).2.1
      · rw [epd q q1, if_neg (by omega), (c3 q q1 q2).2.2 (by omega)]; omega
    · have := (s2 q q1 q2).2 q3
      exact ⟨this.2.2, this.1⟩
    · rw [epd q q1, if_neg (by omega), (c3 q q1 q2).2.2 q3]; rfl
    · have lt := sumN_lt (f := fun x => if 0 < σ 11 x then (if σ 10 x = -4 then (2 : Int) else 1) else 0) (f' := fun x => if 0 < enterS σ 7 g p 11 x then (if enterS σ 7 g p 10 x = -4 then (2 : Int) else 1) else 0) (g := g) 9 0 hg.1 (by omega) (fun x q1 q2 => by
        show (if 0 < σ 11 x then (if σ 10 x = -4 then (2 : Int) else 1) else 0) ≤ (if 0 < enterS σ 7 g p 11 x then (if enterS σ 7 g p 10 x = -4 then (2 : Int) else 1) else 0)
        rw [es]
        unfold upf
        by_cases y : x = g
        · rw [if_pos y, if_pos (show 0 < σ 7 10 + 1 by omega), y, h0, if_neg (show ¬ (0 : Int) < 0 by omega)]
          split <;> omega
        · rw [if_neg y]
          by_cases w : 0 < σ 11 x
          · rw [if_pos w, if_pos w, epr x q1 (by omega), if_neg y]
            repeat' split
            all_goals omega
          · rw [if_neg w, if_neg w]; omega) (by
        show (if 0 < σ 11 g then (if σ 10 g = -4 then (2 : Int) else 1) else 0) + 1 ≤ (if 0 < enterS σ 7 g p 11 g then (if enterS σ 7 g p 10 g = -4 then (2 : Int) else 1) else 0)
        rw [es, upf_self, if_pos (show 0 < σ 7 10 + 1 by omega), h0, if_neg (show ¬ (0 : Int) < 0 by omega)]
        split <;> omega)
      unfold wgtN at c4 ⊢
      omega
  have hs : LStep (σ 10) (σ 11) (σ 9) (σ 7 10) (enterS σ 7 g p 10) (enterS σ 7 g p 11) (enterS σ 7 g p 9) (enterS σ 7 g p 7 10) g p (paysC σ 7 g p) (if p = -4 then -4 else outC σ 7 p) 0 := by
    refine ⟨by omega, Or.inr ⟨rfl, gp, h0, e10, fun x q1 q2 => by rw [es, e10]; rfl, ?_⟩⟩
    by_cases z : p = -4
    · left
      refine ⟨z, fun x q1 q2 => by rw [epr x q1 q2, if_pos z], fun q q1 q2 => by rw [epd q q1, if_neg (by omega), Int.add_zero]⟩
    · right
      have := ho z
      rw [if_neg z]
      refine ⟨by omega, by omega, this, fun x q1 q2 => ?_, fun q q1 q2 => ?_⟩
      · rw [epr x q1 q2, if_neg z]
        by_cases y : x = g
        · rw [if_pos y, if_pos y]
        · rw [if_neg y, if_neg y]
          by_cases w : x = outC σ 7 p
          · rw [if_pos w, if_pos ⟨w, by omega⟩]
          · rw [if_neg w, if_neg (fun v => w v.1)]
      · rw [epd q q1]
        unfold paysC
        rw [if_neg z]
        split <;> omega
  refine hM.push ⟨g1, g2⟩ (g := g) (p := p) (pays := paysC σ 7 g p) (out := if p = -4 then -4 else outC σ 7 p) (goes := 0) hg.2 (kb 1 5 (by unfold redM; omega)) (kb 1 6 (by unfold redM; omega)) (by funext b; exact kb 2 b (by unfold redM; omega)) (by funext b; exact kb 4 b (by unfold redM; omega)) ?_ k54 ?_ (fun x q1 q2 => ?_) (fun q q1 q2 => ?_) kr ko ?_ ?_ ?_ ?_
  · rw [k1 7 (by omega) (by omega)]; exact enterS_12
  · rw [k53, k1 7 (by omega) (by omega)]
  · obtain ⟨a1, a2, a3⟩ := kg x q1 q2
    rw [k1 10 (by omega) (by omega), k1 11 (by omega) (by omega)]
    refine ⟨?_, a2, a3⟩
    rw [a1, es]
    unfold upf
    by_cases y : x = g
    · rw [if_pos y, if_pos y, if_pos (by omega)]
    · rw [if_neg y, if_neg y]; exact (m5 x q1 q2).1
  · rw [k1 8 (by omega) (by omega), k1 9 (by omega) (by omega), k1 10 (by omega) (by omega)]
    exact ⟨kq q q1 q2, (s2 q q1 q2).1⟩
  · rw [k1 12 (by omega) (by omega), k1 13 (by omega) (by omega), k1 14 (by omega) (by omega), k1 15 (by omega) (by omega), k1 16 (by omega) (by omega)]
    exact ⟨l1, l2, l3, l4, l5⟩
  · intro c q1 q2 i q3 q4
    rw [k1 c (by omega) (by omega)]
    exact l6 c i (by omega) (by omega) (by omega)
  · rw [k1 7 (by omega) (by omega), k1 9 (by omega) (by omega), k1 10 (by omega) (by omega), k1 11 (by omega) (by omega)]; exact hv
  · rw [k1 7 (by omega) (by omega), k1 9 (by omega) (by omega), k1 10 (by omega) (by omega), k1 11 (by omega) (by omega)]; exact hs
