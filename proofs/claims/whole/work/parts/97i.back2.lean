-- PURE LAYER: a coming taken back; all orders, the class
def AgL (r n : Int) (σ σ' : St) : Prop := AgR r σ σ' ∧ ∀ c i, 22 ≤ c → c ≤ 26 → 0 ≤ i → i < n → σ' c i = σ c i
theorem enterS_tk {σ : St} {k g p q : Int} (hp : p ≠ -4) : enterS σ k g p (k + 1) q = σ (k + 1) q + (if q = p ∧ outC σ k p = -4 then 1 else 0) := by
  rw [enterS_at hp, if_neg (by omega), if_neg (by omega), if_neg (by omega), if_neg (by omega), if_neg (by omega), if_neg (by omega), if_neg (by omega), if_neg (by omega), if_neg (by omega)]
  by_cases y : q = p
  · rw [if_pos ⟨rfl, y⟩, y]
    unfold dropS
    by_cases w : outC σ k p = -4
    · rw [if_pos w, if_pos ⟨rfl, w⟩]
    · rw [if_neg w, if_neg (fun z => w z.2), up_at, if_neg (by omega), up_at, if_pos ⟨rfl, rfl⟩]; omega
  · rw [if_neg (fun z => y z.2), if_neg (by omega), if_neg (fun z => y z.1), dropS_o (by omega) (by omega) (by omega), Int.add_zero]
theorem back_enter {σ σ2 : St} {r g p n : Int} (hr : 0 ≤ r ∧ r < 6) (hg : 0 ≤ g ∧ g < 9) (hA : σ 17 12 = n) (hn : 0 ≤ n ∧ n ≤ 17) (hp : p = -4 ∨ 0 ≤ p ∧ p < 6) (ho : p ≠ -4 → outC σ 17 p = -4 ∨ 0 ≤ outC σ 17 p ∧ outC σ 17 p < 9 ∧ outC σ 17 p ≠ g ∧ σ 20 (outC σ 17 p) = p) (h20 : σ 20 g = -4) (h21 : σ 21 g = 0) (h : AgL r (n + 1) (enterS σ 17 g p) σ2) :
    ∃ σ3, gX7_takeBack σ2 17 = some σ3 ∧ AgL r n σ σ3 ∧ ∀ a, ¬ (17 ≤ a ∧ a ≤ 26) → σ3 a = σ2 a := by
  obtain ⟨⟨⟨b1', b2⟩, ⟨c1, c2, c3⟩, c4, c5⟩, lg⟩ := h
  have eo : ∀ c, ¬ (17 ≤ c ∧ c ≤ 26) → enterS σ 17 g p c = σ c := fun c q => enterS_o (by omega)
  rw [enterS_12, hA] at c3
  rw [enterS_10] at c1
  rw [enterS_11] at c2
  obtain ⟨⟨l1, l2, l3, l4, l5⟩, l6⟩ := enterS_log (σ := σ) (k := 17) (g := g) (p := p)
  rw [hA] at l1 l2 l3 l4 l5 l6
  have e12 : σ2 17 12 - 1 = n := by omega
  have f5 : σ2 (17 + 5) n = g := by rw [lg (17 + 5) n (by omega) (by omega) (by omega) (by omega)]; exact l1
  have f6 : σ2 (17 + 6) n = p := by rw [lg (17 + 6) n (by omega) (by omega) (by omega) (by omega)]; exact l2
  have f7 : σ2 (17 + 7) n = paysC σ 17 g p := by rw [lg (17 + 7) n (by omega) (by omega) (by omega) (by omega)]; exact l3
  have f8 : σ2 (17 + 8) n = (if p = -4 then -4 else outC σ 17 p) := by rw [lg (17 + 8) n (by omega) (by omega) (by omega) (by omega)]; exact l4
  have f9 : σ2 (17 + 9) n = 0 := by rw [lg (17 + 9) n (by omega) (by omega) (by omega) (by omega)]; exact l5
  have lo : ∀ c i, 22 ≤ c → c ≤ 26 → 0 ≤ i → i < n → σ2 c i = σ c i := fun c i q1 q2 q3 q4 => by rw [lg c i q1 q2 q3 (by omega)]; exact l6 c i (by omega) (by omega) (by omega)
  have es : enterS σ 17 g p 21 = upf (σ 21) g (σ 17 10 + 1) := enterS_seq
  have bb : ∀ a, 1 ≤ a → a ≤ 6 → σ2 a = σ a := fun a q1 q2 => by rw [b1' a q1 q2, eo a (by omega)]
  have br : ∀ c, 63 + 12 * r ≤ c → c ≤ 68 + 12 * r → σ2 c = σ c := fun c q1 q2 => by rw [b2 c q1 q2, eo c (by omega)]
  have c21 : ∀ x, 0 ≤ x → x < 9 → σ2 21 x = if x = g then σ 17 10 + 1 else σ 21 x := fun x q1 q2 => by rw [(c5 x q1 q2).2, es]; rfl
  by_cases z : p = -4
  · have tb := takeBack_no (σ := σ2) (k := 17) (by omega) (by rw [e12, f5]; exact hg) (by rw [e12, f6]; exact z) (by rw [e12, f9])
    rw [e12, f5] at tb
    have t : ∀ a b, up (up (bk0 σ2 17) 17 10 (σ2 17 10 - 1)) (17 + 4) g 0 a b = if a = 21 ∧ b = g then 0 else if a = 17 ∧ b = 10 then σ2 17 10 - 1 else if a = 17 ∧ b = 12 then σ2 17 12 - 1 else σ2 a b := fun a b => rfl
    generalize up (up (bk0 σ2 17) 17 10 (σ2 17 10 - 1)) (17 + 4) g 0 = s at tb t
    have to : ∀ a, a ≠ 21 → a ≠ 17 → s a = σ2 a := fun a q1 q2 => by funext b; rw [t, if_neg (by omega), if_neg (by omega), if_neg (by omega)]
    refine ⟨s, tb, ⟨⟨⟨fun a q1 q2 => by rw [to a (by omega) (by omega)]; exact bb a q1 q2, fun c q1 q2 => by rw [to c (by omega) (by omega)]; exact br c q1 q2⟩, ⟨?_, ?_, ?_⟩, fun q q1 q2 => ?_, fun x q1 q2 => ⟨?_, ?_⟩⟩, fun c i q1 q2 q3 q4 => by rw [to c (by omega) (by omega)]; exact lo c i q1 q2 q3 q4⟩, fun a q => to a (by omega) (by omega)⟩
    · rw [t, if_neg (by omega), if_pos ⟨rfl, rfl⟩]; omega
    · rw [t, if_neg (by omega), if_neg (by omega), if_neg (by omega), c2, if_pos z]; omega
    · rw [t, if_neg (by omega), if_neg (by omega), if_pos ⟨rfl, rfl⟩]; omega
    · have n1 : enterS σ 17 g p 18 = σ 18 := by
        rw [z]; funext b; rw [enterS_no]
        repeat rw [if_neg (by omega)]
      have n2 : enterS σ 17 g p 19 q = σ 19 q + (if q = p then payC σ 17 g p else 0) := enterS_paid (k := 17) q1
      rw [to 18 (by omega) (by omega), to 19 (by omega) (by omega), (c4 q q1 q2).1, (c4 q q1 q2).2, n1, n2, if_neg (by omega), Int.add_zero]
      exact ⟨rfl, rfl⟩
    · have n3 : enterS σ 17 g (-4) (17 + 3) = σ (17 + 3) := enterS_no3
      rw [to 20 (by omega) (by omega), (c5 x q1 q2).1, z]
      exact congrFun n3 x
    · rw [t]
      by_cases y : x = g
      · rw [if_pos ⟨rfl, y⟩, y, h21]
      · rw [if_neg (by omega), if_neg (by omega), if_neg (by omega), c21 x q1 q2, if_neg y]
  · have hp' : 0 ≤ p ∧ p < 6 := by omega
    have ho' := ho z
    rw [if_neg z] at f8
    have ep : paysC σ 17 g p = payC σ 17 g p := by unfold paysC; rw [if_neg z]
    rw [ep] at f7
    obtain ⟨s0, hs0, tb⟩ := takeBack_in (σ := σ2) (k := 17) (by omega) (by rw [e12, f5]; exact hg) (by rw [e12, f6]; exact hp') (by rw [e12, f9]) (by
      rw [e12, f8]
      rcases ho' with w | w
      · exact Or.inl w
      · exact Or.inr ⟨w.1, w.2.1⟩)
    rw [e12, f5, f6, f7] at hs0
    rw [e12, f6, f8] at tb
    have t0 : ∀ a b, s0 a b = if a = 19 ∧ b = p then σ2 19 p - payC σ 17 g p else if a = 18 ∧ b = p then σ2 18 p - 1 else if a = 20 ∧ b = g then -4 else if a = 21 ∧ b = g then 0 else if a = 17 ∧ b = 10 then σ2 17 10 - 1 else if a = 17 ∧ b = 12 then σ2 17 12 - 1 else σ2 a b := fun a b => by rw [hs0]; rfl
    have epr : ∀ x, enterS σ 17 g p 20 x = if x = g then p else if x = outC σ 17 p ∧ outC σ 17 p ≠ -4 then -4 else σ 20 x := fun x => enterS_pr (k := 17) z
    have etk : ∀ q, enterS σ 17 g p 18 q = σ 18 q + (if q = p ∧ outC σ 17 p = -4 then 1 else 0) := fun q => enterS_tk (k := 17) z
    have epd : ∀ q, 0 ≤ q → enterS σ 17 g p 19 q = σ 19 q + (if q = p then payC σ 17 g p else 0) := fun q hq => enterS_paid (k := 17) hq
    -- the store behind, place by place
    obtain ⟨s, tb', t⟩ : ∃ s, gX7_takeBack σ2 17 = some s ∧ ∀ a b, s a b = if a = 17 ∧ b = 11 then (if outC σ 17 p = -4 then σ2 17 11 else σ2 17 11 - 1) else if a = 18 ∧ b = p then (if outC σ 17 p = -4 then σ2 18 p - 1 else σ2 18 p) else if a = 20 ∧ b = outC σ 17 p ∧ outC σ 17 p ≠ -4 then p else s0 a b := by
      by_cases w : outC σ 17 p = -4
      · rw [if_pos w] at tb
        refine ⟨s0, tb, fun a b => ?_⟩
        rw [if_pos w, if_pos w]
        by_cases y1 : a = 17 ∧ b = 11
        · obtain ⟨rfl, rfl⟩ := y1
          rw [if_pos ⟨rfl, rfl⟩, t0, if_neg (by omega), if_neg (by omega), if_neg (by omega), if_neg (by omega), if_neg (by omega), if_neg (by omega)]
        · rw [if_neg y1]
          by_cases y2 : a = 18 ∧ b = p
          · rw [if_pos y2, t0, if_neg (by omega), if_pos y2]
          · rw [if_neg y2, if_neg (fun v => v.2.2 w)]
      · rw [if_neg w] at tb
        refine ⟨_, tb, fun a b => ?_⟩
        show (if a = 17 ∧ b = 11 then σ2 17 11 - 1 else if a = 18 ∧ b = p then σ2 18 p else if a = 20 ∧ b = outC σ 17 p then p else s0 a b) = _
        have k1 : (a = 20 ∧ b = outC σ 17 p ∧ outC σ 17 p ≠ -4) = (a = 20 ∧ b = outC σ 17 p) := propext ⟨fun v => ⟨v.1, v.2.1⟩, fun v => ⟨v.1, v.2, w⟩⟩
        simp only [if_neg w, k1]
    have to : ∀ a, ¬ (17 ≤ a ∧ a ≤ 21) → s a = σ2 a := fun a q => by
      funext b
      rw [t, if_neg (by omega), if_neg (by omega), if_neg (by omega), t0, if_neg (by omega), if_neg (by omega), if_neg (by omega), if_neg (by omega), if_neg (by omega), if_neg (by omega)]
    refine ⟨s, tb', ⟨⟨⟨fun a q1 q2 => by rw [to a (by omega)]; exact bb a q1 q2, fun c q1 q2 => by rw [to c (by omega)]; exact br c q1 q2⟩, ⟨?_, ?_, ?_⟩, fun q q1 q2 => ⟨?_, ?_⟩, fun x q1 q2 => ⟨?_, ?_⟩⟩, fun c i q1 q2 q3 q4 => by rw [to c (by omega)]; exact lo c i q1 q2 q3 q4⟩, fun a q => to a (by omega)⟩
    · rw [t, if_neg (by omega), if_neg (by omega), if_neg (by omega), t0, if_neg (by omega), if_neg (by omega), if_neg (by omega), if_neg (by omega), if_pos ⟨rfl, rfl⟩]; omega
    · rw [t, if_pos ⟨rfl, rfl⟩, c2, if_neg z]
      split <;> omega
    · rw [t, if_neg (by omega), if_neg (by omega), if_neg (by omega), t0, if_neg (by omega), if_neg (by omega), if_neg (by omega), if_neg (by omega), if_neg (by omega), if_pos ⟨rfl, rfl⟩]; omega
    · have e := (c4 q q1 q2).1
      rw [etk] at e
      rw [t, if_neg (by omega)]
      by_cases y : q = p
      · rw [if_pos ⟨rfl, y⟩, ← y]
        by_cases w : outC σ 17 q = -4
        · rw [if_pos w]
          rw [if_pos ⟨y, y ▸ w⟩] at e
          omega
        · rw [if_neg w]
          rw [if_neg (fun v => w (y ▸ v.2))] at e
          omega
      · rw [if_neg (fun v => y v.2), if_neg (by omega), t0, if_neg (by omega), if_neg (fun v => y v.2), if_neg (by omega), if_neg (by omega), if_neg (by omega), if_neg (by omega), e, if_neg (fun v => y v.1), Int.add_zero]
    · have e := (c4 q q1 q2).2
      rw [epd q q1] at e
      rw [t, if_neg (by omega), if_neg (by omega), if_neg (by omega), t0]
      by_cases y : q = p
      · rw [if_pos ⟨rfl, y⟩, ← y]
        rw [if_pos y, ← y] at e
        omega
      · rw [if_neg (fun v => y v.2), if_neg (by omega), if_neg (by omega), if_neg (by omega), if_neg (by omega), if_neg (by omega), e, if_neg y, Int.add_zero]
    · have e := (c5 x q1 q2).1
      rw [epr] at e
      rw [t, if_neg (by omega), if_neg (by omega)]
      by_cases w : x = outC σ 17 p ∧ outC σ 17 p ≠ -4
      · rw [if_pos ⟨rfl, w⟩]
        rcases ho' with v | v
        · exact absurd v w.2
        · rw [w.1]; exact v.2.2.2.symm
      · rw [if_neg (fun v => w v.2), t0, if_neg (by omega), if_neg (by omega)]
        by_cases y : x = g
        · rw [if_pos ⟨rfl, y⟩, y, h20]
        · rw [if_neg (fun v => y v.2), if_neg (by omega), if_neg (by omega), if_neg (by omega), e, if_neg y, if_neg w]
    · rw [t, if_neg (by omega), if_neg (by omega), if_neg (by omega), t0, if_neg (by omega), if_neg (by omega), if_neg (by omega)]
      by_cases y : x = g
      · rw [if_pos ⟨rfl, y⟩, y, h21]
      · rw [if_neg (fun v => y v.2), if_neg (by omega), if_neg (by omega), c21 x q1 q2, if_neg y]
