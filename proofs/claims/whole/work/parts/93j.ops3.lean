-- PURE LAYER: guest, post
theorem up_id {σ : St} {k j v : Int} (h : σ k j = v) : up σ k j v = σ := by
  funext a b
  rw [up_at]
  split
  · rename_i q; rw [q.1, q.2, h]
  · rfl
theorem gX11_guest_L24_eq (F : Nat) (σ : St) (hg : 0 ≤ σ 143 4 ∧ σ 143 4 < 9) (hz : ∀ p, 0 ≤ p → p < 6 → σ 148 (6 * σ 143 4 + p) = 0) : ∀ (m n : Nat) (i : Int), 0 ≤ i → i + m = 6 → m < n → gX11_guest_L24 F n i σ = some (σ 143 4, up (up (up (up σ 173 (σ 143 4) 0) 174 (σ 143 4) (-4)) 175 (σ 143 4) 0) 143 4 (σ 143 4 + 1)) := by
  intro m
  induction m with
  | zero =>
    intro n i h1 h2 h3
    obtain ⟨n, rfl⟩ : ∃ n', n = n' + 1 := ⟨n - 1, by omega⟩
    have e1 : ∀ v, up σ 173 (σ 143 4) v 143 4 = σ 143 4 := fun v => by rw [up_at, if_neg (by omega)]
    have e2 : ∀ v w, up (up σ 173 (σ 143 4) v) 174 (σ 143 4) w 143 4 = σ 143 4 := fun v w => by rw [up_at, if_neg (by omega), e1]
    have e3 : ∀ v w u, up (up (up σ 173 (σ 143 4) v) 174 (σ 143 4) w) 175 (σ 143 4) u 143 4 = σ 143 4 := fun v w u => by rw [up_at, if_neg (by omega), e2]
    rw [gX11_guest_L24, w32_id (a := i) (by omega), if_pos (by omega), w32_id (a := σ 143 4) (by omega), gd_pos (by omega), e1, w32_id (a := σ 143 4) (by omega), gd_pos (by omega), e2, w32_id (a := σ 143 4) (by omega), gd_pos (by omega), e3, up_self]
    congr 2
    omega
  | succ m ih =>
    intro n i h1 h2 h3
    obtain ⟨n, rfl⟩ : ∃ n', n = n' + 1 := ⟨n - 1, by omega⟩
    rw [gX11_guest_L24, w32_id (a := i) (by omega), if_neg (by omega), w32_id (a := 6 * σ 143 4 + i) (by omega), gd_pos (by omega), up_id (hz i h1 (by omega)), ih n (i + 1) (by omega) (by omega) (by omega)]
theorem op_guest {F n : Nat} (hF : 100 ≤ F) {σ : St} (hB : InvB n σ) (hM : InvM σ) :
    ∃ r σ1 σ2, gX10_guest σ = some (r, σ1) ∧ gX11_guest F σ1 = some (r, σ2) ∧ InvB (n + 1) σ2 ∧ InvM σ2 ∧ ChgB σ σ2 := by
  obtain ⟨⟨p1, p2, p3⟩, ⟨g1, g2, g3⟩, v1, ⟨c1, c2, c3, c4, c5⟩, b5, b6, b7, b8⟩ := id hB
  by_cases h : σ 1 6 < 9
  · let σ1 := up (up (up σ 5 (σ 1 6) 1) 1 6 (σ 1 6 + 1)) 1 7 (σ 1 7 + 1)
    let τ := up σ1 147 (σ 1 6) 1
    have s1 : ∀ a b, τ a b = if (a = 5 ∨ a = 147) ∧ b = σ 1 6 then 1 else if a = 1 ∧ b = 6 then σ 1 6 + 1 else if a = 1 ∧ b = 7 then σ 1 7 + 1 else σ a b := by
      intro a b
      show up (up (up (up σ 5 (σ 1 6) 1) 1 6 (σ 1 6 + 1)) 1 7 (σ 1 7 + 1)) 147 (σ 1 6) 1 a b = _
      rw [up_at, up_at, up_at, up_at]
      by_cases q1 : a = 147 ∧ b = σ 1 6
      · rw [if_pos q1, if_pos (by omega)]
      · rw [if_neg q1]
        by_cases q2 : a = 5 ∧ b = σ 1 6
        · rw [if_neg (by omega), if_neg (by omega), if_pos q2, if_pos (by omega)]
        · by_cases q3 : a = 1 ∧ b = 7
          · rw [if_pos q3, if_neg (by omega), if_neg (by omega), if_pos q3]
          · rw [if_neg q3]
            by_cases q4 : a = 1 ∧ b = 6
            · rw [if_pos q4, if_neg (by omega), if_pos q4]
            · rw [if_neg q4, if_neg q2, if_neg (by omega), if_neg q4, if_neg q3]
    have t4 : τ 143 4 = σ 1 6 := by rw [s1, if_neg (by omega), if_neg (by omega), if_neg (by omega)]; exact g3
    have tz : ∀ p, 0 ≤ p → p < 6 → τ 148 (6 * τ 143 4 + p) = 0 := by
      intro p q1 q2
      rw [t4, s1, if_neg (by omega), if_neg (by omega), if_neg (by omega), c5]
      exact (b7 (σ 1 6) p g1 h q1 q2).2 (Or.inl (Int.le_refl _))
    have lp := gX11_guest_L24_eq F τ (by omega) tz 6 F 0 (by omega) (by omega) (by omega)
    rw [t4] at lp
    let σ2 := up (up (up (up τ 173 (σ 1 6) 0) 174 (σ 1 6) (-4)) 175 (σ 1 6) 0) 143 4 (σ 1 6 + 1)
    have s2 : ∀ a b, σ2 a b = if a = 143 ∧ b = 4 then σ 1 6 + 1 else if (a = 173 ∨ a = 175) ∧ b = σ 1 6 then 0 else if a = 174 ∧ b = σ 1 6 then -4 else if (a = 5 ∨ a = 147) ∧ b = σ 1 6 then 1 else if a = 1 ∧ b = 6 then σ 1 6 + 1 else if a = 1 ∧ b = 7 then σ 1 7 + 1 else σ a b := by
      intro a b
      rw [← s1]
      show up (up (up (up τ 173 (σ 1 6) 0) 174 (σ 1 6) (-4)) 175 (σ 1 6) 0) 143 4 (σ 1 6 + 1) a b = _
      rw [up_at, up_at, up_at, up_at]
      by_cases q0 : a = 143 ∧ b = 4
      · rw [if_pos q0, if_pos q0]
      · rw [if_neg q0, if_neg q0]
        by_cases q1 : a = 175 ∧ b = σ 1 6
        · rw [if_pos q1, if_pos (by omega)]
        · rw [if_neg q1]
          by_cases q2 : a = 174 ∧ b = σ 1 6
          · rw [if_pos q2, if_neg (by omega), if_pos q2]
          · rw [if_neg q2]
            by_cases q3 : a = 173 ∧ b = σ 1 6
            · rw [if_pos q3, if_pos (by omega)]
            · rw [if_neg q3, if_neg (by omega), if_neg q2]
    have o : ∀ a b, ¬ (a = 143 ∧ b = 4) → ¬ ((173 ≤ a ∧ a ≤ 175 ∨ a = 5 ∨ a = 147) ∧ b = σ 1 6) → ¬ (a = 1 ∧ (b = 6 ∨ b = 7)) → σ2 a b = σ a b := fun a b q1 q2 q3 => by
      rw [s2, if_neg q1, if_neg (by omega), if_neg (by omega), if_neg (by omega), if_neg (by omega), if_neg (by omega)]
    have oc : ∀ a, a ≠ 143 → ¬ (173 ≤ a ∧ a ≤ 175) → a ≠ 5 → a ≠ 147 → a ≠ 1 → σ2 a = σ a := fun a q1 q2 q3 q4 q5 => by funext b; exact o a b (by omega) (by omega) (by omega)
    have e6 : σ2 1 6 = σ 1 6 + 1 := by rw [s2, if_neg (by omega), if_neg (by omega), if_neg (by omega), if_neg (by omega), if_pos (by omega)]
    have e7 : σ2 1 7 = σ 1 7 + 1 := by rw [s2, if_neg (by omega), if_neg (by omega), if_neg (by omega), if_neg (by omega), if_neg (by omega), if_pos (by omega)]
    have e5 : σ2 1 5 = σ 1 5 := o 1 5 (by omega) (by omega) (by omega)
    have ec : σ2 5 = upf (σ 5) (σ 1 6) 1 := by
      funext b
      unfold upf
      by_cases q : b = σ 1 6
      · rw [s2, if_neg (by omega), if_neg (by omega), if_neg (by omega), if_pos (by omega), if_pos q]
      · rw [o 5 b (by omega) (by omega) (by omega), if_neg q]
    have ec2 : σ2 147 = upf (σ 5) (σ 1 6) 1 := by
      funext b
      unfold upf
      by_cases q : b = σ 1 6
      · rw [s2, if_neg (by omega), if_neg (by omega), if_neg (by omega), if_pos (by omega), if_pos q]
      · rw [o 147 b (by omega) (by omega) (by omega), if_neg q, c4]
    refine ⟨σ 1 6, σ1, σ2, ?_, ?_, ?_, ?_, ?_⟩
    · unfold gX10_guest gX0_addGuest
      have k1 : up σ (1 + 4) (σ 1 6) 1 1 6 = σ 1 6 := by rw [up_at, if_neg (by omega)]
      have k2 : ∀ v, up (up σ (1 + 4) (σ 1 6) 1) 1 6 v 1 7 = σ 1 7 := fun v => by rw [up_at, if_neg (by omega), up_at, if_neg (by omega)]
      have k3 : ∀ v w, up (up (up σ (1 + 4) (σ 1 6) 1) 1 6 v) 1 7 w 1 6 = v := fun v w => by rw [up_at, if_neg (by omega), up_self]
      rw [w32_id (a := σ 1 6) (by omega), if_pos h, gd_pos (by omega), Option.bind_some, k1, k2, k3]
      show some (σ 1 6 + 1 - 1, σ1) = some (σ 1 6, σ1)
      rw [show σ 1 6 + 1 - 1 = σ 1 6 by omega]
    · unfold gX11_guest
      have k1 : σ1 143 4 = σ 1 6 := by
        show up (up (up σ 5 (σ 1 6) 1) 1 6 (σ 1 6 + 1)) 1 7 (σ 1 7 + 1) 143 4 = _
        rw [up_at, if_neg (by omega), up_at, if_neg (by omega), up_at, if_neg (by omega)]; exact g3
      rw [k1, w32_id (a := σ 1 6) (by omega), if_pos (by omega), gd_pos (by omega)]
      exact lp
    · refine ⟨?_, ?_, ?_, ?_, ?_, ?_, ?_, ?_⟩
      · rw [e5, o 143 0 (by omega) (by omega) (by omega)]; exact ⟨p1, p2, p3⟩
      · rw [e6, s2 143 4, if_pos (by omega)]; omega
      · rw [e7]; omega
      · rw [oc 144 (by omega) (by omega) (by omega) (by omega) (by omega), oc 2 (by omega) (by omega) (by omega) (by omega) (by omega), oc 145 (by omega) (by omega) (by omega) (by omega) (by omega), oc 3 (by omega) (by omega) (by omega) (by omega) (by omega), oc 146 (by omega) (by omega) (by omega) (by omega) (by omega), oc 4 (by omega) (by omega) (by omega) (by omega) (by omega), ec, ec2, oc 148 (by omega) (by omega) (by omega) (by omega) (by omega), oc 6 (by omega) (by omega) (by omega) (by omega) (by omega)]
        exact ⟨c1, c2, c3, rfl, c5⟩
      · intro p q1 q2
        rw [e5] at q2
        rw [oc 2 (by omega) (by omega) (by omega) (by omega) (by omega), oc 3 (by omega) (by omega) (by omega) (by omega) (by omega), oc 4 (by omega) (by omega) (by omega) (by omega) (by omega)]
        exact b5 p q1 q2
      · intro g q1 q2
        rw [e6] at q2
        rw [ec]
        unfold upf
        split
        · omega
        · exact b6 g q1 (by omega)
      · intro g p q1 q2 q3 q4
        rw [e5, e6, oc 6 (by omega) (by omega) (by omega) (by omega) (by omega)]
        obtain ⟨w1, w2⟩ := b7 g p q1 q2 q3 q4
        exact ⟨w1, fun z => w2 (by omega)⟩
      · rw [e5, oc 2 (by omega) (by omega) (by omega) (by omega) (by omega)]; exact b8
    · obtain ⟨i1, i2, i3, i4, i5, i6, i7⟩ := id hM
      have n0 : σ2 7 10 = σ 7 10 := o 7 10 (by omega) (by omega) (by omega)
      have n1 : σ2 7 12 = σ 7 12 := o 7 12 (by omega) (by omega) (by omega)
      have k0 : kp σ2 = kp σ := by funext i j; unfold kp; rw [oc 177 (by omega) (by omega) (by omega) (by omega) (by omega)]
      have k1 : lPair σ2 = lPair σ := by funext i g; unfold lPair; rw [k0, n1, oc 10 (by omega) (by omega) (by omega) (by omega) (by omega)]
      have k2 : lSeq σ2 = lSeq σ := by funext i g; unfold lSeq; rw [k0, n1, oc 11 (by omega) (by omega) (by omega) (by omega) (by omega)]
      have k3 : lPaid σ2 = lPaid σ := by funext i g; unfold lPaid; rw [k0, n1, oc 9 (by omega) (by omega) (by omega) (by omega) (by omega)]
      have k4 : lCnt σ2 = lCnt σ := by funext i; unfold lCnt; rw [k0, n1, n0]
      refine ⟨?_, ?_, ?_, ?_, ?_, ?_, ?_⟩
      · rw [n1, o 143 54 (by omega) (by omega) (by omega)]; exact i1
      · rw [n0, o 143 53 (by omega) (by omega) (by omega)]; exact i2
      · intro g q1 q2
        rw [e6] at q2
        rw [oc 11 (by omega) (by omega) (by omega) (by omega) (by omega), oc 10 (by omega) (by omega) (by omega) (by omega) (by omega)]
        by_cases q : g = σ 1 6
        · obtain ⟨w1, w2, w3, w4⟩ := hM.cur.1 g q1 (by omega)
          obtain ⟨w5, w6⟩ := w4 (by omega)
          have z3 : σ2 173 g = 0 := by rw [s2, if_neg (by omega), if_pos (by omega)]
          have z4 : σ2 174 g = -4 := by rw [s2, if_neg (by omega), if_neg (by omega), if_pos (by omega)]
          have z5 : σ2 175 g = 0 := by rw [s2, if_neg (by omega), if_pos (by omega)]
          rw [w5, w6, z3, z4, z5, if_neg (by omega)]
          exact ⟨rfl, rfl, rfl⟩
        · rw [o 173 g (by omega) (by omega) (by omega), o 174 g (by omega) (by omega) (by omega), o 175 g (by omega) (by omega) (by omega)]
          exact i3 g q1 (by omega)
      · intro p q1 q2
        rw [oc 176 (by omega) (by omega) (by omega) (by omega) (by omega), oc 9 (by omega) (by omega) (by omega) (by omega) (by omega), oc 8 (by omega) (by omega) (by omega) (by omega) (by omega), oc 10 (by omega) (by omega) (by omega) (by omega) (by omega)]
        exact i4 p q1 q2
      · intro i q1 q2
        rw [n1] at q2
        rw [k1, k2, k3, k4, e5, e6, oc 2 (by omega) (by omega) (by omega) (by omega) (by omega), oc 4 (by omega) (by omega) (by omega) (by omega) (by omega)]
        obtain ⟨w1, w2⟩ := i5 i q1 q2
        exact ⟨fun g z1 z2 => ⟨(w1 g z1 z2).1, (w1 g z1 z2).2.1, (w1 g z1 z2).2.2.1, fun z3 => (w1 g z1 z2).2.2.2 (by omega)⟩, w2⟩
      · intro i q1 q2
        rw [n1] at q2
        rw [k0, k1, k2, k3, k4, e6, oc 12 (by omega) (by omega) (by omega) (by omega) (by omega), oc 13 (by omega) (by omega) (by omega) (by omega) (by omega), oc 14 (by omega) (by omega) (by omega) (by omega) (by omega), oc 15 (by omega) (by omega) (by omega) (by omega) (by omega), oc 16 (by omega) (by omega) (by omega) (by omega) (by omega)]
        obtain ⟨w1, w2, w3, w4⟩ := i6 i q1 q2
        exact ⟨w1, w2, by omega, w4⟩
      · rw [k3, k4]; exact i7
    · refine ⟨fun a b q1 q2 => ?_, Or.inr (by rw [e7]; omega)⟩
      unfold supB at q1
      unfold supM at q2
      exact o a b (by omega) (by omega) (by omega)
  · refine ⟨-3, σ, σ, ?_, ?_, hB.next, hM, ChgB.rf σ⟩
    · unfold gX10_guest
      rw [w32_id (a := σ 1 6) (by omega), if_neg h]
    · unfold gX11_guest
      rw [g3, w32_id (a := σ 1 6) (by omega), if_neg (by omega)]
