-- PURE LAYER: feed, end, fault, ruleOf
theorem gX8_addEight_L3_eq (F : Nat) (v : Int) : ∀ (m n : Nat) (σ : St), m ≤ 8 → m < n → 0 ≤ σ 57 0 → σ 57 0 + m ≤ 160 → ∃ σ', gX8_addEight_L3 F v n (8 * (m : Int) - 8) σ = some σ' ∧ σ' 57 0 = σ 57 0 + m ∧ (∀ j, σ' 58 j = if σ 57 0 ≤ j ∧ j < σ 57 0 + m then iand (l2i_ (lur v (8 * (m - 1 - (j - σ 57 0))))) 255 else σ 58 j) ∧ ∀ k j, k ≠ 58 → ¬ (k = 57 ∧ j = 0) → σ' k j = σ k j := by
  intro m
  induction m with
  | zero =>
    intro n σ h1 h2 h3 h4
    obtain ⟨n, rfl⟩ : ∃ n', n = n' + 1 := ⟨n - 1, by omega⟩
    refine ⟨σ, ?_, by simp, fun j => by rw [if_neg (by omega)], fun _ _ _ _ => rfl⟩
    rw [gX8_addEight_L3, w32_id (by omega), if_pos (by omega)]
  | succ m ih =>
    intro n σ h1 h2 h3 h4
    obtain ⟨n, rfl⟩ : ∃ n', n = n' + 1 := ⟨n - 1, by omega⟩
    have hb : 8 * ((m + 1 : Nat) : Int) - 8 = 8 * m := by omega
    rw [hb]
    let τ := up (up σ 58 (σ 57 0) (iand (l2i_ (lur v (8 * m))) 255)) 57 0 (σ 57 0 + 1)
    have t0 : τ 57 0 = σ 57 0 + 1 := up_self _ _ _ _
    obtain ⟨σ', e1, e2, e3, e4⟩ := ih n τ (by omega) (by omega) (by rw [t0]; omega) (by rw [t0]; omega)
    refine ⟨σ', ?_, by rw [e2, t0]; omega, fun j => ?_, fun k j q1 q2 => ?_⟩
    · rw [gX8_addEight_L3, w32_id (a := 8 * (m : Int)) (by omega), if_neg (by omega), w32_id (a := σ 57 0) (by omega), if_neg (by omega), gd_pos (by omega)]
      have e : (up σ 58 (σ 57 0) (iand (l2i_ (lur v (8 * m))) 255)) 57 0 = σ 57 0 := by rw [up_at, if_neg (by omega)]
      rw [e]
      exact e1
    · rw [e3 j, t0]
      have t1 : τ 58 j = if j = σ 57 0 then iand (l2i_ (lur v (8 * m))) 255 else σ 58 j := by
        show up (up σ 58 _ _) 57 0 _ 58 j = _
        rw [up_at, if_neg (by omega), up_at]
        by_cases q : j = σ 57 0
        · rw [if_pos ⟨rfl, q⟩, if_pos q]
        · rw [if_neg (fun w => q w.2), if_neg q]
      rw [t1]
      by_cases q : j = σ 57 0
      · rw [if_neg (by omega), if_pos q, if_pos (by omega)]
        congr 4; omega
      · by_cases w : σ 57 0 + 1 ≤ j ∧ j < σ 57 0 + 1 + m
        · rw [if_pos w, if_pos (by omega)]
          congr 4; omega
        · rw [if_neg w, if_neg q, if_neg (by omega)]
    · rw [e4 k j q1 q2]
      show up (up σ 58 _ _) 57 0 _ k j = _
      rw [up_at, if_neg q2, up_at, if_neg (by omega)]
theorem gX11_feed_L19_eq (F : Nat) (v : Int) : ∀ (m n : Nat) (σ : St), m ≤ 8 → m < n → 0 ≤ σ 143 8 → σ 143 8 + m ≤ 160 → ∃ σ', gX11_feed_L19 F v n (8 * (m : Int) - 8) σ = some (σ 143 8 + m, σ') ∧ σ' 143 8 = σ 143 8 + m ∧ (∀ j, σ' 149 j = if σ 143 8 ≤ j ∧ j < σ 143 8 + m then iand (l2i_ (lsr v (8 * (m - 1 - (j - σ 143 8))))) 255 else σ 149 j) ∧ ∀ k j, k ≠ 149 → ¬ (k = 143 ∧ j = 8) → σ' k j = σ k j := by
  intro m
  induction m with
  | zero =>
    intro n σ h1 h2 h3 h4
    obtain ⟨n, rfl⟩ : ∃ n', n = n' + 1 := ⟨n - 1, by omega⟩
    refine ⟨σ, ?_, by simp, fun j => by rw [if_neg (by omega)], fun _ _ _ _ => rfl⟩
    rw [gX11_feed_L19, w32_id (by omega), if_pos (by omega)]
    simp
  | succ m ih =>
    intro n σ h1 h2 h3 h4
    obtain ⟨n, rfl⟩ : ∃ n', n = n' + 1 := ⟨n - 1, by omega⟩
    have hb : 8 * ((m + 1 : Nat) : Int) - 8 = 8 * m := by omega
    rw [hb]
    let τ := up (up σ 149 (σ 143 8) (iand (l2i_ (lsr v (8 * m))) 255)) 143 8 (σ 143 8 + 1)
    have t0 : τ 143 8 = σ 143 8 + 1 := up_self _ _ _ _
    obtain ⟨σ', e1, e2, e3, e4⟩ := ih n τ (by omega) (by omega) (by rw [t0]; omega) (by rw [t0]; omega)
    refine ⟨σ', ?_, by rw [e2, t0]; omega, fun j => ?_, fun k j q1 q2 => ?_⟩
    · rw [gX11_feed_L19, w32_id (a := 8 * (m : Int)) (by omega), if_neg (by omega), w32_id (a := σ 143 8) (by omega), gd_pos (by omega)]
      have e : (up σ 149 (σ 143 8) (iand (l2i_ (lsr v (8 * m))) 255)) 143 8 = σ 143 8 := by rw [up_at, if_neg (by omega)]
      rw [e]
      have e0 : σ 143 8 + ((m + 1 : Nat) : Int) = τ 143 8 + m := by rw [t0]; omega
      rw [e0]
      exact e1
    · rw [e3 j, t0]
      have t1 : τ 149 j = if j = σ 143 8 then iand (l2i_ (lsr v (8 * m))) 255 else σ 149 j := by
        show up (up σ 149 _ _) 143 8 _ 149 j = _
        rw [up_at, if_neg (by omega), up_at]
        by_cases q : j = σ 143 8
        · rw [if_pos ⟨rfl, q⟩, if_pos q]
        · rw [if_neg (fun w => q w.2), if_neg q]
      rw [t1]
      by_cases q : j = σ 143 8
      · rw [if_neg (by omega), if_pos q, if_pos (by omega)]
        congr 4; omega
      · by_cases w : σ 143 8 + 1 ≤ j ∧ j < σ 143 8 + 1 + m
        · rw [if_pos w, if_pos (by omega)]
          congr 4; omega
        · rw [if_neg w, if_neg q, if_neg (by omega)]
    · rw [e4 k j q1 q2]
      show up (up σ 149 _ _) 143 8 _ k j = _
      rw [up_at, if_neg q2, up_at, if_neg (by omega)]
theorem op_feed {F : Nat} (hF : 100 ≤ F) {σ : St} {v : Int} (hT : InvT σ) :
    ∃ r σ1 σ2, gX10_feed F σ v = some (r, σ1) ∧ gX11_feed F σ1 v = some (r, σ2) ∧ InvT σ2 ∧ ∀ k j, ¬ supT k j → σ2 k j = σ k j := by
  obtain ⟨⟨t1, t2, t3⟩, t4, t5, t6, t7⟩ := id hT
  by_cases h : σ 57 0 + 8 ≤ 160
  · obtain ⟨σ1, a1, a2, a3, a4⟩ := gX8_addEight_L3_eq F v 8 F σ (by omega) (by omega) t1 (by omega)
    have m8 : σ1 143 8 = σ 57 0 := by rw [a4 143 8 (by omega) (by omega)]; exact t3
    obtain ⟨σ2, b1, b2, b3, b4⟩ := gX11_feed_L19_eq F v 8 F σ1 (by omega) (by omega) (by omega) (by omega)
    have e58 : σ2 58 = σ1 58 := by funext j; exact b4 58 j (by omega) (by omega)
    have e149 : σ2 149 = σ1 58 := by
      funext j
      rw [b3 j, a3 j, m8, show σ1 149 j = σ 58 j by rw [a4 149 j (by omega) (by omega), t4]]
      by_cases q : σ 57 0 ≤ j ∧ j < σ 57 0 + (8 : Nat)
      · rw [if_pos q, if_pos q]
        exact (fed_byte v (by omega)).symm
      · rw [if_neg q, if_neg q]
    refine ⟨σ 57 0 + 8, σ1, σ2, ?_, ?_, ⟨⟨?_, ?_, ?_⟩, ?_, ?_, ?_, ?_⟩, fun k j hk => ?_⟩
    · unfold gX10_feed gX8_addEight
      rw [w32_id (by omega), if_pos h, show (56 : Int) = 8 * ((8 : Nat) : Int) - 8 by omega, a1, Option.bind_some, a2]
      rfl
    · unfold gX11_feed
      rw [m8, w32_id (by omega), if_pos h, show (56 : Int) = 8 * ((8 : Nat) : Int) - 8 by omega, b1, m8]
      rfl
    · rw [b4 57 0 (by omega) (by omega), a2]; omega
    · rw [b4 57 0 (by omega) (by omega), a2]; omega
    · rw [b2, b4 57 0 (by omega) (by omega), a2, m8]
    · rw [e149, e58]
    · intro i hi1 hi2
      rw [e58, a3 i]
      by_cases q : σ 57 0 ≤ i ∧ i < σ 57 0 + (8 : Nat)
      · rw [if_pos q]; exact iand255_rng _
      · rw [if_neg q]; exact t5 i hi1 hi2
    · funext j; rw [b4 157 j (by omega) (by omega), a4 157 j (by omega) (by omega), t6]
    · funext j; rw [b4 158 j (by omega) (by omega), a4 158 j (by omega) (by omega), t7]
    · unfold supT at hk
      rw [b4 k j (by omega) (by omega), a4 k j (by omega) (by omega)]
  · refine ⟨-3, σ, σ, ?_, ?_, hT, fun _ _ _ => rfl⟩
    · unfold gX10_feed
      rw [w32_id (by omega), if_neg h]
    · unfold gX11_feed
      rw [t3, w32_id (by omega), if_neg h]
theorem op_end {σ : St} {a : Int} (hT : InvT σ) (ha : w32 a = a) :
    ∃ r σ1 σ2, gX10_end σ a = some (r, σ1) ∧ gX11_end σ1 a = some (r, σ2) ∧ InvT σ2 ∧ ∀ k j, ¬ supT k j → σ2 k j = σ k j := by
  obtain ⟨⟨t1, t2, t3⟩, t4, t5, t6, t7⟩ := id hT
  have x1 : gX10_isIn σ a 0 (σ 57 0) = some (tv (0 ≤ a ∧ a ≤ σ 57 0)) := gX10_isIn_eq σ ha (by decide) (w32_id (by omega))
  have m1 : ∀ s : St, s 143 8 = σ 57 0 → gX11_in s (w32 a) 0 (w32 (s 143 8)) = some (tv (0 ≤ a ∧ a ≤ σ 57 0)) := fun s hs => by
    rw [hs, w32_id (a := σ 57 0) (by omega)]
    exact gX11_in32 s ha (by decide) (w64_id (by omega))
  by_cases h : 0 ≤ a ∧ a ≤ σ 57 0
  · have e8 : up σ 57 0 a 143 8 = σ 57 0 := by rw [up_at, if_neg (by omega)]; exact t3
    refine ⟨σ 57 0, up σ 57 0 a, up (up σ 57 0 a) 143 8 a, ?_, ?_, ?_, fun k j hk => ?_⟩
    · unfold gX10_end
      rw [x1, Option.bind_some, tv_if1, if_pos h]
    · unfold gX11_end
      rw [m1 _ e8, Option.bind_some, tv_if1, if_pos h, e8]
    · have f : ∀ k j, ¬ (k = 57 ∧ j = 0) → ¬ (k = 143 ∧ j = 8) → up (up σ 57 0 a) 143 8 a k j = σ k j := fun k j q1 q2 => by rw [up_at, if_neg q2, up_at, if_neg q1]
      have c : ∀ k, k ≠ 57 → k ≠ 143 → up (up σ 57 0 a) 143 8 a k = σ k := fun k q1 q2 => by funext j; exact f k j (by omega) (by omega)
      refine ⟨?_, by rw [c 149 (by omega) (by omega), c 58 (by omega) (by omega)]; exact t4, by rw [c 58 (by omega) (by omega)]; exact t5, by rw [c 157 (by omega) (by omega)]; exact t6, by rw [c 158 (by omega) (by omega)]; exact t7⟩
      rw [up_self, up_at, if_neg (by omega), up_self]
      exact ⟨h.1, by omega, rfl⟩
    · unfold supT at hk
      rw [up_at, if_neg (by omega), up_at, if_neg (by omega)]
  · refine ⟨-1, σ, σ, ?_, ?_, hT, fun _ _ _ => rfl⟩
    · unfold gX10_end
      rw [x1, Option.bind_some, tv_if1, if_neg h]
    · unfold gX11_end
      rw [m1 σ t3, Option.bind_some, tv_if1, if_neg h]
theorem op_fault {σ : St} (hR : InvR σ) : ∃ r, gX10_fault σ = some r ∧ gX11_fault σ = some r := ⟨σ 0 13, rfl, by unfold gX11_fault; rw [hR.2.1.2.2]⟩
theorem op_ruleOf {σ : St} {a b : Int} (hR : InvR σ) (ha : w32 a = a) (hb : w32 b = b) : ∃ r, gX10_ruleOf σ a b = some r ∧ gX11_ruleOf σ a b = some r := by
  obtain ⟨⟨r1, r2, r3⟩, -, r4⟩ := hR
  have x1 : gX10_isRule σ a = some (tv (0 ≤ a ∧ a < σ 0 12)) := gX10_isRule_eq σ ha (w32_id (by omega))
  have m1 : gX11_isRule σ a = some (tv (0 ≤ a ∧ a < σ 0 12)) := by rw [gX11_isRule_eq σ ha (by omega), r3]
  have hbr := w32_rng b
  rw [hb] at hbr
  by_cases h : 0 ≤ a ∧ a < σ 0 12
  · obtain ⟨⟨k1, k2, k3⟩, k4, ⟨k5, k6, k7⟩, k8, ⟨k9, k10⟩⟩ := r4 a h.1 h.2
    have e1 : gX10_isEach σ b (σ (63 + 12 * a) 8) = some (tv (10 ≤ b ∧ b ≤ 9 + σ (63 + 12 * a) 8)) := by
      unfold gX10_isEach tv
      rw [hb]
      by_cases q : b < 10
      · rw [if_pos q, if_neg (by omega)]
      · rw [if_neg q, w32_id (a := b - 10) (by omega), w32_id (a := σ (63 + 12 * a) 8) (by omega)]
        repeat' split
        all_goals first | rfl | omega
    have e2 : gX11_in σ (w32 b) 10 (w32 (9 + σ 150 a)) = some (tv (10 ≤ b ∧ b ≤ 9 + σ (63 + 12 * a) 8)) := by
      rw [k3, w32_id (a := 9 + σ (63 + 12 * a) 8) (by omega)]
      exact gX11_in32 σ hb (by decide) (w64_id (by omega))
    have c1 : gX10_ruleOf σ a b = if 10 ≤ b ∧ b ≤ 9 + σ (63 + 12 * a) 8 then some (σ (64 + 12 * a) (b - 10) + 10 * σ (65 + 12 * a) (b - 10)) else if b = 0 then some (σ (63 + 12 * a) 8) else if b = 1 then some (σ (63 + 12 * a) 9) else if b = 2 then some (σ (63 + 12 * a) 10) else some (-1) := by
      unfold gX10_ruleOf
      rw [x1, Option.bind_some, tv_if1, if_pos h, ha, gd_pos (by omega), e1, Option.bind_some, tv_if0, hb]
      by_cases q : 10 ≤ b ∧ b ≤ 9 + σ (63 + 12 * a) 8
      · obtain ⟨j1, j2, j3⟩ := k4 (b - 10) (by omega) (by omega)
        rw [if_pos q, if_pos q, w32_id (a := b - 10) (by omega), gd_pos (by omega), gd_pos (by omega), show 63 + 12 * a + 2 = 65 + 12 * a by omega, show 63 + 12 * a + 1 = 64 + 12 * a by omega]
        rcases j2 with j2 | j2
        · rw [j2, if_pos (by decide)]; simp
        · rw [j2, if_neg (by decide)]; simp
      · rw [if_neg q, if_neg q]
        have k : (if w32 (σ (63 + 12 * a) 10) = 0 then some (0 : Int) else some 1) = some (σ (63 + 12 * a) 10) := by
          rcases k9 with k9 | k9
          · rw [k9, if_pos (by decide)]
          · rw [k9, if_neg (by decide)]
        rw [k]
    have c2 : gX11_ruleOf σ a b = if 10 ≤ b ∧ b ≤ 9 + σ (63 + 12 * a) 8 then some (σ (64 + 12 * a) (b - 10) + 10 * σ (65 + 12 * a) (b - 10)) else if b = 0 then some (σ (63 + 12 * a) 8) else if b = 1 then some (σ (63 + 12 * a) 9) else if b = 2 then some (σ (63 + 12 * a) 10) else some (-1) := by
      unfold gX11_ruleOf
      rw [m1, Option.bind_some, tv_if1, if_pos h, ha, gd_pos (by omega), e2, Option.bind_some, tv_if0, hb]
      by_cases q : 10 ≤ b ∧ b ≤ 9 + σ (63 + 12 * a) 8
      · obtain ⟨j1, j2, j3⟩ := k4 (b - 10) (by omega) (by omega)
        rw [if_pos q, if_pos q, w32_id (a := 6 * a + b - 10) (by omega), gd_pos (by omega), show 6 * a + b - 10 = 6 * a + (b - 10) by omega, j3]
      · rw [if_neg q, if_neg q, k3, k7, k10]
        by_cases b0 : b = 0
        · rw [if_pos b0, if_neg (by omega), gd_pos (by omega)]
        · rw [if_neg b0, if_pos b0]
          by_cases b1 : b = 1
          · rw [if_pos b1, if_neg (by omega), gd_pos (by omega)]
          · rw [if_neg b1, if_pos b1]
            by_cases b2 : b = 2
            · rw [if_pos b2, if_neg (by omega), gd_pos (by omega)]
            · rw [if_neg b2, if_pos b2]
    have c3 : ∃ r, gX10_ruleOf σ a b = some r := by
      rw [c1]
      repeat' split
      all_goals exact ⟨_, rfl⟩
    obtain ⟨r, hr⟩ := c3
    exact ⟨r, hr, by rw [c2, ← c1]; exact hr⟩
  · refine ⟨-1, ?_, ?_⟩
    · unfold gX10_ruleOf; rw [x1, Option.bind_some, tv_if1, if_neg h]
    · unfold gX11_ruleOf; rw [m1, Option.bind_some, tv_if1, if_neg h]
