-- PURE LAYER: lay, feed, end, fault, ruleOf
theorem i2b_rng (a : Int) : w32 (i2b_ a) = i2b_ a := w32_i2b a
theorem op_lay {σ : St} {a b c : Int} (hS : InvS σ) (ha : w32 a = a) (hb : w32 b = b) (hc : w32 c = c) :
    ∃ r σ1 σ2, gX10_lay σ a b c = some (r, σ1) ∧ gX11_lay σ1 a b c = some (r, σ2) ∧ InvS σ2 ∧ ∀ k j, ¬ supS k j → σ2 k j = σ k j := by
  have x1 : ∀ s, gX10_isSheet s a = some (tv (0 ≤ a ∧ a ≤ 3)) := fun s => gX10_isSheet_eq s ha
  have m1 : ∀ s, gX11_in s (w32 a) 0 3 = some (tv (0 ≤ a ∧ a ≤ 3)) := fun s => gX11_in32 s ha (by decide) (by decide)
  by_cases h1 : 0 ≤ a ∧ a ≤ 3
  · obtain ⟨⟨o1, o2⟩, ⟨o3, o4⟩, o5⟩ := hS a h1.1 (by omega)
    have hln : w32 (σ (135 + 2 * a) 1) = σ (135 + 2 * a) 1 := w32_id (by omega)
    have hsz : w32 (σ (135 + 2 * a) 2) = σ (135 + 2 * a) 2 := w32_id (by omega)
    by_cases h2 : σ (135 + 2 * a) 1 = -4
    · refine ⟨-11, σ, σ, ?_, ?_, hS, fun _ _ _ => rfl⟩
      · unfold gX10_lay gX6_isNothing
        rw [x1, Option.bind_some, tv_if1, if_pos h1, ha, gd_pos (by omega), hln, if_neg (by omega)]
        rfl
      · unfold gX11_lay
        rw [m1, Option.bind_some, tv_if1, if_pos h1, ha, gd_pos (by omega), o1, hln, if_neg (by omega)]
    · have hin : gX11_in σ (w32 b) 0 (w32 (σ 179 a - 1)) = some (tv (0 ≤ b ∧ b ≤ σ (135 + 2 * a) 2 - 1)) := by
        rw [o3, w32_id (a := σ (135 + 2 * a) 2 - 1) (by omega)]
        exact gX11_in32 σ hb (by decide) (w64_id (by omega))
      have hhas : gX6_hasCell σ (135 + 2 * a) b = some (tv (0 ≤ b ∧ b ≤ σ (135 + 2 * a) 2 - 1)) := by
        unfold gX6_hasCell tv
        rw [hb, hsz]
        repeat' split
        all_goals first | rfl | omega
      have hno : gX6_isNothing σ (135 + 2 * a) = some 0 := by
        unfold gX6_isNothing
        rw [hln, if_pos (by omega)]
      by_cases h3 : 0 ≤ b ∧ b ≤ σ (135 + 2 * a) 2 - 1
      · have key : ∃ v, w32 v = v ∧ gX6_put σ (135 + 2 * a) b c = some (up σ (135 + 2 * a + 1) b v) ∧ gX11_lay (up σ (135 + 2 * a + 1) b v) a b c = some (1, up (up σ (135 + 2 * a + 1) b v) 180 (64 * a + b) v) := by
          have e178 : ∀ v, up σ (135 + 2 * a + 1) b v 178 a = σ (135 + 2 * a) 1 := fun v => by rw [up_at, if_neg (by omega)]; exact o1
          have e179 : ∀ v, up σ (135 + 2 * a + 1) b v 179 a = σ (135 + 2 * a) 2 := fun v => by rw [up_at, if_neg (by omega)]; exact o3
          have hin2 : ∀ v, gX11_in (up σ (135 + 2 * a + 1) b v) (w32 b) 0 (w32 (up σ (135 + 2 * a + 1) b v 179 a - 1)) = some (tv (0 ≤ b ∧ b ≤ σ (135 + 2 * a) 2 - 1)) := by
            intro v
            rw [e179, w32_id (a := σ (135 + 2 * a) 2 - 1) (by omega)]
            exact gX11_in32 _ hb (by decide) (w64_id (by omega))
          have hi : w32 (64 * a + b) = 64 * a + b := w32_id (by omega)
          by_cases l0 : σ (135 + 2 * a) 1 = 0
          · refine ⟨i2b_ c, w32_i2b c, ?_, ?_⟩
            · unfold gX6_put
              rw [hln, if_neg (by omega), hb, gd_pos (by omega)]
            · unfold gX11_lay
              rw [m1, Option.bind_some, tv_if1, if_pos h1, ha, gd_pos (by omega), e178, hln, if_pos (by omega), gd_pos (by omega), hin2, Option.bind_some, tv_if1, if_pos h3, gd_pos (by omega), if_neg (by omega), hi, gd_pos (by omega), ishl_ishr24]
          · by_cases l1 : σ (135 + 2 * a) 1 = 1
            · refine ⟨i2s_ c, w32_i2s c, ?_, ?_⟩
              · unfold gX6_put
                rw [hln, if_pos (by omega), if_neg (by omega), hb, gd_pos (by omega)]
              · unfold gX11_lay
                rw [m1, Option.bind_some, tv_if1, if_pos h1, ha, gd_pos (by omega), e178, hln, if_pos (by omega), gd_pos (by omega), hin2, Option.bind_some, tv_if1, if_pos h3, gd_pos (by omega), if_pos (by omega), gd_pos (by omega), if_neg (by omega), hi, gd_pos (by omega), ishl_ishr16]
            · refine ⟨c, hc, ?_, ?_⟩
              · unfold gX6_put
                rw [hln, if_pos (by omega), if_pos (by omega), hb, gd_pos (by omega)]
              · unfold gX11_lay
                rw [m1, Option.bind_some, tv_if1, if_pos h1, ha, gd_pos (by omega), e178, hln, if_pos (by omega), gd_pos (by omega), hin2, Option.bind_some, tv_if1, if_pos h3, gd_pos (by omega), if_pos (by omega), gd_pos (by omega), if_pos (by omega), hi, gd_pos (by omega)]
        obtain ⟨v, hv, k1, k2⟩ := key
        refine ⟨1, _, _, ?_, k2, ?_, ?_⟩
        · unfold gX10_lay
          rw [x1, Option.bind_some, tv_if1, if_pos h1, ha, gd_pos (by omega), hno, Option.bind_some, if_pos (by decide), hhas, Option.bind_some, tv_if1, if_pos h3, k1]
          rfl
        · intro k hk1 hk2
          obtain ⟨q1, q2, q3⟩ := hS k hk1 hk2
          have f : ∀ q j, ¬ (q = 136 + 2 * a ∧ j = b) → ¬ (q = 180 ∧ j = 64 * a + b) → up (up σ (135 + 2 * a + 1) b v) 180 (64 * a + b) v q j = σ q j := fun q j w1 w2 => by rw [up_at, if_neg (by omega), up_at, if_neg (by omega)]
          rw [f 178 k (by omega) (by omega), f 179 k (by omega) (by omega), f (135 + 2 * k) 1 (by omega) (by omega), f (135 + 2 * k) 2 (by omega) (by omega)]
          refine ⟨q1, q2, fun i hi1 hi2 => ?_⟩
          by_cases hka : k = a ∧ i = b
          · rw [up_at, if_pos (by omega), up_at, if_neg (by omega), up_at, if_pos (by omega)]
            exact ⟨rfl, hv⟩
          · rw [f 180 _ (by omega) (by omega), f (136 + 2 * k) i (by omega) (by omega)]
            exact q3 i hi1 hi2
        · intro k j hk
          unfold supS at hk
          rw [up_at, if_neg (by omega), up_at, if_neg (by omega)]
      · refine ⟨-12, σ, σ, ?_, ?_, hS, fun _ _ _ => rfl⟩
        · unfold gX10_lay
          rw [x1, Option.bind_some, tv_if1, if_pos h1, ha, gd_pos (by omega), hno, Option.bind_some, if_pos (by decide), hhas, Option.bind_some, tv_if1, if_neg h3]
        · unfold gX11_lay
          rw [m1, Option.bind_some, tv_if1, if_pos h1, ha, gd_pos (by omega), o1, hln, if_pos (by omega), gd_pos (by omega), hin, Option.bind_some, tv_if1, if_neg h3]
  · refine ⟨-1, σ, σ, ?_, ?_, hS, fun _ _ _ => rfl⟩
    · unfold gX10_lay
      rw [x1, Option.bind_some, tv_if1, if_neg h1]
    · unfold gX11_lay
      rw [m1, Option.bind_some, tv_if1, if_neg h1]
