-- PURE LAYER: chance, worth, rank
def ChgB (σ σ2 : St) : Prop := (∀ k j, ¬ supB k j → ¬ supM k j → σ2 k j = σ k j) ∧ (σ2 = σ ∨ σ 1 7 < σ2 1 7)
theorem ChgB.rf (σ : St) : ChgB σ σ := ⟨fun _ _ _ _ => rfl, Or.inl rfl⟩
/-- one array of the board and its twin get one number, the version grows -/
def putB (σ : St) (k k2 j v : Int) : St := up (up (up σ k j v) 1 7 (σ 1 7 + 1)) k2 j v
theorem putB_at {σ : St} {k k2 j v : Int} (a b : Int) (h1 : k ≠ 1) (h2 : k2 ≠ 1) (h3 : k ≠ k2) : putB σ k k2 j v a b = if (a = k ∨ a = k2) ∧ b = j then v else if a = 1 ∧ b = 7 then σ 1 7 + 1 else σ a b := by
  unfold putB
  rw [up_at, up_at, up_at]
  by_cases q1 : a = k2 ∧ b = j
  · rw [if_pos q1, if_pos (by omega)]
  · rw [if_neg q1]
    by_cases q2 : a = 1 ∧ b = 7
    · rw [if_pos q2, if_neg (by omega), if_pos q2]
    · rw [if_neg q2]
      by_cases q3 : a = k ∧ b = j
      · rw [if_pos q3, if_pos (by omega)]
      · rw [if_neg q3, if_neg (by omega), if_neg q2]
theorem putB_chg {σ : St} {k k2 j v : Int} (h1 : 2 ≤ k ∧ k ≤ 6) (h2 : 144 ≤ k2 ∧ k2 ≤ 148) : ChgB σ (putB σ k k2 j v) := by
  refine ⟨fun a b q _ => ?_, Or.inr ?_⟩
  · unfold supB at q
    rw [putB_at a b (by omega) (by omega) (by omega), if_neg (by omega), if_neg (by omega)]
  · rw [putB_at 1 7 (by omega) (by omega) (by omega), if_neg (by omega), if_pos (by omega)]; omega
theorem putB_M {σ : St} {k k2 j v : Int} (h : InvM σ) (h1 : k = 3 ∨ k = 5 ∨ k = 6) (h2 : 144 ≤ k2 ∧ k2 ≤ 148) : InvM (putB σ k k2 j v) := by
  refine h.frame (fun a b q => ?_)
  unfold supM redM at q
  rw [putB_at a b (by omega) (by omega) (by omega), if_neg (by omega), if_neg (by omega)]
theorem putB_B {n : Nat} {σ : St} {k k2 j v : Int} (h : InvB n σ) (hk : (k = 3 ∧ k2 = 145 ∧ 0 ≤ j ∧ 0 ≤ v ∧ v ≤ 99) ∨ (k = 5 ∧ k2 = 147 ∧ 0 ≤ v ∧ v ≤ 9) ∨ (k = 6 ∧ k2 = 148 ∧ 0 ≤ v ∧ v ≤ 99 ∧ ∃ g p, j = 6 * g + p ∧ 0 ≤ g ∧ g < σ 1 6 ∧ 0 ≤ p ∧ p < σ 1 5)) : InvB (n + 1) (putB σ k k2 j v) := by
  have hk1 : k ≠ 1 := by omega
  have hk2 : k2 ≠ 1 := by omega
  have hk3 : k ≠ k2 := by omega
  obtain ⟨a1, a2, a3, ⟨c1, c2, c3, c4, c5⟩, a5, a6, a7, a8⟩ := h
  have e : ∀ a b, putB σ k k2 j v a b = if (a = k ∨ a = k2) ∧ b = j then v else if a = 1 ∧ b = 7 then σ 1 7 + 1 else σ a b := fun a b => putB_at a b hk1 hk2 hk3
  have s5 : putB σ k k2 j v 1 5 = σ 1 5 := by rw [e, if_neg (by omega), if_neg (by omega)]
  have s6 : putB σ k k2 j v 1 6 = σ 1 6 := by rw [e, if_neg (by omega), if_neg (by omega)]
  have s7 : putB σ k k2 j v 1 7 = σ 1 7 + 1 := by rw [e, if_neg (by omega), if_pos (by omega)]
  have m0 : putB σ k k2 j v 143 0 = σ 143 0 := by rw [e, if_neg (by omega), if_neg (by omega)]
  have m4 : putB σ k k2 j v 143 4 = σ 143 4 := by rw [e, if_neg (by omega), if_neg (by omega)]
  have oth : ∀ a, a ≠ k → a ≠ k2 → a ≠ 1 → putB σ k k2 j v a = σ a := fun a q1 q2 q3 => by funext b; rw [e, if_neg (by omega), if_neg (by omega)]
  have fn : ∀ a, a = k ∨ a = k2 → putB σ k k2 j v a = upf (σ a) j v := fun a q => by
    funext b
    rw [e]
    unfold upf
    by_cases w : b = j
    · rw [if_pos ⟨q, w⟩, if_pos w]
    · rw [if_neg (fun z => w z.2), if_neg w, if_neg (by omega)]
  refine ⟨by rw [s5, m0]; exact a1, by rw [s6, m4]; exact a2, by rw [s7]; omega, ?_, ?_, ?_, ?_, ?_⟩
  · rcases hk with ⟨rfl, rfl, _⟩ | ⟨rfl, rfl, _⟩ | ⟨rfl, rfl, _⟩
    · rw [oth 144 (by omega) (by omega) (by omega), oth 2 (by omega) (by omega) (by omega), fn 145 (by omega), fn 3 (by omega), oth 146 (by omega) (by omega) (by omega), oth 4 (by omega) (by omega) (by omega), oth 147 (by omega) (by omega) (by omega), oth 5 (by omega) (by omega) (by omega), oth 148 (by omega) (by omega) (by omega), oth 6 (by omega) (by omega) (by omega), c2]
      exact ⟨c1, rfl, c3, c4, c5⟩
    · rw [oth 144 (by omega) (by omega) (by omega), oth 2 (by omega) (by omega) (by omega), oth 145 (by omega) (by omega) (by omega), oth 3 (by omega) (by omega) (by omega), oth 146 (by omega) (by omega) (by omega), oth 4 (by omega) (by omega) (by omega), fn 147 (by omega), fn 5 (by omega), oth 148 (by omega) (by omega) (by omega), oth 6 (by omega) (by omega) (by omega), c4]
      exact ⟨c1, c2, c3, rfl, c5⟩
    · rw [oth 144 (by omega) (by omega) (by omega), oth 2 (by omega) (by omega) (by omega), oth 145 (by omega) (by omega) (by omega), oth 3 (by omega) (by omega) (by omega), oth 146 (by omega) (by omega) (by omega), oth 4 (by omega) (by omega) (by omega), oth 147 (by omega) (by omega) (by omega), oth 5 (by omega) (by omega) (by omega), fn 148 (by omega), fn 6 (by omega), c5]
      exact ⟨c1, c2, c3, c4, rfl⟩
  · intro p h1 h2
    rw [s5] at h2
    obtain ⟨q1, q2, q3⟩ := a5 p h1 h2
    rw [oth 2 (by omega) (by omega) (by omega), oth 4 (by omega) (by omega) (by omega)]
    refine ⟨q1, ?_, q3⟩
    by_cases w : k = 3
    · rw [fn 3 (by omega)]
      unfold upf
      split
      · omega
      · exact q2
    · rw [oth 3 (by omega) (by omega) (by omega)]; exact q2
  · intro g h1 h2
    rw [s6] at h2
    by_cases w : k = 5
    · rw [fn 5 (by omega)]
      unfold upf
      split
      · omega
      · exact a6 g h1 h2
    · rw [oth 5 (by omega) (by omega) (by omega)]; exact a6 g h1 h2
  · intro g p h1 h2 h3 h4
    rw [s5, s6]
    obtain ⟨q1, q2⟩ := a7 g p h1 h2 h3 h4
    by_cases w : k = 6
    · rw [fn 6 (by omega)]
      unfold upf
      by_cases z : 6 * g + p = j
      · rw [if_pos z]
        refine ⟨by omega, fun y => ?_⟩
        rcases hk with hk | hk | ⟨_, _, _, _, g', p', hj, u1, u2, u3, u4⟩
        · omega
        · omega
        · omega
      · rw [if_neg z]; exact ⟨q1, q2⟩
    · rw [oth 6 (by omega) (by omega) (by omega)]; exact ⟨q1, q2⟩
  · rw [s5, oth 2 (by omega) (by omega) (by omega)]; exact a8
theorem op_chance {n : Nat} {σ : St} {a b : Int} (hB : InvB n σ) (hM : InvM σ) (ha : w32 a = a) (hb : w32 b = b) :
    ∃ r σ1 σ2, gX10_chance σ a b = some (r, σ1) ∧ gX11_chance σ1 a b = some (r, σ2) ∧ InvB (n + 1) σ2 ∧ InvM σ2 ∧ ChgB σ σ2 := by
  obtain ⟨⟨p1, p2, p3⟩, ⟨g1, g2, g3⟩, v1, ⟨c1, c2, c3, c4, c5⟩, -⟩ := id hB
  have x1 : gX10_isGuest σ a = some (tv (0 ≤ a ∧ a < σ 1 6)) := gX10_isGuest_eq σ ha (w32_id (by omega))
  have x2 : gX10_isIn σ b 0 9 = some (tv (0 ≤ b ∧ b ≤ 9)) := gX10_isIn_eq σ hb (by decide) (by decide)
  have m1 : ∀ s : St, s 143 4 = σ 1 6 → gX11_isGuest s a = some (tv (0 ≤ a ∧ a < σ 1 6)) := fun s hs => by rw [gX11_isGuest_eq s ha (by omega), hs]
  have m2 : ∀ s : St, gX11_in s (w32 b) 0 9 = some (tv (0 ≤ b ∧ b ≤ 9)) := fun s => gX11_in32 s hb (by decide) (by decide)
  by_cases h1 : 0 ≤ a ∧ a < σ 1 6
  · by_cases h2 : 0 ≤ b ∧ b ≤ 9
    · let σ1 := up (up σ 5 a b) 1 7 (σ 1 7 + 1)
      have e4 : σ1 143 4 = σ 1 6 := by show up (up σ 5 a b) 1 7 _ 143 4 = _; rw [up_at, if_neg (by omega), up_at, if_neg (by omega)]; exact g3
      refine ⟨σ 5 a, σ1, putB σ 5 147 a b, ?_, ?_, putB_B hB (Or.inr (Or.inl ⟨rfl, rfl, h2.1, h2.2⟩)), putB_M hM (by omega) (by omega), putB_chg (by omega) (by omega)⟩
      · unfold gX10_chance gX0_putChance
        rw [x1, Option.bind_some, tv_if0, if_pos h1, x2, Option.bind_some, tv_if1, if_pos h2, ha, gd_pos (by omega), gd_pos (by omega), Option.bind_some]
        have e : up σ (1 + 4) a b 1 7 = σ 1 7 := by rw [up_at, if_neg (by omega)]
        rw [e]; rfl
      · unfold gX11_chance
        rw [m1 _ e4, Option.bind_some, tv_if0, if_pos h1, m2, Option.bind_some, tv_if1, if_pos h2, ha, gd_pos (by omega), gd_pos (by omega)]
        have e : σ1 147 a = σ 5 a := by show up (up σ 5 a b) 1 7 _ 147 a = _; rw [up_at, if_neg (by omega), up_at, if_neg (by omega), c4]
        rw [e]; rfl
    · refine ⟨-1, σ, σ, ?_, ?_, hB.next, hM, ChgB.rf σ⟩
      · unfold gX10_chance
        rw [x1, Option.bind_some, tv_if0, if_pos h1, x2, Option.bind_some, tv_if1, if_neg h2]
      · unfold gX11_chance
        rw [m1 σ g3, Option.bind_some, tv_if0, if_pos h1, m2, Option.bind_some, tv_if1, if_neg h2]
  · refine ⟨-1, σ, σ, ?_, ?_, hB.next, hM, ChgB.rf σ⟩
    · unfold gX10_chance
      rw [x1, Option.bind_some, tv_if0, if_neg h1]
    · unfold gX11_chance
      rw [m1 σ g3, Option.bind_some, tv_if0, if_neg h1]
theorem gX7_hasCome_eq {σ : St} {k a : Int} (ha : w32 a = a) (h : 0 ≤ a ∧ a < 9) (hs : w32 (σ (k + 4) a) = σ (k + 4) a) : gX7_hasCome σ k a = some (tv (0 < σ (k + 4) a)) := by
  unfold gX7_hasCome tv
  rw [ha, gd_pos h, hs]
  repeat' split
  all_goals first | rfl | omega
theorem op_worth {n : Nat} {σ : St} {a b c : Int} (hB : InvB n σ) (hM : InvM σ) (ha : w32 a = a) (hb : w32 b = b) (hc : w32 c = c) :
    ∃ r σ1 σ2, gX10_worth σ a b c = some (r, σ1) ∧ gX11_worth σ1 a b c = some (r, σ2) ∧ InvB (n + 1) σ2 ∧ InvM σ2 ∧ ChgB σ σ2 := by
  obtain ⟨⟨p1, p2, p3⟩, ⟨g1, g2, g3⟩, v1, ⟨c1, c2, c3, c4, c5⟩, -⟩ := id hB
  have x1 : gX10_isGuest σ a = some (tv (0 ≤ a ∧ a < σ 1 6)) := gX10_isGuest_eq σ ha (w32_id (by omega))
  have x2 : gX10_isPost σ b = some (tv (0 ≤ b ∧ b < σ 1 5)) := gX10_isPost_eq σ hb (w32_id (by omega))
  have x3 : gX10_isIn σ c 0 99 = some (tv (0 ≤ c ∧ c ≤ 99)) := gX10_isIn_eq σ hc (by decide) (by decide)
  have m1 : ∀ s : St, s 143 4 = σ 1 6 → gX11_isGuest s a = some (tv (0 ≤ a ∧ a < σ 1 6)) := fun s hs => by rw [gX11_isGuest_eq s ha (by omega), hs]
  have m2 : ∀ s : St, s 143 0 = σ 1 5 → gX11_isPost s b = some (tv (0 ≤ b ∧ b < σ 1 5)) := fun s hs => by rw [gX11_isPost_eq s hb (by omega), hs]
  have m3 : ∀ s : St, gX11_in s (w32 c) 0 99 = some (tv (0 ≤ c ∧ c ≤ 99)) := fun s => gX11_in32 s hc (by decide) (by decide)
  by_cases h1 : 0 ≤ a ∧ a < σ 1 6
  · obtain ⟨k1, k2, k3⟩ := hM.2.2.1 a h1.1 h1.2
    have ks := (hM.cur.1 a h1.1 (by omega)).2.1
    have x4 : gX7_hasCome σ 7 a = some (tv (0 < σ 11 a)) := gX7_hasCome_eq ha (by omega) (w32_id (by show _ ≤ σ 11 a ∧ σ 11 a ≤ _; omega))
    by_cases h2 : 0 ≤ b ∧ b < σ 1 5
    · by_cases h3 : 0 ≤ c ∧ c ≤ 99
      · by_cases h4 : 0 < σ 11 a
        · refine ⟨-2, σ, σ, ?_, ?_, hB.next, hM, ChgB.rf σ⟩
          · unfold gX10_worth
            rw [x1, Option.bind_some, tv_if0, if_pos h1, x2, Option.bind_some, tv_if0, if_pos h2, x3, Option.bind_some, tv_if1, if_pos h3, x4, Option.bind_some, tv_if0, if_pos h4]
          · unfold gX11_worth
            rw [m1 σ g3, Option.bind_some, tv_if0, if_pos h1, m2 σ p3, Option.bind_some, tv_if0, if_pos h2, m3, Option.bind_some, tv_if1, if_pos h3, ha, gd_pos (by omega), k1, if_pos h4, if_neg (by decide)]
        · have hi : w32 (a * 6 + b) = 6 * a + b := by rw [w32_id (by omega)]; omega
          have hi2 : w32 (6 * a + b) = 6 * a + b := w32_id (by omega)
          let σ1 := up (up σ 6 (6 * a + b) c) 1 7 (σ 1 7 + 1)
          have s1 : ∀ q j, q ≠ 6 → q ≠ 1 → σ1 q j = σ q j := fun q j q1 q2 => by show up (up σ 6 _ c) 1 7 _ q j = _; rw [up_at, if_neg (by omega), up_at, if_neg (by omega)]
          refine ⟨σ 6 (6 * a + b), σ1, putB σ 6 148 (6 * a + b) c, ?_, ?_, putB_B hB (Or.inr (Or.inr ⟨rfl, rfl, h3.1, h3.2, a, b, rfl, h1.1, h1.2, h2.1, h2.2⟩)), putB_M hM (by omega) (by omega), putB_chg (by omega) (by omega)⟩
          · unfold gX10_worth gX0_worthAt gX0_putWorth
            rw [x1, Option.bind_some, tv_if0, if_pos h1, x2, Option.bind_some, tv_if0, if_pos h2, x3, Option.bind_some, tv_if1, if_pos h3, x4, Option.bind_some, tv_if0, if_neg h4, hi, gd_pos (by omega), Option.bind_some, gd_pos (by omega), Option.bind_some]
            have e : up σ (1 + 5) (6 * a + b) c 1 7 = σ 1 7 := by rw [up_at, if_neg (by omega)]
            rw [e]; rfl
          · unfold gX11_worth
            rw [m1 σ1 (by rw [s1 143 4 (by omega) (by omega)]; exact g3), Option.bind_some, tv_if0, if_pos h1, m2 σ1 (by rw [s1 143 0 (by omega) (by omega)]; exact p3), Option.bind_some, tv_if0, if_pos h2, m3, Option.bind_some, tv_if1, if_pos h3, ha, gd_pos (by omega), s1 173 a (by omega) (by omega), k1, if_neg h4, if_pos (by decide), hi2, gd_pos (by omega), gd_pos (by omega), s1 148 _ (by omega) (by omega), c5]
            rfl
      · refine ⟨-1, σ, σ, ?_, ?_, hB.next, hM, ChgB.rf σ⟩
        · unfold gX10_worth
          rw [x1, Option.bind_some, tv_if0, if_pos h1, x2, Option.bind_some, tv_if0, if_pos h2, x3, Option.bind_some, tv_if1, if_neg h3]
        · unfold gX11_worth
          rw [m1 σ g3, Option.bind_some, tv_if0, if_pos h1, m2 σ p3, Option.bind_some, tv_if0, if_pos h2, m3, Option.bind_some, tv_if1, if_neg h3]
    · refine ⟨-1, σ, σ, ?_, ?_, hB.next, hM, ChgB.rf σ⟩
      · unfold gX10_worth
        rw [x1, Option.bind_some, tv_if0, if_pos h1, x2, Option.bind_some, tv_if0, if_neg h2]
      · unfold gX11_worth
        rw [m1 σ g3, Option.bind_some, tv_if0, if_pos h1, m2 σ p3, Option.bind_some, tv_if0, if_neg h2]
  · refine ⟨-1, σ, σ, ?_, ?_, hB.next, hM, ChgB.rf σ⟩
    · unfold gX10_worth
      rw [x1, Option.bind_some, tv_if0, if_neg h1]
    · unfold gX11_worth
      rw [m1 σ g3, Option.bind_some, tv_if0, if_neg h1]
theorem op_rank {F n : Nat} (hF : 100 ≤ F) {σ : St} {a b : Int} (hB : InvB n σ) (hM : InvM σ) (ha : w32 a = a) (hb : w32 b = b) :
    ∃ r σ1 σ2, gX10_rank σ a b = some (r, σ1) ∧ gX11_rank F σ1 a b = some (r, σ2) ∧ InvB (n + 1) σ2 ∧ InvM σ2 ∧ ChgB σ σ2 := by
  obtain ⟨⟨p1, p2, p3⟩, ⟨g1, g2, g3⟩, v1, ⟨c1, c2, c3, c4, c5⟩, -⟩ := id hB
  have x1 : gX10_isPost σ a = some (tv (0 ≤ a ∧ a < σ 1 5)) := gX10_isPost_eq σ ha (w32_id (by omega))
  have x2 : gX10_isIn σ b 0 99 = some (tv (0 ≤ b ∧ b ≤ 99)) := gX10_isIn_eq σ hb (by decide) (by decide)
  have m1 : ∀ s : St, s 143 0 = σ 1 5 → gX11_isPost s a = some (tv (0 ≤ a ∧ a < σ 1 5)) := fun s hs => by rw [gX11_isPost_eq s ha (by omega), hs]
  have m2 : ∀ s : St, gX11_in s (w32 b) 0 99 = some (tv (0 ≤ b ∧ b ≤ 99)) := fun s => gX11_in32 s hb (by decide) (by decide)
  have cr := (hM.cur.cnt_rng ⟨g1, g2⟩).2
  have ec : w32 (σ 7 10) = σ 7 10 := w32_id (by omega)
  by_cases h1 : 0 ≤ a ∧ a < σ 1 5
  · by_cases h2 : 0 ≤ b ∧ b ≤ 99
    · by_cases h3 : σ 7 10 ≤ 0
      · let σ1 := up (up σ 3 a b) 1 7 (σ 1 7 + 1)
        have s1 : ∀ q j, q ≠ 3 → q ≠ 1 → σ1 q j = σ q j := fun q j q1 q2 => by show up (up σ 3 _ b) 1 7 _ q j = _; rw [up_at, if_neg (by omega), up_at, if_neg (by omega)]
        refine ⟨σ 3 a, σ1, putB σ 3 145 a b, ?_, ?_, putB_B hB (Or.inl ⟨rfl, rfl, h1.1, h2.1, h2.2⟩), putB_M hM (by omega) (by omega), putB_chg (by omega) (by omega)⟩
        · unfold gX10_rank gX0_putRank
          rw [x1, Option.bind_some, tv_if0, if_pos h1, x2, Option.bind_some, tv_if1, if_pos h2, ec, if_pos h3, ha, gd_pos (by omega), gd_pos (by omega), Option.bind_some]
          have e : up σ (1 + 2) a b 1 7 = σ 1 7 := by rw [up_at, if_neg (by omega)]
          rw [e]; rfl
        · unfold gX11_rank
          rw [m1 σ1 (by rw [s1 143 0 (by omega) (by omega)]; exact p3), Option.bind_some, tv_if0, if_pos h1, m2, Option.bind_some, tv_if1, if_pos h2, hM.came (by omega) ⟨g1, g2⟩ (by rw [s1 143 4 (by omega) (by omega)]; exact g3) (by funext j; exact s1 173 j (by omega) (by omega)), Option.bind_some, ec, if_pos h3, ha, gd_pos (by omega), gd_pos (by omega), s1 145 a (by omega) (by omega), c2]
          rfl
      · refine ⟨-2, σ, σ, ?_, ?_, hB.next, hM, ChgB.rf σ⟩
        · unfold gX10_rank
          rw [x1, Option.bind_some, tv_if0, if_pos h1, x2, Option.bind_some, tv_if1, if_pos h2, ec, if_neg h3]
        · unfold gX11_rank
          rw [m1 σ p3, Option.bind_some, tv_if0, if_pos h1, m2, Option.bind_some, tv_if1, if_pos h2, hM.came (by omega) ⟨g1, g2⟩ g3 rfl, Option.bind_some, ec, if_neg h3]
    · refine ⟨-1, σ, σ, ?_, ?_, hB.next, hM, ChgB.rf σ⟩
      · unfold gX10_rank
        rw [x1, Option.bind_some, tv_if0, if_pos h1, x2, Option.bind_some, tv_if1, if_neg h2]
      · unfold gX11_rank
        rw [m1 σ p3, Option.bind_some, tv_if0, if_pos h1, m2, Option.bind_some, tv_if1, if_neg h2]
  · refine ⟨-1, σ, σ, ?_, ?_, hB.next, hM, ChgB.rf σ⟩
    · unfold gX10_rank
      rw [x1, Option.bind_some, tv_if0, if_neg h1]
    · unfold gX11_rank
      rw [m1 σ p3, Option.bind_some, tv_if0, if_neg h1]
