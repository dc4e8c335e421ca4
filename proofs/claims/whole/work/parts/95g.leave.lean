-- PURE LAYER: leave, market
def goS (σ : St) (k g p : Int) : St := noteS (up (up σ (k + 3) g (-4)) (k + 1) p (σ (k + 1) p - 1)) k g p 0 (-4) 1
theorem goAway_eq {σ : St} {k g : Int} (ha : 0 ≤ σ k 12 ∧ σ k 12 < 18) (hg : 0 ≤ g ∧ g < 9) (hp : 0 ≤ σ (k + 3) g ∧ σ (k + 3) g < 6) : gX7_goAway σ k g = some (σ (k + 3) g, goS σ k g (σ (k + 3) g)) := by
  have e1 : up σ (k + 3) g (-4) (k + 1) (σ (k + 3) g) = σ (k + 1) (σ (k + 3) g) := by rw [up_at, if_neg (by omega)]
  have e2 : up (up σ (k + 3) g (-4)) (k + 1) (σ (k + 3) g) (σ (k + 1) (σ (k + 3) g) - 1) k 12 = σ k 12 := by rw [up_at, if_neg (by omega), up_at, if_neg (by omega)]
  unfold gX7_goAway goS
  rw [w32_id (a := g) (by omega), gd_pos (by omega), gd_pos (by omega), w32_id (a := σ (k + 3) g) (by omega), gd_pos (by omega), gd_pos (by omega), e1, note_eq (by rw [e2]; exact ha) (Or.inr rfl), Option.bind_some]
theorem goS_at (σ : St) (k g p a b : Int) : goS σ k g p a b = if a = k ∧ b = 12 then σ k 12 + 1 else if a = k + 9 ∧ b = σ k 12 then 1 else if a = k + 8 ∧ b = σ k 12 then -4 else if a = k + 7 ∧ b = σ k 12 then 0 else if a = k + 6 ∧ b = σ k 12 then p else if a = k + 5 ∧ b = σ k 12 then g else if a = k + 1 ∧ b = p then σ (k + 1) p - 1 else if a = k + 3 ∧ b = g then -4 else σ a b := by
  have e2 : up (up σ (k + 3) g (-4)) (k + 1) p (σ (k + 1) p - 1) k 12 = σ k 12 := by rw [up_at, if_neg (by omega), up_at, if_neg (by omega)]
  unfold goS
  rw [noteS_at, e2, up_at, up_at]
theorem op_leave {F n : Nat} (hF : 100 ≤ F) {σ : St} {a : Int} (hB : InvB n σ) (hM : InvM σ) (ha : w32 a = a) :
    ∃ r σ1 σ2, gX10_leave σ a = some (r, σ1) ∧ gX11_leave F σ1 a = some (r, σ2) ∧ InvM σ2 ∧ OnlyM σ σ2 := by
  obtain ⟨⟨p1, p2, p3⟩, ⟨g1, g2, g3⟩, -⟩ := id hB
  obtain ⟨m1, m4, m5, m6, -⟩ := id hM
  obtain ⟨c1, c2, c3, c4⟩ := hM.cur
  unfold gX10_leave
  rw [gX10_isGuest_eq σ ha (w32_id (by omega)), Option.bind_some, tv_if1]
  by_cases q1 : 0 ≤ a ∧ a < σ 1 6
  · obtain ⟨d1, d2, d3, d4⟩ := c1 a q1.1 (by omega)
    have e10 : σ (7 + 3) a = σ 10 a := rfl
    have mm : ∀ s : St, s 143 4 = σ 1 6 → s 174 a = σ 10 a → gX11_leave F s a = if σ 10 a ≠ -4 then (gX11_record F s).bind fun r2 => some (σ 10 a, up r2 174 a (-4)) else some (-2, s) := by
      intro s h1 h2
      have g9 : 0 ≤ a ∧ a < 9 := by omega
      unfold gX11_leave
      simp only [ha, gd_pos g9]
      rw [gX11_isGuest_eq s ha (by omega), Option.bind_some, tv_if1, h1, if_pos q1, h2, w32_id (a := σ 10 a) (by omega)]
    rw [if_pos q1, ha, gd_pos (by omega), e10, w32_id (a := σ 10 a) (by omega)]
    by_cases q2 : σ 10 a = -4
    · refine ⟨-2, σ, σ, by rw [if_neg (fun z => z q2)], ?_, hM, fun _ _ _ _ => rfl⟩
      rw [mm σ g3 (m5 a q1.1 q1.2).2.1, if_neg (fun z => z q2)]
    · have lt := sumN_lt (f := fun x => if 0 < σ 11 x then (if σ 10 x = -4 then (2 : Int) else 1) else 0) (f' := fun x => if 0 < σ 11 x then (if upf (σ 10) a (-4) x = -4 then (2 : Int) else 1) else 0) (g := a) 9 0 q1.1 (by omega) (fun x y1 y2 => by
        show (if 0 < σ 11 x then (if σ 10 x = -4 then (2 : Int) else 1) else 0) ≤ (if 0 < σ 11 x then (if upf (σ 10) a (-4) x = -4 then (2 : Int) else 1) else 0)
        unfold upf
        repeat' split
        all_goals omega) (by
        show (if 0 < σ 11 a then (if σ 10 a = -4 then (2 : Int) else 1) else 0) + 1 ≤ (if 0 < σ 11 a then (if upf (σ 10) a (-4) a = -4 then (2 : Int) else 1) else 0)
        rw [upf_self, if_pos (d3 q2), if_neg q2, if_pos (d3 q2), if_pos rfl]; omega)
      have rg := (sumN_rng (f := fun x => if 0 < σ 11 x then (if upf (σ 10) a (-4) x = -4 then (2 : Int) else 1) else 0) (lo := 0) (hi := 2) 9 0 (fun j _ _ => by
        show 0 ≤ (if 0 < σ 11 j then (if upf (σ 10) a (-4) j = -4 then (2 : Int) else 1) else 0) ∧ (if 0 < σ 11 j then (if upf (σ 10) a (-4) j = -4 then (2 : Int) else 1) else 0) ≤ 2
        repeat' split
        all_goals omega)).2
      have hw : σ 7 12 + 1 ≤ wgtN (upf (σ 10) a (-4)) (σ 11) := by
        unfold wgtN at c4 ⊢
        omega
      have hA : 0 ≤ σ 7 12 ∧ σ 7 12 < 18 := by
        unfold wgtN at hw
        omega
      have go := goAway_eq (σ := σ) (k := 7) (g := a) hA (by omega) (show 0 ≤ σ 10 a ∧ σ 10 a < 6 by omega)
      rw [e10] at go
      generalize hp : σ 10 a = p at *
      have eo : ∀ c, ¬ (7 ≤ c ∧ c ≤ 16) → goS σ 7 a p c = σ c := fun c q => by
        funext y
        rw [goS_at, if_neg (by omega), if_neg (by omega), if_neg (by omega), if_neg (by omega), if_neg (by omega), if_neg (by omega), if_neg (by omega), if_neg (by omega)]
      obtain ⟨s3, r1, r2, r3, r4⟩ := record_eq hF (s := goS σ 7 a p) (σ := σ) (A := σ 7 12) (by omega) (by rw [eo 143 (by omega)]; exact m1.2.2) (eo 173 (by omega)) (eo 174 (by omega)) (eo 175 (by omega)) (eo 176 (by omega)) (by rw [eo 143 (by omega)]; exact m4) (by rw [eo 143 (by omega)]; exact g3)
      have k1 : ∀ c, 7 ≤ c → c ≤ 16 → up s3 174 a (-4) c = goS σ 7 a p c := fun c y1 y2 => by funext y; rw [up_at, if_neg (by omega), r4 c y (by omega) (by omega)]
      have ko : ∀ c y, ¬ (7 ≤ c ∧ c ≤ 16) → ¬ (c = 174 ∧ y = a) → ¬ (c = 143 ∧ y = 54) → ¬ (c = 177 ∧ 40 * σ 7 12 ≤ y) → up s3 174 a (-4) c y = σ c y := fun c y y1 y2 y3 y4 => by rw [up_at, if_neg (by omega), r4 c y y3 y4, eo c y1]
      have f10 : goS σ 7 a p 10 = upf (σ 10) a (-4) := by
        funext y
        unfold upf
        rw [goS_at, if_neg (by omega), if_neg (by omega), if_neg (by omega), if_neg (by omega), if_neg (by omega), if_neg (by omega), if_neg (by omega)]
        by_cases w : y = a
        · rw [if_pos ⟨rfl, w⟩, if_pos w]
        · rw [if_neg (by omega), if_neg w]
      have f11 : goS σ 7 a p 11 = σ 11 := by
        funext y
        rw [goS_at, if_neg (by omega), if_neg (by omega), if_neg (by omega), if_neg (by omega), if_neg (by omega), if_neg (by omega), if_neg (by omega), if_neg (by omega)]
      have f9 : goS σ 7 a p 9 = σ 9 := by
        funext y
        rw [goS_at, if_neg (by omega), if_neg (by omega), if_neg (by omega), if_neg (by omega), if_neg (by omega), if_neg (by omega), if_neg (by omega), if_neg (by omega)]
      have f710 : goS σ 7 a p 7 10 = σ 7 10 := by rw [goS_at, if_neg (by omega), if_neg (by omega), if_neg (by omega), if_neg (by omega), if_neg (by omega), if_neg (by omega), if_neg (by omega), if_neg (by omega)]
      have ecn : ∀ q, 0 ≤ q → cntN (upf (σ 10) a (-4)) q = cntN (σ 10) q - (if p = q then 1 else 0) := fun q hq => by
        rw [cntN_upf _ _ _ (by omega), if_neg (show ¬ (-4 : Int) = q by omega), hp]; omega
      refine ⟨p, goS σ 7 a p, up s3 174 a (-4), ?_, ?_, ?_, ?_⟩
      · rw [if_pos q2, go, Option.bind_some]
      · rw [mm _ (by rw [eo 143 (by omega)]; exact g3) (by rw [eo 174 (by omega), (m5 a q1.1 q1.2).2.1]; exact hp), if_pos q2, r1, Option.bind_some]
      · refine hM.push ⟨g1, g2⟩ (g := a) (p := p) (pays := 0) (out := -4) (goes := 1) q1.2 (ko 1 5 (by omega) (by omega) (by omega) (by omega)) (ko 1 6 (by omega) (by omega) (by omega) (by omega)) (by funext y; exact ko 2 y (by omega) (by omega) (by omega) (by omega)) (by funext y; exact ko 4 y (by omega) (by omega) (by omega) (by omega)) ?_ ?_ ?_ (fun x y1 y2 => ?_) (fun q y1 y2 => ?_) ?_ ?_ ?_ ?_ ?_ ?_
        · rw [k1 7 (by omega) (by omega), goS_at, if_pos ⟨rfl, rfl⟩]
        · rw [up_at, if_neg (by omega), r2]
        · rw [ko 143 53 (by omega) (by omega) (by omega) (by omega), k1 7 (by omega) (by omega), f710, m4]
        · rw [ko 173 x (by omega) (by omega) (by omega) (by omega), ko 175 x (by omega) (by omega) (by omega) (by omega), k1 10 (by omega) (by omega), k1 11 (by omega) (by omega), f10, f11]
          refine ⟨(m5 x y1 y2).1, ?_, (m5 x y1 y2).2.2⟩
          unfold upf
          rw [up_at]
          by_cases w : x = a
          · rw [if_pos ⟨rfl, w⟩, if_pos w]
          · rw [if_neg (by omega), if_neg w, r4 174 x (by omega) (by omega), eo 174 (by omega)]; exact (m5 x y1 y2).2.1
        · rw [ko 176 q (by omega) (by omega) (by omega) (by omega), k1 8 (by omega) (by omega), k1 9 (by omega) (by omega), k1 10 (by omega) (by omega), f9, f10, ecn q y1]
          refine ⟨(m6 q y1 y2).1, ?_⟩
          have m8 := (m6 q y1 y2).2
          rw [goS_at, if_neg (by omega), if_neg (by omega), if_neg (by omega), if_neg (by omega), if_neg (by omega), if_neg (by omega)]
          by_cases w : q = p
          · rw [if_pos ⟨rfl, w⟩, if_pos w.symm, ← w]
            show σ 8 q - 1 = _
            omega
          · rw [if_neg (fun z => w z.2), if_neg (by omega), if_neg (fun z => w z.symm)]
            omega
        · intro j y1 y2
          rw [up_at, if_neg (by omega), r3 j y1 y2]
        · intro j y1 y2
          exact ko 177 j (by omega) (by omega) (by omega) (by omega)
        · rw [k1 12 (by omega) (by omega), k1 13 (by omega) (by omega), k1 14 (by omega) (by omega), k1 15 (by omega) (by omega), k1 16 (by omega) (by omega)]
          refine ⟨?_, ?_, ?_, ?_, ?_⟩
          · rw [goS_at, if_neg (by omega), if_neg (by omega), if_neg (by omega), if_neg (by omega), if_neg (by omega), if_pos (by omega)]
          · rw [goS_at, if_neg (by omega), if_neg (by omega), if_neg (by omega), if_neg (by omega), if_pos (by omega)]
          · rw [goS_at, if_neg (by omega), if_neg (by omega), if_neg (by omega), if_pos (by omega)]
          · rw [goS_at, if_neg (by omega), if_neg (by omega), if_pos (by omega)]
          · rw [goS_at, if_neg (by omega), if_pos (by omega)]
        · intro c y1 y2 i y3 y4
          rw [k1 c (by omega) (by omega), goS_at, if_neg (by omega), if_neg (by omega), if_neg (by omega), if_neg (by omega), if_neg (by omega), if_neg (by omega), if_neg (by omega), if_neg (by omega)]
        · rw [k1 7 (by omega) (by omega), k1 9 (by omega) (by omega), k1 10 (by omega) (by omega), k1 11 (by omega) (by omega), f9, f10, f11, f710]
          refine ⟨fun x y1 y2 => ?_, c2, fun q y1 y2 => ?_, hw⟩
          · obtain ⟨h1, h2, h3, h4⟩ := c1 x y1 y2
            unfold upf
            by_cases w : x = a
            · rw [if_pos w]
              exact ⟨Or.inl rfl, h2, fun z => absurd rfl z, fun z => ⟨rfl, (h4 z).2⟩⟩
            · rw [if_neg w]
              exact ⟨h1, h2, h3, h4⟩
          · obtain ⟨h1, h2, h3⟩ := c3 q y1 y2
            refine ⟨h1, fun z => ⟨(h2 z).1, ?_⟩, h3⟩
            have := (h2 z).2
            rw [ecn q y1]
            split <;> omega
        · rw [k1 7 (by omega) (by omega), k1 9 (by omega) (by omega), k1 10 (by omega) (by omega), k1 11 (by omega) (by omega), f9, f10, f11, f710]
          exact ⟨by omega, Or.inl ⟨rfl, by omega, by omega, hp, fun x _ _ => rfl, fun x _ _ => rfl, fun q _ _ => rfl, rfl⟩⟩
      · intro c y y1 y2
        unfold supM at y1
        unfold scr at y2
        by_cases w : c = 7
        · subst w
          rw [k1 7 (by omega) (by omega), goS_at, if_neg (by omega), if_neg (by omega), if_neg (by omega), if_neg (by omega), if_neg (by omega), if_neg (by omega), if_neg (by omega), if_neg (by omega)]
        · exact ko c y (by omega) (by omega) (by omega) (by omega)
  · refine ⟨-1, σ, σ, by rw [if_neg q1], ?_, hM, fun _ _ _ _ => rfl⟩
    unfold gX11_leave
    rw [gX11_isGuest_eq σ ha (by omega), Option.bind_some, tv_if1, g3, if_neg q1]
