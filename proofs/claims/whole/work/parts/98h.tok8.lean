-- PURE LAYER: the tape's tokens (8): advance and next
theorem adv_next {F : Nat} (hF : 300 ≤ F) {b : Int → Int} {L : Int} {σ τ : St} (hC : TC b L σ) (hM : TM b L τ) (hP : PF σ τ) (hA : σ 57 1 = 0 → PA L σ τ) : Done b L σ τ (gX8_advance F σ) (gX11_next F τ) := by
  have q1 := hC.1
  obtain ⟨f1, f2, f3⟩ := id hP
  unfold gX8_advance gX11_next
  rw [← f1, w32_id (a := σ 57 1) (by omega)]
  by_cases z : σ 57 1 = 0
  · obtain ⟨a1, a2, a3⟩ := hA z
    rw [if_pos z, if_pos (by omega)]
    obtain ⟨e, e1, e2, e3, e4⟩ := stop_ex (fun x => x = 32) b L (L - σ 57 4).toNat (σ 57 4) (by omega)
    have x1 := adv_L8 F e2 (e - σ 57 4).toNat F σ hC a1 (by omega) (by omega) e3 e4
    have x2 := nxt_L8 F e2 (e - σ 57 4).toNat F τ hM (by omega) (by omega) (by omega) (by rw [a3]; exact e3)
    obtain ⟨n, hn⟩ : ∃ n, F - (e - σ 57 4).toNat = n + 1 := ⟨F - (e - σ 57 4).toNat - 1, by omega⟩
    rw [x1, x2, hn]
    have B : BF b L e (up (up σ 57 4 e) 57 6 e) (up (up (up τ 143 12 e) 143 13 e) 143 15 0) := by
      refine ⟨(hC.up (by omega) (by omega)).up (by omega) (by omega), ((hM.up (by omega) (by omega)).up (by omega) (by omega)).up (by omega) (by omega), ⟨?_, ?_⟩, ⟨?_, ?_⟩, ⟨?_, ?_, ?_⟩, by omega, e2⟩
      all_goals simp (disch := omega) only [up_self, up_slot]
      · exact z
      · rw [← f1]; exact z
    have fC : frC σ (up (up σ 57 4 e) 57 6 e) := (frC.up _ (by omega)).trans (frC.up _ (by omega))
    have fM : frM τ (up (up (up τ 143 12 e) 143 13 e) 143 15 0) := ((frM.up _ (by omega)).trans (frM.up _ (by omega))).trans (frM.up _ (by omega))
    have fin : ∀ x y, Done b L (up (up σ 57 4 e) 57 6 e) (up (up (up τ 143 12 e) 143 13 e) 143 15 0) x y → Done b L σ τ x y := fun x y ⟨s, t, d1, d2, d3, d4, d5⟩ => ⟨s, t, d1, d2, d3, fC.trans d4, fM.trans d5⟩
    have rg : -4 ≤ (if e < L then b e else -4) ∧ (if e < L then b e else -4) ≤ 255 := by
      by_cases u : e < L
      · have := hC.2.1 e (by omega) (by omega)
        rw [if_pos u]; omega
      · rw [if_neg u]; omega
    have ns : (if e < L then b e else -4) ≠ 32 := by
      by_cases u : e < L
      · rw [if_pos u]
        rcases e4 with e4 | e4
        · omega
        · exact e4
      · rw [if_neg u]; omega
    have hM1 : TM b L (up τ 143 12 e) := hM.up (by omega) (by omega)
    unfold gX8_advance_L46
    rw [gX11_next_L8]
    simp only [up_self]
    rw [hM1.byte (by omega), (hM1.up (k := 143) (j := 13) (v := e) (by omega) (by omega)).byte (x := up (up τ 143 12 e) 143 13 e 143 12) (by rw [up_slot (by omega), up_self]; omega), up_slot (show (12 : Int) ≠ 13 by omega), up_self, Option.bind_some, Option.bind_some]
    generalize hx : (if e < L then b e else -4) = x at *
    rw [w32_id (a := x) (by omega), if_pos ns]
    have cB := B.1.2.2.1
    have c58 := B.1.2.2.2
    have c4 := B.2.2.2.1.1
    generalize hσ : up (up σ 57 4 e) 57 6 e = σ0 at *
    generalize hτ : up (up (up τ 143 12 e) 143 13 e) 143 15 0 = τ0 at *
    have c4' : τ0 143 12 = e := B.2.2.2.2.1.1
    rw [c4, cB, c58, w32_id (a := e) (by omega), w32_id (a := L) (by omega)]
    apply fin
    by_cases u : e < L
    · rw [if_pos u] at hx
      subst hx
      have hb := hC.2.1 e (by omega) (by omega)
      rw [if_pos u, gd_pos (by omega), isLetter_eq σ0 hb, if_pos (show b e ≠ -4 by omega), gX11_in_eq τ0 (w64_id (by omega)) (w64_id (by omega)) (w64_id (by omega)), Option.bind_some, Option.bind_some, w32_tv]
      by_cases l : 97 ≤ b e ∧ b e ≤ 122
      · rw [tv_pos l, if_neg (by decide), if_neg (by decide), bindS]
        exact read_name hF B ⟨u, l⟩
      · rw [tv_neg l, if_pos rfl, if_pos rfl, gd_pos (by omega), isFigure_eq σ0 hb, gX11_in_eq τ0 (w64_id (by omega)) (w64_id (by omega)) (w64_id (by omega)), Option.bind_some, Option.bind_some, w32_tv]
        by_cases f : 48 ≤ b e ∧ b e ≤ 57
        · rw [tv_pos f, if_neg (by decide), if_neg (by decide), bindS]
          exact read_number hF B ⟨u, f⟩
        · rw [tv_neg f, if_pos rfl, if_pos rfl, bindS, bindS]
          have rs := read_sign B u
          have t12 : up (up τ0 143 14 3) 143 15 (b e) 143 12 = e := by rw [up_slot (by omega), up_slot (by omega), c4']
          rw [t12]
          have same : ∀ X Y : Option St, (if b e = 43 then X else if b e = 45 then X else if b e = 44 then X else if b e = 60 then X else if b e = 62 then X else if b e = 59 then X else Y) = if b e = 43 ∨ b e = 45 ∨ b e = 44 ∨ b e = 60 ∨ b e = 62 ∨ b e = 59 then X else Y := fun X Y => by
            repeat' split
            all_goals first | rfl | omega
          rw [same]
          exact rs
    · rw [if_neg u] at hx
      subst hx
      rw [if_neg u, if_neg (fun w => w rfl)]
      obtain ⟨hC0, hM0, ⟨z1, z2⟩, ⟨c4, c6⟩, ⟨m12, m13, m15⟩, e0, e1⟩ := id B
      refine ⟨_, _, rfl, rfl, ⟨hC0.up (by omega) (by omega), hM0.up (by omega) (by omega), ?_, fun _ => ?_⟩, frC.up _ (by omega), frM.up _ (by omega)⟩
      · unfold PF
        simp (disch := omega) only [up_self, up_slot, z1, z2]
        exact ⟨trivial, by omega, fun q => absurd rfl q⟩
      · unfold PA PT
        simp (disch := omega) only [up_self, up_slot, c4, c6, m12, m13, m15]
        exact ⟨⟨by omega, by omega, trivial⟩, ⟨by omega, by omega, trivial⟩, Or.inr (Or.inr (Or.inr (Or.inr (Or.inr (Or.inr (Or.inr (Or.inr ⟨rfl, rfl, rfl⟩)))))))⟩
  · rw [if_neg z, if_neg (by omega)]
    exact ⟨σ, τ, rfl, rfl, ⟨hC, hM, hP, fun w => absurd w z⟩, frC.refl σ, frM.refl τ⟩
