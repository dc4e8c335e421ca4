-- PURE LAYER: the tape's tokens (7): numbers, signs, all
theorem read_number {F : Nat} (hF : 300 ≤ F) {b : Int → Int} {L e : Int} {σ τ : St} (h : BF b L e σ τ) (hl : e < L ∧ 48 ≤ b e ∧ b e ≤ 57) : Done b L σ τ (gX8_readNumber F σ) (gX11_next_L170 F F τ) := by
  obtain ⟨hC, hM, ⟨z1, z2⟩, ⟨c4, c6⟩, ⟨m12, m13, m15⟩, e0, e1⟩ := id h
  have q1 := hC.1
  obtain ⟨d, d1, d2, d3, d4⟩ := stop_ex (fun x => 48 ≤ x ∧ x ≤ 57) b L (L - e).toNat e (by omega)
  have c4' : up σ 57 7 0 57 4 = e := by rw [up_slot (by omega), c4]
  have x1 := rdNum_L5 F d2 (d - e).toNat F (up σ 57 7 0) (hC.up (by omega) (by omega)) (by omega) (by omega) (by omega) (by rw [c4']; exact d3) d4
  obtain ⟨w, w1, x2⟩ := nxt_L170 F d2 (d - e).toNat F τ hM (by omega) (by omega) (by omega) (by omega) (by rw [m12]; exact d3)
  rw [c4', up_self, up_up] at x1
  rw [m13, m12, m15] at w1
  obtain ⟨n, hn⟩ : ∃ n, F - (d - e).toNat = n + 1 := ⟨F - (d - e).toNat - 1, by omega⟩
  have dr : d - e ≤ 3 → 0 ≤ w ∧ w ≤ 999 := fun q => by rw [w1 q]; exact dg_rng b (by omega) (fun j j1 j2 => d3 j j1 (by omega))
  generalize dg b (d - e).toNat e 0 = v at *
  have hC1 : TC b L (up (up σ 57 7 v) 57 4 d) := (hC.up (by omega) (by omega)).up (by omega) (by omega)
  have fC1 : frC σ (up (up σ 57 7 v) 57 4 d) := (frC.up _ (by omega)).trans (frC.up _ (by omega))
  have s4 : up (up σ 57 7 v) 57 4 d 57 4 = d := up_self _ _ _ _
  have s6 : up (up σ 57 7 v) 57 4 d 57 6 = e := by rw [up_slot (by omega), up_slot (by omega), c6]
  have s7 : up (up σ 57 7 v) 57 4 d 57 7 = v := by rw [up_slot (by omega), up_self]
  have s1 : up (up σ 57 7 v) 57 4 d 57 1 = 0 := by rw [up_slot (by omega), up_slot (by omega), z1]
  generalize up (up σ 57 7 v) 57 4 d = σ1 at *
  have hM0 : TM b L (up (up τ 143 15 w) 143 12 d) := (hM.up (by omega) (by omega)).up (by omega) (by omega)
  have fM0 : frM τ (up (up τ 143 15 w) 143 12 d) := (frM.up _ (by omega)).trans (frM.up _ (by omega))
  have t12 : up (up τ 143 15 w) 143 12 d 143 12 = d := up_self _ _ _ _
  have t13 : up (up τ 143 15 w) 143 12 d 143 13 = e := by rw [up_slot (by omega), up_slot (by omega), m13]
  have t15 : up (up τ 143 15 w) 143 12 d 143 15 = w := by rw [up_slot (by omega), up_self]
  have t10 : up (up τ 143 15 w) 143 12 d 143 10 = 0 := by rw [up_slot (by omega), up_slot (by omega), z2]
  rw [x2, hn]
  generalize up (up τ 143 15 w) 143 12 d = τ1 at *
  have nl : ¬ (48 ≤ (if d < L then b d else -4) ∧ (if d < L then b d else -4) ≤ 57) := by
    rcases d4 with d4 | d4
    · rw [if_neg (by omega)]; omega
    · by_cases u : d < L
      · rw [if_pos u]; exact d4
      · rw [if_neg u]; omega
  have rg : -4 ≤ (if d < L then b d else -4) ∧ (if d < L then b d else -4) ≤ 255 := by
    by_cases u : d < L
    · have := hC.2.1 d (by omega) (by omega)
      rw [if_pos u]; omega
    · rw [if_neg u]; omega
  rw [gX11_next_L170, t12, hM0.byte (by omega), Option.bind_some, in_eq _ rg (by omega) (by omega), Option.bind_some, w32_tv, tv_neg nl, if_pos rfl, up_slot (show (12 : Int) ≠ 14 by omega), up_slot (show (13 : Int) ≠ 14 by omega), t12, t13, w32_id (a := d - e) (by omega)]
  unfold gX8_readNumber
  rw [x1]
  unfold gX8_readNumber_L68
  rw [s4, s6, w32_id (a := d - e) (by omega), bindS, bindS]
  by_cases q : d - e ≤ 3
  · rw [if_pos q, if_pos q]
    have wv := w1 q
    have dr := dr q
    refine ⟨_, _, rfl, rfl, ⟨hC1.up (by omega) (by omega), hM0.up (by omega) (by omega), ?_, fun _ => ?_⟩, fC1.trans (frC.up _ (by omega)), fM0.trans (frM.up _ (by omega))⟩
    · unfold PF
      simp (disch := omega) only [up_self, up_slot, s1, t10]
      exact ⟨trivial, by omega, fun q => absurd rfl q⟩
    · unfold PA PT
      simp (disch := omega) only [up_self, up_slot, s4, s6, s7, t12, t13, t15]
      exact ⟨⟨by omega, by omega, trivial⟩, ⟨by omega, by omega, trivial⟩, Or.inr (Or.inr (Or.inr (Or.inr (Or.inr (Or.inr (Or.inr (Or.inl ⟨rfl, rfl, wv, by rw [← wv]; exact dr⟩)))))))⟩
  · rw [if_neg q, if_neg q]
    obtain ⟨σ', τ', g1, g2, g3, g4, g5, g6⟩ := fails_both hC1 (hM0.up (k := 143) (j := 14) (v := 2) (by omega) (by omega)) ⟨by rw [s1, up_slot (by omega), t10], by omega, fun q => absurd s1 q⟩ (x := 1) (by omega) (fun _ => ⟨by omega, by omega, by rw [up_slot (by omega), t13, s6]⟩)
    exact ⟨σ', τ', g1, g2, g3, fC1.trans g5, (fM0.trans (frM.up _ (by omega))).trans g6⟩
/-- class's reading of a sign, against the reference's store after one sign -/
theorem read_sign {b : Int → Int} {L e : Int} {σ τ : St} (h : BF b L e σ τ) (hl : e < L) :
    Done b L σ τ (gX8_readSign σ) (if b e = 43 ∨ b e = 45 ∨ b e = 44 ∨ b e = 60 ∨ b e = 62 ∨ b e = 59 then some (up (up (up τ 143 14 3) 143 15 (b e)) 143 12 (e + 1)) else gX11_fails (up (up (up τ 143 14 3) 143 15 (b e)) 143 12 (e + 1)) 1) := by
  obtain ⟨hC, hM, ⟨z1, z2⟩, ⟨c4, c6⟩, ⟨m12, m13, m15⟩, e0, e1⟩ := id h
  have q1 := hC.1
  have hb := hC.2.1 e (by omega) (by omega)
  have hM0 : TM b L (up (up (up τ 143 14 3) 143 15 (b e)) 143 12 (e + 1)) := ((hM.up (by omega) (by omega)).up (by omega) (by omega)).up (by omega) (by omega)
  have fM0 : frM τ (up (up (up τ 143 14 3) 143 15 (b e)) 143 12 (e + 1)) := ((frM.up _ (by omega)).trans (frM.up _ (by omega))).trans (frM.up _ (by omega))
  have t12 : up (up (up τ 143 14 3) 143 15 (b e)) 143 12 (e + 1) 143 12 = e + 1 := up_self _ _ _ _
  have t13 : up (up (up τ 143 14 3) 143 15 (b e)) 143 12 (e + 1) 143 13 = e := by simp (disch := omega) only [up_slot, m13]
  have t14 : up (up (up τ 143 14 3) 143 15 (b e)) 143 12 (e + 1) 143 14 = 3 := by simp (disch := omega) only [up_slot, up_self]
  have t15 : up (up (up τ 143 14 3) 143 15 (b e)) 143 12 (e + 1) 143 15 = b e := by simp (disch := omega) only [up_slot, up_self]
  have t10 : up (up (up τ 143 14 3) 143 15 (b e)) 143 12 (e + 1) 143 10 = 0 := by simp (disch := omega) only [up_slot, z2]
  generalize up (up (up τ 143 14 3) 143 15 (b e)) 143 12 (e + 1) = τ1 at *
  unfold gX8_readSign
  rw [c4, w32_id (a := e) (by omega), gd_pos (by omega), hC.2.2.2, sIx_at hb, Option.bind_some]
  have key : ∀ r : Int, 0 ≤ r → r ≤ 5 → (∀ v, tok (10 + r) v 3 (b e)) → Done b L σ τ (if w32 r ≥ 0 then some (up (up σ 57 5 (10 + r)) 57 4 ((up σ 57 5 (10 + r)) 57 4 + 1)) else (gX8_fail σ 1).bind fun r2 => some r2) (some τ1) := fun r r0 r5 rt => by
    rw [w32_id (a := r) (by omega), if_pos r0, up_slot (by omega), c4]
    refine ⟨_, _, rfl, rfl, ⟨(hC.up (by omega) (by omega)).up (by omega) (by omega), hM0, ?_, fun _ => ?_⟩, (frC.up _ (by omega)).trans (frC.up _ (by omega)), fM0⟩
    · unfold PF
      simp (disch := omega) only [up_self, up_slot, z1, t10]
      exact ⟨trivial, by omega, fun q => absurd rfl q⟩
    · unfold PA PT
      simp (disch := omega) only [up_self, up_slot, c6, t12, t13, t14, t15]
      exact ⟨⟨by omega, by omega, trivial⟩, ⟨by omega, by omega, trivial⟩, rt _⟩
  by_cases k1 : b e = 43
  · rw [if_pos k1, if_pos (show b e = 43 ∨ b e = 45 ∨ b e = 44 ∨ b e = 60 ∨ b e = 62 ∨ b e = 59 by omega)]; exact key 0 (by omega) (by omega) (fun _ => Or.inr (Or.inl ⟨rfl, rfl, k1⟩))
  by_cases k2 : b e = 45
  · rw [if_neg k1, if_pos k2, if_pos (show b e = 43 ∨ b e = 45 ∨ b e = 44 ∨ b e = 60 ∨ b e = 62 ∨ b e = 59 by omega)]; exact key 1 (by omega) (by omega) (fun _ => Or.inr (Or.inr (Or.inl ⟨rfl, rfl, k2⟩)))
  by_cases k3 : b e = 44
  · rw [if_neg k1, if_neg k2, if_pos k3, if_pos (show b e = 43 ∨ b e = 45 ∨ b e = 44 ∨ b e = 60 ∨ b e = 62 ∨ b e = 59 by omega)]; exact key 2 (by omega) (by omega) (fun _ => Or.inr (Or.inr (Or.inr (Or.inl ⟨rfl, rfl, k3⟩))))
  by_cases k4 : b e = 60
  · rw [if_neg k1, if_neg k2, if_neg k3, if_pos k4, if_pos (show b e = 43 ∨ b e = 45 ∨ b e = 44 ∨ b e = 60 ∨ b e = 62 ∨ b e = 59 by omega)]; exact key 3 (by omega) (by omega) (fun _ => Or.inr (Or.inr (Or.inr (Or.inr (Or.inl ⟨rfl, rfl, k4⟩)))))
  by_cases k5 : b e = 62
  · rw [if_neg k1, if_neg k2, if_neg k3, if_neg k4, if_pos k5, if_pos (show b e = 43 ∨ b e = 45 ∨ b e = 44 ∨ b e = 60 ∨ b e = 62 ∨ b e = 59 by omega)]; exact key 4 (by omega) (by omega) (fun _ => Or.inr (Or.inr (Or.inr (Or.inr (Or.inr (Or.inl ⟨rfl, rfl, k5⟩))))))
  by_cases k6 : b e = 59
  · rw [if_neg k1, if_neg k2, if_neg k3, if_neg k4, if_neg k5, if_pos k6, if_pos (show b e = 43 ∨ b e = 45 ∨ b e = 44 ∨ b e = 60 ∨ b e = 62 ∨ b e = 59 by omega)]; exact key 5 (by omega) (by omega) (fun _ => Or.inr (Or.inr (Or.inr (Or.inr (Or.inr (Or.inr (Or.inl ⟨rfl, rfl, k6⟩)))))))
  rw [if_neg k1, if_neg k2, if_neg k3, if_neg k4, if_neg k5, if_neg k6, if_neg (show ¬ (b e = 43 ∨ b e = 45 ∨ b e = 44 ∨ b e = 60 ∨ b e = 62 ∨ b e = 59) by omega), show w32 (-1) = -1 by decide, if_neg (by omega), bindS]
  obtain ⟨σ', τ', g1, g2, g3, g4, g5, g6⟩ := fails_both hC hM0 ⟨by rw [z1, t10], by omega, fun q => absurd z1 q⟩ (x := 1) (by omega) (fun _ => ⟨by omega, by omega, by rw [t13, c6]⟩)
  exact ⟨σ', τ', g1, g2, g3, g5, fM0.trans g6⟩
