-- PURE LAYER: the plan as it is kept
def plR (σ : St) (b : Int) : Int × (Int → Int) := btI (σ 2) (σ 6) (σ 1 5).toNat (σ 1 6).toNat b.toNat 9 0 (stI (σ 2) (σ 1 5).toNat - 1) 0 (fun _ => 0)
def PlanOK (σ : St) : Prop := -1 ≤ σ 43 4 ∧ σ 43 4 ≤ σ 1 7 ∧ (σ 43 4 = σ 1 7 → (1 ≤ σ 43 5 ∧ σ 43 5 ≤ 9) ∧ σ 43 1 = (plR σ (σ 43 5)).1 ∧ ∀ x, 0 ≤ x → x < σ 1 6 → σ 44 x = (plR σ (σ 43 5)).2 x)
def supP (a b : Int) : Prop := (a = 43 ∧ (b = 1 ∨ b = 4 ∨ b = 5)) ∨ a = 44
/-- what the plan speaks of is as it was -/
theorem PlanOK.frame {σ σ' : St} (h : PlanOK σ) (hs : ∀ a b, supP a b ∨ supB a b → σ' a b = σ a b) : PlanOK σ' := by
  have c : ∀ a, a = 2 ∨ a = 6 → σ' a = σ a := fun a q => by funext b; exact hs a b (by unfold supB; omega)
  have c44 : σ' 44 = σ 44 := by funext b; exact hs 44 b (by unfold supP; omega)
  have e : plR σ' = plR σ := by
    funext b
    unfold plR
    rw [c 2 (by omega), c 6 (by omega), hs 1 5 (by unfold supB; omega), hs 1 6 (by unfold supB; omega)]
  unfold PlanOK at h ⊢
  rw [e, c44, hs 43 1 (by unfold supP; omega), hs 43 4 (by unfold supP; omega), hs 43 5 (by unfold supP; omega), hs 1 6 (by unfold supB; omega), hs 1 7 (by unfold supB; omega)]
  exact h
theorem InvB.caps {n : Nat} {σ : St} (h : InvB n σ) : CapOK (σ 2) (σ 1 5).toNat ∧ (σ 1 5).toNat ≤ 6 ∧ stI (σ 2) (σ 1 5).toNat ≤ 324 ∧ WOK (σ 6) := by
  obtain ⟨⟨p1, p2, p3⟩, ⟨g1, g2, g3⟩, v1, ⟨c1, c2, c3, c4, c5⟩, b5, b6, b7, b8⟩ := id h
  have hc : CapOK (σ 2) (σ 1 5).toNat := fun p hp => by
    have := (b5 p (by omega) (by omega)).1
    omega
  exact ⟨hc, by omega, (stI_486 hc (by omega) (by omega)).2 b8, fun j q1 q2 => h.worth j q1 q2⟩
theorem makeNew {F n : Nat} (hF : 1000 ≤ F) {σ : St} {b : Int} (hB : InvB n σ) (hb : 1 ≤ b ∧ b ≤ 9) : ∃ σ', gX3_make_L19 F 1 b σ = some σ' ∧ σ' 43 4 = σ 1 7 ∧ σ' 43 5 = b ∧ σ' 43 1 = (plR σ b).1 ∧ (∀ x, 0 ≤ x → x < σ 1 6 → σ' 44 x = (plR σ b).2 x) ∧ ∀ a y, ¬ supP a y → ¬ (45 ≤ a ∧ a ≤ 49) → σ' a y = σ a y := by
  obtain ⟨⟨p1, p2, p3⟩, ⟨g1, g2, g3⟩, -⟩ := id hB
  obtain ⟨hc, hP, h324, hw⟩ := hB.caps
  obtain ⟨bn, hbn⟩ : ∃ bn : Nat, b = (bn : Int) := ⟨b.toNat, by omega⟩
  have pos := stI_pos hc (σ 1 5).toNat (Nat.le_refl _)
  have t : ∀ a y, up (up (up σ 43 4 (σ 1 7)) 43 5 b) 43 1 0 a y = if a = 43 ∧ y = 1 then 0 else if a = 43 ∧ y = 5 then b else if a = 43 ∧ y = 4 then σ 1 7 else σ a y := fun a y => rfl
  have tc : ∀ a, a ≠ 43 → up (up (up σ 43 4 (σ 1 7)) 43 5 b) 43 1 0 a = σ a := fun a q => by funext y; rw [t, if_neg (by omega), if_neg (by omega), if_neg (by omega)]
  obtain ⟨σ1, a1, a2, a3⟩ := shape_eq (F := F) hF (σ := up (up (up σ 43 4 (σ 1 7)) 43 5 b) 43 1 0) (k := 45) (x1 := 1) (x2 := -4) hc hP (by omega) (Or.inl rfl) (by omega) (by rw [tc 1 (by omega)]; omega) (fun q hq => by rw [tc (1 + 1) (by omega), if_neg (by omega), Int.add_zero]; rfl)
  have ac : ∀ a, a ≠ 43 → ¬ (45 ≤ a ∧ a ≤ 48) → σ1 a = σ a := fun a q1 q2 => by funext y; rw [a3 a y (by omega) (by omega), tc a q1]
  obtain ⟨σ', d1, d2, d3, d4⟩ := make_64 (F := F) hF (x1 := 1) (b := bn) (G := (σ 1 6).toNat) hc hP (by omega) hw (Or.inl rfl) (by omega) (by omega) 9 F 0 (stI (σ 2) (σ 1 5).toNat - 1) σ1 (by omega) (by omega) (by omega) (by omega) a2 (by rw [ac 1 (by omega) (by omega)]; omega) (by rw [ac 1 (by omega) (by omega)]; omega) (by rw [ac (1 + 5) (by omega) (by omega)]; rfl) (by omega)
  have s431 : σ1 43 1 = 0 := by rw [a3 43 1 (by omega) (by omega), t, if_pos ⟨rfl, rfl⟩]
  rw [s431] at d2 d3
  have ind := btI_ind (c := σ 2) (w := σ 6) (P := (σ 1 5).toNat) (G := (σ 1 6).toNat) (b := bn) (by omega) 9 0 (stI (σ 2) (σ 1 5).toNat - 1) 0 (σ1 44) (fun _ => 0) (by omega) (fun x y1 y2 => by omega)
  have eb : b.toNat = bn := by omega
  refine ⟨σ', ?_, ?_, ?_, ?_, fun x y1 y2 => ?_, fun a y y1 y2 => ?_⟩
  · unfold gX3_make_L19
    rw [w32_id (a := b) (by omega), if_pos (by omega), a1, Option.bind_some]
    show ((some (σ1 45 3 - 1)).bind fun r2 => gX3_make_L64 F 1 b F r2 0 σ1) = _
    rw [Option.bind_some, a2.2.1, hbn]
    exact d1
  · rw [d4 43 4 (by omega) (by omega) (by omega), a3 43 4 (by omega) (by omega), t, if_neg (by omega), if_neg (by omega), if_pos ⟨rfl, rfl⟩]
  · rw [d4 43 5 (by omega) (by omega) (by omega), a3 43 5 (by omega) (by omega), t, if_neg (by omega), if_pos ⟨rfl, rfl⟩]
  · unfold plR
    rw [d2, ind.1, eb]
  · unfold plR
    rw [d3, eb]
    exact ind.2 x y1 (by omega)
  · unfold supP at y1
    rw [d4 a y (by omega) (by omega) (by omega), a3 a y (by omega) (by omega), t, if_neg (by omega), if_neg (by omega), if_neg (by omega)]
theorem make_eq {F n : Nat} (hF : 1000 ≤ F) (hn : n < 1000) {σ : St} {b : Int} (hB : InvB n σ) (hp : PlanOK σ) (hb : 1 ≤ b ∧ b ≤ 9) : ∃ σ', gX3_make F σ 1 b = some σ' ∧ PlanOK σ' ∧ σ' 43 1 = (plR σ b).1 ∧ (∀ x, 0 ≤ x → x < σ 1 6 → σ' 44 x = (plR σ b).2 x) ∧ ∀ a y, ¬ supP a y → ¬ (45 ≤ a ∧ a ≤ 49) → σ' a y = σ a y := by
  obtain ⟨-, -, v1, -⟩ := id hB
  obtain ⟨k1, k2, k3⟩ := id hp
  obtain ⟨σ', d1, d2, d3, d4, d5, d6⟩ := makeNew hF hB hb
  have ok : PlanOK σ' := by
    have c : ∀ a, a = 2 ∨ a = 6 → σ' a = σ a := fun a q => by funext y; exact d6 a y (by unfold supP; omega) (by omega)
    have e15 : σ' 1 5 = σ 1 5 := d6 1 5 (by unfold supP; omega) (by omega)
    have e16 : σ' 1 6 = σ 1 6 := d6 1 6 (by unfold supP; omega) (by omega)
    have e17 : σ' 1 7 = σ 1 7 := d6 1 7 (by unfold supP; omega) (by omega)
    have e : plR σ' = plR σ := by
      funext b
      unfold plR
      rw [c 2 (by omega), c 6 (by omega), e15, e16]
    refine ⟨by omega, by omega, fun _ => ?_⟩
    rw [e, d3, e16]
    exact ⟨hb, d4, d5⟩
  unfold gX3_make
  rw [w32_id (a := σ 43 4) (by omega), w32_id (a := σ 1 7) (by omega), w32_id (a := b) (by omega)]
  by_cases q : σ 43 4 = σ 1 7
  · obtain ⟨l1, l2, l3⟩ := k3 q
    rw [if_neg (fun z => z q), w32_id (a := σ 43 5) (by omega)]
    by_cases q2 : σ 43 5 = b
    · rw [if_pos q2]
      rw [q2] at l2 l3
      exact ⟨σ, rfl, hp, l2, l3, fun _ _ _ _ => rfl⟩
    · rw [if_neg q2]
      exact ⟨σ', d1, ok, d4, d5, d6⟩
  · rw [if_pos q]
    exact ⟨σ', d1, ok, d4, d5, d6⟩
/-- the reference, from a store that has the board of σ -/
theorem InvB.figs {F n : Nat} (hF : 1000 ≤ F) {σ s : St} (hB : InvB n σ) (hs : ∀ a b, supB a b → s a b = σ a b) : ∃ τ, gX11_capsAsRooms F s = some τ ∧ FgM τ (σ 2) (σ 1 5).toNat ∧ τ 143 4 = σ 1 6 ∧ τ 148 = σ 6 ∧ ∀ a b, ¬ (a = 143 ∧ b = 40) → a ≠ 167 → a ≠ 168 → τ a b = s a b := by
  obtain ⟨⟨p1, p2, p3⟩, ⟨g1, g2, g3⟩, v1, ⟨c1, c2, c3, c4, c5⟩, b5, b6, b7, b8⟩ := id hB
  obtain ⟨hc, hP, h324, hw⟩ := hB.caps
  obtain ⟨τ, d1, d2, d3⟩ := capsAs_eq (F := F) hF (σ := s) (c := σ 2) (P := (σ 1 5).toNat) hc hP (by rw [hs 143 0 (by unfold supB; omega), p3]; omega) (fun q hq => by rw [hs 144 q (by unfold supB; omega), c1])
  refine ⟨τ, d1, d2, ?_, ?_, d3⟩
  · rw [d3 143 4 (by omega) (by omega) (by omega), hs 143 4 (by unfold supB; omega), g3]
  · funext y
    rw [d3 148 y (by omega) (by omega) (by omega), hs 148 y (by unfold supB; omega), c5]
theorem batchM_eq {F n : Nat} (hF : 1000 ≤ F) {σ s : St} {b x2 : Int} (hB : InvB n σ) (hb : 1 ≤ b ∧ b ≤ 9) (hs : ∀ a b, supB a b → s a b = σ a b) : ∃ τ, gX11_batch_L37 F b x2 s = (if w32 x2 ≠ 0 then gd (0 ≤ w32 (x2 - 10) ∧ w32 (x2 - 10) < 9) (some (τ 170 (w32 (x2 - 10)), τ)) else some ((plR σ b).1, τ)) ∧ (∀ x, 0 ≤ x → x < σ 1 6 → τ 170 x = (plR σ b).2 x) ∧ ∀ a b, ¬ (a = 143 ∧ b = 40) → ¬ (167 ≤ a ∧ a ≤ 170) → τ a b = s a b := by
  obtain ⟨⟨p1, p2, p3⟩, ⟨g1, g2, g3⟩, -⟩ := id hB
  obtain ⟨hc, hP, h324, hw⟩ := hB.caps
  obtain ⟨bn, hbn⟩ : ∃ bn : Nat, b = (bn : Int) := ⟨b.toNat, by omega⟩
  have pos := stI_pos hc (σ 1 5).toNat (Nat.le_refl _)
  obtain ⟨τ0, a1, a2, a3, a4, a5⟩ := hB.figs hF hs
  obtain ⟨τ, d1, d2, d3⟩ := batch_52 (F := F) hF (x2 := x2) (b := bn) (G := (σ 1 6).toNat) hc hP (by omega) hw (by omega) (by omega) 9 F 0 (stI (σ 2) (σ 1 5).toNat - 1) 0 τ0 (by omega) (by omega) (by omega) (by omega) a2 (by rw [a3]; omega) a4 (by omega)
  have ind := btI_ind (c := σ 2) (w := σ 6) (P := (σ 1 5).toNat) (G := (σ 1 6).toNat) (b := bn) (by omega) 9 0 (stI (σ 2) (σ 1 5).toNat - 1) 0 (τ0 170) (fun _ => 0) (by omega) (fun x y1 y2 => by omega)
  have eb : b.toNat = bn := by omega
  have e1 : (plR σ b).1 = (btI (σ 2) (σ 6) (σ 1 5).toNat (σ 1 6).toNat bn 9 0 (stI (σ 2) (σ 1 5).toNat - 1) 0 (τ0 170)).1 := by
    unfold plR
    rw [eb, ind.1]
  refine ⟨τ, ?_, fun x y1 y2 => ?_, fun a y y1 y2 => ?_⟩
  · unfold gX11_batch_L37
    rw [a1, Option.bind_some]
    show ((some (τ0 143 40 - 1)).bind fun r2 => gX11_batch_L52 F b x2 F r2 0 0 τ0) = _
    rw [Option.bind_some, a2.2.1, e1, hbn]
    exact d1
  · unfold plR
    rw [d2, eb]
    exact ind.2 x y1 (by omega)
  · rw [d3 a y (by omega) (by omega), a5 a y (by omega) (by omega) (by omega)]
def OnlyP (σ σ' : St) : Prop := ∀ a b, ¬ supP a b → ¬ scr a b → σ' a b = σ a b
theorem op_batch {F n : Nat} (hF : 1000 ≤ F) (hn : n < 1000) {σ : St} {a b : Int} (hB : InvB n σ) (hp : PlanOK σ) (ha : w32 a = a) (hb : w32 b = b) :
    ∃ r σ1 σ2, gX10_batch F σ a b = some (r, σ1) ∧ gX11_batch F σ1 a b = some (r, σ2) ∧ PlanOK σ2 ∧ OnlyP σ σ2 := by
  obtain ⟨⟨p1, p2, p3⟩, ⟨g1, g2, g3⟩, -⟩ := id hB
  have br := w32_rng b
  rw [hb] at br
  have mm : ∀ s : St, s 143 4 = σ 1 6 → gX11_batch F s a b = (if 1 ≤ a ∧ a ≤ 9 then (if b = 0 then gX11_batch_L37 F a b s else if 10 ≤ b ∧ b ≤ 9 + σ 1 6 then gX11_batch_L37 F a b s else some (-1, s)) else some (-1, s)) := by
    intro s h1
    unfold gX11_batch
    rw [ha, gX11_in_eq s (by rw [← ha]; exact w64w a) (by decide) (by decide), Option.bind_some, tv_if0, h1, hb, w32_id (a := 9 + σ 1 6) (by omega), gX11_in_eq s (by rw [← hb]; exact w64w b) (by decide) (w64_id (by omega)), Option.bind_some, tv_if1]
  have cc : gX10_batch F σ a b = (if 1 ≤ a ∧ a ≤ 9 then (if b = 0 ∨ (10 ≤ b ∧ b ≤ 9 + σ 1 6) then (gX3_make F σ 1 a).bind fun r1 => (if b = 0 then some (r1 43 1, r1) else gd (0 ≤ w32 (b - 10) ∧ w32 (b - 10) < 9) (some (r1 44 (w32 (b - 10)), r1))) else some (-1, σ)) else some (-1, σ)) := by
    unfold gX10_batch gX10_batch_L30
    rw [gX10_isIn_eq σ ha (by decide) (by decide), Option.bind_some, tv_if0, isEach_eq σ hb ⟨g1, g2⟩, Option.bind_some, tv_if1, hb]
    by_cases q1 : 1 ≤ a ∧ a ≤ 9
    · rw [if_pos q1, if_pos q1]
      by_cases q2 : b = 0
      · rw [if_pos (show b = 0 ∨ (10 ≤ b ∧ b ≤ 9 + σ 1 6) from Or.inl q2)]
        simp only [if_pos q2, q2, if_true, ne_eq, not_true_eq_false, if_false]
      · by_cases q3 : 10 ≤ b ∧ b ≤ 9 + σ 1 6
        · rw [if_pos (show b = 0 ∨ (10 ≤ b ∧ b ≤ 9 + σ 1 6) from Or.inr q3), if_pos (show 10 ≤ b ∧ b < 10 + σ 1 6 by omega)]
          simp only [if_neg q2, ne_eq, q2, not_false_eq_true, if_true, if_false]
        · rw [if_neg (show ¬ (b = 0 ∨ (10 ≤ b ∧ b ≤ 9 + σ 1 6)) by omega), if_neg (show ¬ (10 ≤ b ∧ b < 10 + σ 1 6) by omega)]
          simp only [if_neg q2, ne_eq, q2, not_false_eq_true, if_true, if_false]
    · rw [if_neg q1, if_neg q1]
  rw [cc]
  by_cases q1 : 1 ≤ a ∧ a ≤ 9
  · by_cases q2 : b = 0 ∨ (10 ≤ b ∧ b ≤ 9 + σ 1 6)
    · obtain ⟨σ1, d1, d2, d3, d4, d5⟩ := make_eq hF hn hB hp q1
      obtain ⟨τ, e1, e2, e3⟩ := batchM_eq (x2 := b) hF hB q1 (s := σ1) (fun x y q => d5 x y (by unfold supB at q; unfold supP; omega) (by unfold supB at q; omega))
      have on : OnlyP σ τ := fun x y y1 y2 => by
        unfold scr at y2
        rw [e3 x y (by omega) (by omega), d5 x y y1 (by omega)]
      have ok : PlanOK τ := d2.frame (fun x y q => e3 x y (by unfold supP supB at q; omega) (by unfold supP supB at q; omega))
      have m0 : gX11_batch F σ1 a b = gX11_batch_L37 F a b σ1 := by
        rw [mm σ1 (by rw [d5 143 4 (by unfold supP; omega) (by omega), g3]), if_pos q1]
        by_cases z : b = 0
        · rw [if_pos z]
        · rw [if_neg z, if_pos (by omega)]
      rw [if_pos q1, if_pos q2, d1, Option.bind_some]
      rw [e1, hb] at m0
      by_cases z : b = 0
      · rw [if_pos z]
        exact ⟨_, σ1, τ, rfl, by rw [m0, if_neg (fun w => w z), d3], ok, on⟩
      · rw [if_neg z, w32_id (a := b - 10) (by omega), gd_pos (by omega)]
        exact ⟨_, σ1, τ, rfl, by rw [m0, if_pos z, w32_id (a := b - 10) (by omega), gd_pos (by omega), e2 (b - 10) (by omega) (by omega), d4 (b - 10) (by omega) (by omega)], ok, on⟩
    · refine ⟨-1, σ, σ, by rw [if_pos q1, if_neg q2], ?_, hp, fun _ _ _ _ => rfl⟩
      rw [mm σ g3, if_pos q1, if_neg (by omega), if_neg (by omega)]
  · refine ⟨-1, σ, σ, by rw [if_neg q1], ?_, hp, fun _ _ _ _ => rfl⟩
    rw [mm σ g3, if_neg q1]
