-- PURE LAYER: run
theorem run_55 {F : Nat} {x1 x2 : Int} {τ : St} (h : MOK τ) (e4 : τ 143 4 = τ 143 27) : ∀ (m n : Nat) (s i : Int), 0 ≤ i → i + m = τ 143 27 → m < n → gX11_run_L55 F x1 x2 n s i τ = if w32 x2 ≠ 0 then if w32 x2 ≠ 1 then if w32 x2 ≠ 2 then if w32 x2 ≠ 3 then gd (0 ≤ w32 (x2 - 10) ∧ w32 (x2 - 10) < 9) (some (τ 164 (w32 (x2 - 10)), τ)) else some (τ 143 36, τ) else some (s + sumN (onF (τ 164)) m i, τ) else (gX11_keptNow F τ).bind fun r1 => some (r1, τ) else (gX11_valueNow F τ).bind fun r2 => some (r2, τ) := by
  have hG := h.2.1
  have hP := h.1
  intro m
  induction m with
  | zero =>
    intro n s i h1 h2 h3
    obtain ⟨n, rfl⟩ : ∃ n', n = n' + 1 := ⟨n - 1, by omega⟩
    rw [gX11_run_L55, e4, w32_id (a := i) (by omega), w32_id (a := τ 143 27) (by omega), if_pos (by omega), show s + sumN (onF (τ 164)) 0 i = s from Int.add_zero s]
  | succ m ih =>
    intro n s i h1 h2 h3
    obtain ⟨n, rfl⟩ : ∃ n', n = n' + 1 := ⟨n - 1, by omega⟩
    have r := (h.2.2.2.2.1 i h1 (by omega)).1
    have e : sumN (onF (τ 164)) (m + 1) i = onF (τ 164) i + sumN (onF (τ 164)) m (i + 1) := rfl
    have f0 : τ 164 i = -4 → onF (τ 164) i = 0 := fun q => if_pos q
    have f1 : ¬ τ 164 i = -4 → onF (τ 164) i = 1 := fun q => if_neg q
    rw [gX11_run_L55, e4, w32_id (a := i) (by omega), w32_id (a := τ 143 27) (by omega), if_neg (by omega), gd_pos (by omega), w32_id (a := τ 164 i) (by omega), e]
    unfold gX11_run_L82
    by_cases q : τ 164 i = -4
    · rw [if_neg (fun z => z q), f0 q, ih n _ (i + 1) (by omega) (by omega) (by omega), Int.add_assoc]
    · rw [if_pos q, f1 q, ih n _ (i + 1) (by omega) (by omega) (by omega), Int.add_assoc]
theorem op_run {F n : Nat} (hF : 100 ≤ F) {σ : St} {a b : Int} (hB : InvB n σ) (hR : InvR σ) (hE : Ew σ) (ha : w32 a = a) (hb : w32 b = b) :
    ∃ r σ1 σ2, gX10_run F σ a b = some (r, σ1) ∧ gX11_run F σ1 a b = some (r, σ2) ∧ OnlyE σ σ2 ∧ Ew σ2 := by
  obtain ⟨⟨p1, p2, p3⟩, ⟨g1, g2, g3⟩, -⟩ := id hB
  have hR1 := hR.1
  have br := w32_rng b
  rw [hb] at br
  have b17 : bd 17 = 1 := by decide
  unfold gX10_run
  rw [gX10_isRule_eq σ ha (w32_id (by omega)), Option.bind_some, tv_if0, gX10_isIn_eq σ hb (by decide) (by decide), Option.bind_some, tv_if1, isEach_eq σ hb ⟨g1, g2⟩, Option.bind_some, tv_if1]
  have mm : ∀ s : St, s 143 16 = σ 0 12 → s 143 4 = σ 1 6 → gX11_run F s a b = (if 0 ≤ a ∧ a < σ 0 12 then (if 0 ≤ b ∧ b ≤ 3 then gX11_run_L41 F a b s else if 10 ≤ b ∧ b ≤ 9 + σ 1 6 then gX11_run_L41 F a b s else some (-1, s)) else some (-1, s)) := by
    intro s h1 h2
    unfold gX11_run
    rw [gX11_isRule_eq s ha (by omega), Option.bind_some, tv_if0, h1, h2, hb, gX11_in_eq s (by rw [← hb]; exact w64w b) (by decide) (by decide), Option.bind_some, tv_if1, w32_id (a := 9 + σ 1 6) (by omega), gX11_in_eq s (by rw [← hb]; exact w64w b) (by decide) (w64_id (by omega)), Option.bind_some, tv_if1]
  by_cases q1 : 0 ≤ a ∧ a < σ 0 12
  · by_cases q2 : 0 ≤ b ∧ b ≤ 3 ∨ 10 ≤ b ∧ b ≤ 9 + σ 1 6
    · obtain ⟨σ1, e1, e2, e3⟩ := both_run hF hB hR q1
      obtain ⟨τ, τ', d1, d2, d3, d4⟩ := e3 σ1 (fun x y q => by rw [e2 x (by unfold supB supR at q; omega)])
      have s16 : σ1 143 16 = σ 0 12 := by rw [e2 143 (by omega)]; exact hR1.2.2
      have s4 : σ1 143 4 = σ 1 6 := by rw [e2 143 (by omega)]; exact g3
      obtain ⟨r1, r2, r3, r4⟩ := d3.rel
      have hS := d3.2.1
      have hBd := d3.1
      have t27 : τ' 143 27 = σ 1 6 := by rw [d3.2.2.1.1.1.2, b17, e2 1 (by omega)]
      have t4 : τ' 143 4 = τ' 143 27 := by rw [d4 143 4 (by omega) (by omega), s4, t27]
      have hP' := hBd.1
      have hG' := hBd.2.1
      have c1 : gX10_run_L33 F a b σ = gd (0 ≤ w32 a ∧ w32 a < 6) (if w32 b = 0 then some (sumN (σ1 (17 + 2)) (σ1 (bd 17) 5).toNat 0, σ1) else if w32 b = 1 then some (sumN (ktF (σ1 (17 + 3)) (σ1 (bd 17 + 5))) (σ1 (bd 17) 6).toNat 0, σ1) else if w32 b = 2 then some (sumN (onF (σ1 (17 + 3))) (σ1 (bd 17) 6).toNat 0, σ1) else if w32 b = 3 then some (σ1 17 11, σ1) else gd (0 ≤ w32 (b - 10) ∧ w32 (b - 10) < 9) (some (σ1 (17 + 3) (w32 (b - 10)), σ1))) := by
        unfold gX10_run_L33
        rw [ha, e1, Option.bind_some, value_eq hF hP', kept_eq hF hBd hS, paired_eq hF hBd hS, Option.bind_some, Option.bind_some, Option.bind_some]
      have c2 : gX11_run_L41 F a b σ1 = if w32 b ≠ 0 then if w32 b ≠ 1 then if w32 b ≠ 2 then if w32 b ≠ 3 then gd (0 ≤ w32 (b - 10) ∧ w32 (b - 10) < 9) (some (τ' 164 (w32 (b - 10)), τ')) else some (τ' 143 36, τ') else some (sumN (onF (τ' 164)) (τ' 143 27).toNat 0, τ') else some (sumN (ktF (τ' 164) (τ' 162)) (τ' 143 27).toNat 0, τ') else some (sumN (τ' 163) (τ' 143 26).toNat 0, τ') := by
        unfold gX11_run_L41
        have m2 := r1.2.1
        rw [d1, Option.bind_some, d2, Option.bind_some, run_55 r1 t4 (τ' 143 27).toNat F 0 0 (by omega) (by omega) (by omega), keptNow_eq hF r1, valueNow_eq hF r1.1, Option.bind_some, Option.bind_some, Int.zero_add]
      rw [r2, r3, r4, hb] at c2
      rw [hb, gd_pos (by rw [ha]; omega)] at c1
      have i1 : (if 0 ≤ b ∧ b ≤ 3 then gX10_run_L33 F a b σ else if 10 ≤ b ∧ b < 10 + σ 1 6 then gX10_run_L33 F a b σ else some (-1, σ)) = gX10_run_L33 F a b σ := by
        split
        · rfl
        · rw [if_pos (by omega)]
      have i2 : (if 0 ≤ b ∧ b ≤ 3 then gX11_run_L41 F a b σ1 else if 10 ≤ b ∧ b ≤ 9 + σ 1 6 then gX11_run_L41 F a b σ1 else some (-1, σ1)) = gX11_run_L41 F a b σ1 := by
        split
        · rfl
        · rw [if_pos (by omega)]
      have on : OnlyE σ τ' ∧ Ew τ' := ⟨fun x y q q' => by
        unfold scr at q
        rw [d4 x y (by omega) (by omega), e2 x (by omega)], fun j y1 y2 => by
        have h162 : τ' 162 j = σ1 6 j := d3.2.2.1.1.2.2.1 j y1 y2
        rw [h162, e2 6 (by omega)]; exact hB.worth j y1 y2⟩
      rw [if_pos q1, i1, c1]
      have m0 := mm σ1 s16 s4
      rw [if_pos q1, i2, c2] at m0
      by_cases b0 : b = 0
      · rw [if_pos b0]
        exact ⟨_, _, _, rfl, by rw [m0, if_neg (fun z => z b0)], on⟩
      · rw [if_neg b0]
        rw [if_pos b0] at m0
        by_cases b1' : b = 1
        · rw [if_pos b1']
          exact ⟨_, _, _, rfl, by rw [m0, if_neg (fun z => z b1')], on⟩
        · rw [if_neg b1']
          rw [if_pos b1'] at m0
          by_cases b2 : b = 2
          · rw [if_pos b2]
            exact ⟨_, _, _, rfl, by rw [m0, if_neg (fun z => z b2)], on⟩
          · rw [if_neg b2]
            rw [if_pos b2] at m0
            by_cases b3 : b = 3
            · rw [if_pos b3]
              exact ⟨_, _, _, rfl, by rw [m0, if_neg (fun z => z b3), d3.2.2.2.1.2.2.2], on⟩
            · rw [if_neg b3, w32_id (a := b - 10) (by omega), gd_pos (by omega)]
              rw [if_pos b3, w32_id (a := b - 10) (by omega), gd_pos (by omega), (d3.2.2.1.1.2.2.2 (b - 10) (by omega) (by omega)).1] at m0
              exact ⟨_, _, _, rfl, m0, on⟩
    · refine ⟨-1, σ, σ, ?_, ?_, fun _ _ _ _ => rfl, hE⟩
      · rw [if_pos q1, if_neg (by omega), if_neg (by omega)]
      · rw [mm σ hR1.2.2 g3, if_pos q1, if_neg (by omega), if_neg (by omega)]
  · refine ⟨-1, σ, σ, ?_, ?_, fun _ _ _ _ => rfl, hE⟩
    · rw [if_neg q1]
    · rw [mm σ hR1.2.2 g3, if_neg q1]
