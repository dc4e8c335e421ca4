-- PURE LAYER: market
theorem market_41 {F : Nat} {x1 : Int} {τ : St} (hG : 0 ≤ τ 143 4 ∧ τ 143 4 ≤ 9) (hp : ∀ g, 0 ≤ g → g < τ 143 4 → w32 (τ 174 g) = τ 174 g) : ∀ (m n : Nat) (s i : Int), 0 ≤ i → i + m = τ 143 4 → m < n → gX11_market_L41 F x1 n s i τ = if w32 x1 ≠ 0 then if w32 x1 ≠ 1 then if w32 x1 ≠ 2 then if w32 x1 ≠ 3 then if w32 x1 ≠ 4 then gd (0 ≤ w32 (x1 - 10) ∧ w32 (x1 - 10) < 9) (some (τ 174 (w32 (x1 - 10)), τ)) else some (τ 143 54, τ) else some (s + sumN (onF (τ 174)) m i, τ) else (gX11_came F τ).bind fun r1 => some (r1, τ) else (gX11_keptNow F τ).bind fun r2 => some (r2, τ) else (gX11_valueNow F τ).bind fun r3 => some (r3, τ) := by
  intro m
  induction m with
  | zero =>
    intro n s i h1 h2 h3
    obtain ⟨n, rfl⟩ : ∃ n', n = n' + 1 := ⟨n - 1, by omega⟩
    rw [gX11_market_L41, w32_id (a := i) (by omega), w32_id (a := τ 143 4) (by omega), if_pos (by omega), show s + sumN (onF (τ 174)) 0 i = s from Int.add_zero s]
  | succ m ih =>
    intro n s i h1 h2 h3
    obtain ⟨n, rfl⟩ : ∃ n', n = n' + 1 := ⟨n - 1, by omega⟩
    have e : sumN (onF (τ 174)) (m + 1) i = onF (τ 174) i + sumN (onF (τ 174)) m (i + 1) := rfl
    have f0 : τ 174 i = -4 → onF (τ 174) i = 0 := fun q => if_pos q
    have f1 : ¬ τ 174 i = -4 → onF (τ 174) i = 1 := fun q => if_neg q
    rw [gX11_market_L41, w32_id (a := i) (by omega), w32_id (a := τ 143 4) (by omega), if_neg (by omega), gd_pos (by omega), hp i h1 (by omega), e]
    unfold gX11_market_L66
    by_cases q : τ 174 i = -4
    · rw [if_neg (fun z => z q), f0 q, ih n _ (i + 1) (by omega) (by omega) (by omega), Int.add_assoc]
    · rw [if_pos q, f1 q, ih n _ (i + 1) (by omega) (by omega) (by omega), Int.add_assoc]
theorem op_market {F n : Nat} (hF : 100 ≤ F) {σ : St} {a : Int} (hB : InvB n σ) (hM : InvM σ) (hE : Ew σ) (ha : w32 a = a) :
    ∃ r σ2, gX10_market F σ a = some r ∧ gX11_market F σ a = some (r, σ2) ∧ OnlyE σ σ2 ∧ Ew σ2 := by
  obtain ⟨⟨p1, p2, p3⟩, ⟨g1, g2, g3⟩, -⟩ := id hB
  obtain ⟨m1, m4, m5, m6, -⟩ := id hM
  obtain ⟨c1, c2, c3, c4⟩ := hM.cur
  have hS := hM.st hB
  have hBd : BdOK σ (bd 7) := hB.bd1
  have ar := w32_rng a
  rw [ha] at ar
  obtain ⟨τ, e, f1, f2, f3⟩ := hM.loadM hF hB (s := σ) (fun _ _ _ => rfl)
  have mok : MOK τ := f1.mok hBd hS (fun x y1 y2 => by rw [(f1.2.2.2 x y1 y2).2 (by omega)]; exact (hS.1 x y1 y2).2.1)
  have t4 : τ 143 4 = σ 1 6 := by rw [f3 143 4 (by omega) (by omega), g3]
  have t54 : τ 143 54 = σ 7 12 := by rw [f3 143 54 (by omega) (by omega)]; exact m1.2.2
  have t174 : ∀ x, 0 ≤ x → x < σ 1 6 → τ 174 x = σ 10 x := fun x y1 y2 => by rw [f3 174 x (by omega) (by omega)]; exact (m5 x y1 y2).2.1
  have L := market_41 (F := F) (x1 := a) (τ := τ) (by omega) (fun x y1 y2 => by rw [t174 x y1 (by omega)]; exact w32_id (by have := (c1 x y1 (by omega)).1; omega)) (σ 1 6).toNat F 0 0 (by omega) (by omega) (by omega)
  have eV : sumN (τ 163) (τ 143 26).toNat 0 = sumN (σ 9) (σ 1 5).toNat 0 := by
    rw [f1.1.1]
    exact sumN_congr _ _ (fun i y1 y2 => (f1.2.1 i y1 (by have : (bd 7) = 1 := by decide
                                                          rw [this] at y2; omega)).2.2.2)
  have b7 : bd 7 = 1 := by decide
  have eK : sumN (ktF (τ 164) (τ 162)) (τ 143 27).toNat 0 = sumN (ktF (σ 10) (σ 6)) (σ 1 6).toNat 0 := by
    rw [f1.1.2]
    refine sumN_congr _ _ (fun i y1 y2 => ?_)
    rw [b7] at y2
    have s := (c1 i y1 (by omega)).1
    have w : τ 164 i = σ 10 i := (f1.2.2.2 i y1 (by omega)).1
    unfold ktF
    rw [w]
    split
    · rfl
    · exact f1.2.2.1 _ (by omega) (by omega)
  have eH : sumN (onF (τ 174)) (σ 1 6).toNat 0 = sumN (onF (σ 10)) (σ 1 6).toNat 0 := sumN_congr _ _ (fun i y1 y2 => by unfold onF; rw [t174 i y1 (by omega)])
  have cm : gX11_came F τ = some (σ 7 10) := hM.came (by omega) ⟨g1, g2⟩ t4 (by funext x; exact f3 173 x (by omega) (by omega))
  rw [keptNow_eq hF mok, valueNow_eq hF mok.1, cm, eV, eK, eH, Option.bind_some, Option.bind_some, Option.bind_some, Int.zero_add, ha, t54] at L
  have k33 : gX11_market_L33 F a σ = if a ≠ 0 then if a ≠ 1 then if a ≠ 2 then if a ≠ 3 then if a ≠ 4 then gd (0 ≤ w32 (a - 10) ∧ w32 (a - 10) < 9) (some (τ 174 (w32 (a - 10)), τ)) else some (σ 7 12, τ) else some (sumN (onF (σ 10)) (σ 1 6).toNat 0, τ) else some (σ 7 10, τ) else some (sumN (ktF (σ 10) (σ 6)) (σ 1 6).toNat 0, τ) else some (sumN (σ 9) (σ 1 5).toNat 0, τ) := by
    unfold gX11_market_L33
    rw [e, Option.bind_some]
    exact L
  have M : gX11_market F σ a = if 0 ≤ a ∧ a ≤ 4 then gX11_market_L33 F a σ else if 10 ≤ a ∧ a ≤ 9 + σ 1 6 then gX11_market_L33 F a σ else some (-1, σ) := by
    unfold gX11_market
    rw [ha, gX11_in_eq σ (by rw [← ha]; exact w64w a) (by decide) (by decide), Option.bind_some, tv_if1, g3, w32_id (a := 9 + σ 1 6) (by omega), gX11_in_eq σ (by rw [← ha]; exact w64w a) (by decide) (w64_id (by omega)), Option.bind_some, tv_if1]
  have on : OnlyE σ τ ∧ Ew τ := ⟨fun x y q q' => f3 x y (by unfold scr at q; omega) (by unfold scr at q; omega), fun j y1 y2 => by rw [show τ 162 j = σ 6 j from f1.2.2.1 j y1 y2]; exact hB.worth j y1 y2⟩
  have hv : gX7_value F σ 7 = some (sumN (σ 9) (σ 1 5).toNat 0) := value_eq hF hBd.1
  have hk : gX7_kept F σ 7 = some (sumN (ktF (σ 10) (σ 6)) (σ 1 6).toNat 0) := kept_eq hF hBd hS
  have hq : gX7_paired F σ 7 = some (sumN (onF (σ 10)) (σ 1 6).toNat 0) := paired_eq hF hBd hS
  unfold gX10_market
  rw [isEach_eq σ ha ⟨g1, g2⟩, Option.bind_some, tv_if0, ha, hv, hk, hq, Option.bind_some, Option.bind_some, Option.bind_some, M, k33]
  by_cases q0 : 10 ≤ a ∧ a < 10 + σ 1 6
  · rw [if_pos q0, w32_id (a := a - 10) (by omega), gd_pos (by omega)]
    refine ⟨_, τ, rfl, ?_, on⟩
    rw [if_neg (by omega), if_pos (by omega), if_pos (by omega), if_pos (by omega), if_pos (by omega), if_pos (by omega), if_pos (by omega), gd_pos (by omega), t174 (a - 10) (by omega) (by omega)]
    rfl
  · rw [if_neg q0]
    by_cases q1 : a = 0
    · rw [if_pos q1]
      exact ⟨_, τ, rfl, by rw [if_pos (by omega), if_neg (fun z => z q1)], on⟩
    · rw [if_neg q1]
      by_cases q2 : a = 1
      · rw [if_pos q2]
        exact ⟨_, τ, rfl, by rw [if_pos (by omega), if_pos q1, if_neg (fun z => z q2)], on⟩
      · rw [if_neg q2]
        by_cases q3 : a = 2
        · rw [if_pos q3]
          exact ⟨_, τ, rfl, by rw [if_pos (by omega), if_pos q1, if_pos q2, if_neg (fun z => z q3)], on⟩
        · rw [if_neg q3]
          by_cases q4 : a = 3
          · rw [if_pos q4]
            exact ⟨_, τ, rfl, by rw [if_pos (by omega), if_pos q1, if_pos q2, if_pos q3, if_neg (fun z => z q4)], on⟩
          · rw [if_neg q4]
            by_cases q5 : a = 4
            · rw [if_pos q5]
              exact ⟨_, τ, rfl, by rw [if_pos (by omega), if_pos q1, if_pos q2, if_pos q3, if_pos q4, if_neg (fun z => z q5)], on⟩
            · rw [if_neg q5]
              exact ⟨_, σ, rfl, by rw [if_neg (by omega), if_neg (by omega)], fun _ _ _ _ => rfl, hE⟩
