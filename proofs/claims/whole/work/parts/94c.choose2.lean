-- PURE LAYER: the choice, class
theorem canTake_eq {σ : St} {k g p : Int} (hB : BdOK σ (bd k)) (hS : StOK σ k) (hg : 0 ≤ g ∧ g < 9) (hp : 0 ≤ p ∧ p < σ (bd k) 5) : gX7_canTake σ k g p = some (tv (0 < σ (bd k + 5) (6 * g + p) ∧ 0 < σ (bd k + 1) p - cntN (σ (k + 3)) p ∧ σ (k + 2) p < σ (bd k + 3) p)) := by
  have h1 := hB.1
  have h2 := hB.2.2.1 p hp.1 hp.2
  have h3 := hS.2 p hp.1 (by omega)
  have h4 := cntN_rng (σ (k + 3)) p
  have h5 := hB.2.2.2 (6 * g + p) (by omega) (by omega)
  unfold gX7_canTake
  rw [worthAt_eq hg (by omega), Option.bind_some, freeAt_eq hB hS hp, Option.bind_some, w32_id (a := σ (bd k + 5) (6 * g + p)) (by omega), w32_id (a := σ (bd k + 1) p - cntN (σ (k + 3)) p) (by omega), w32_id (a := p) (by omega), gd_pos (by omega), gd_pos (by omega), w32_id (a := σ (k + 2) p) (by omega), w32_id (a := σ (bd k + 3) p) (by omega)]
  by_cases q1 : σ (bd k + 5) (6 * g + p) ≤ 0
  · rw [if_pos q1, tv_neg (by omega)]
  · rw [if_neg q1]
    by_cases q2 : σ (bd k + 1) p - cntN (σ (k + 3)) p ≤ 0
    · rw [if_pos q2, tv_neg (by omega)]
    · rw [if_neg q2]
      by_cases q3 : σ (k + 2) p ≥ σ (bd k + 3) p
      · rw [if_pos q3, tv_neg (by omega)]
      · rw [if_neg q3, tv_pos (by omega)]
/-- the weakest in run k -/
def wkC (σ : St) (k p : Int) : Int := pWk (σ (k + 3)) (σ (k + 4)) (σ (bd k + 5)) p (σ (bd k) 6).toNat (-4) 0
theorem weakestC_eq {F : Nat} (hF : 100 ≤ F) {σ : St} {k p : Int} (hB : BdOK σ (bd k)) (hS : StOK σ k) (hp : 0 ≤ p ∧ p < 6) : gX7_weakestAt F σ k p = some (wkC σ k p) ∧ (wkC σ k p = -4 ∨ 0 ≤ wkC σ k p ∧ wkC σ k p < σ (bd k) 6 ∧ σ (k + 3) (wkC σ k p) = p) := by
  have hG := hB.2.1
  refine ⟨weakC_eq hB hS hp (σ (bd k) 6).toNat F (-4) 0 0 (Or.inl rfl) (by omega) (by omega) (by omega), ?_⟩
  have := pWk_in (σ (k + 3)) (σ (k + 4)) (σ (bd k + 5)) p (σ (bd k) 6).toNat (-4) 0 (Or.inl rfl) (by omega)
  rcases this with h | h
  · exact Or.inl h
  · refine Or.inr ⟨h.1, ?_, h.2.2⟩
    have := h.2.1
    show pWk _ _ _ p _ _ _ < _
    omega
theorem canDrop_eq {F : Nat} (hF : 100 ≤ F) {σ : St} {k g p : Int} (hB : BdOK σ (bd k)) (hS : StOK σ k) (hg : 0 ≤ g ∧ g < 9) (hp : 0 ≤ p ∧ p < σ (bd k) 5) : gX7_canTakeByDrop F σ k g p = some (tv (σ (bd k + 1) p - cntN (σ (k + 3)) p ≤ 0 ∧ σ (k + 2) p < σ (bd k + 3) p ∧ wkC σ k p ≠ -4 ∧ σ (bd k + 5) (6 * wkC σ k p + p) < σ (bd k + 5) (6 * g + p))) := by
  have h1 := hB.1
  have h2 := hB.2.2.1 p hp.1 hp.2
  have h3 := hS.2 p hp.1 (by omega)
  have h4 := cntN_rng (σ (k + 3)) p
  have h5 := hB.2.2.2 (6 * g + p) (by omega) (by omega)
  have hG := hB.2.1
  obtain ⟨e1, e2⟩ := weakestC_eq hF hB hS (p := p) (by omega)
  unfold gX7_canTakeByDrop
  rw [freeAt_eq hB hS hp, Option.bind_some, w32_id (a := σ (bd k + 1) p - cntN (σ (k + 3)) p) (by omega), w32_id (a := p) (by omega), gd_pos (by omega), gd_pos (by omega), w32_id (a := σ (k + 2) p) (by omega), w32_id (a := σ (bd k + 3) p) (by omega), e1, Option.bind_some, w32_id (a := wkC σ k p) (by omega)]
  by_cases q1 : σ (bd k + 1) p - cntN (σ (k + 3)) p > 0
  · rw [if_pos q1, tv_neg (by omega)]
  · rw [if_neg q1]
    by_cases q2 : σ (k + 2) p < σ (bd k + 3) p
    · rw [if_pos q2]
      by_cases q3 : wkC σ k p = -4
      · rw [if_pos q3, tv_neg (fun z => z.2.2.1 q3)]
      · have h6 := hB.2.2.2 (6 * wkC σ k p + p) (by omega) (by omega)
        rw [if_neg q3, worthAt_eq (by omega) (by omega), Option.bind_some, worthAt_eq hg (by omega), Option.bind_some, w32_id (a := σ (bd k + 5) (6 * wkC σ k p + p)) (by omega), w32_id (a := σ (bd k + 5) (6 * g + p)) (by omega)]
        by_cases q4 : σ (bd k + 5) (6 * wkC σ k p + p) ≥ σ (bd k + 5) (6 * g + p)
        · rw [if_pos q4, tv_neg (by omega)]
        · rw [if_neg q4, tv_pos (by omega)]
    · rw [if_neg q2, tv_neg (by omega)]
def canC (σ : St) (k g x p : Int) : Int := pCan (σ (bd k + 1)) (σ (k + 2)) (σ (bd k + 3)) (σ (k + 3)) (σ (k + 4)) (σ (bd k + 5)) (σ (bd k) 6).toNat (σ x 10) g p
def passC (σ : St) (k g x p : Int) : Int := pPass (kC σ k g p) (σ (x + 3)) (σ (x + 4)) (σ (x + 5)) (σ x 9).toNat 0
def ahdC (σ : St) (k g x p q : Int) : Int := pAhd (kC σ k g p) (kC σ k g q) (σ (x + 1)) (σ (x + 2)) (σ x 8).toNat 0
theorem choose_50 {F : Nat} (hF : 100 ≤ F) {σ : St} {k g x : Int} (hB : BdOK σ (bd k)) (hS : StOK σ k) (hR : RuC σ x) (hg : 0 ≤ g ∧ g < 9) (c : Int → Int → Option Int) {y i : Int} (hy : y = -4 ∨ 0 ≤ y ∧ y < σ (bd k) 5) (hi : 0 ≤ i ∧ i < σ (bd k) 5) (s : Int) (hs : s = 0 ∨ s = 1) : gX7_choose_L50 F σ k g x c y i s = c (if s ≠ 0 ∧ passC σ k g x i ≠ 0 ∧ (y = -4 ∨ ahdC σ k g x i y ≠ 0) then i else y) (i + 1) := by
  have hP := hB.1
  unfold gX7_choose_L50 gX7_choose_L86 gX7_choose_L89
  rw [w32_id (a := s) (by omega)]
  by_cases q1 : s = 0
  · rw [if_pos q1, if_neg (fun z => z.1 q1)]
  · have hp : gX7_passes F σ k g i x = some (passC σ k g x i) := passC_eq hB hS hR hg hi (σ x 9).toNat F 0 (by omega) (by have := hR.2.2.1; omega) (by have := hR.2.2.1; omega)
    have hp01 := pPass_01 (kC σ k g i) (σ (x + 3)) (σ (x + 4)) (σ (x + 5)) (σ x 9).toNat 0
    have hpw : w32 (passC σ k g x i) = passC σ k g x i := w32_id (by unfold passC; omega)
    rw [if_neg q1, hp, Option.bind_some, hpw]
    by_cases q2 : passC σ k g x i = 0
    · rw [if_pos q2, if_neg (fun z => z.2.1 q2)]
    · rw [if_neg q2, w32_id (a := y) (by omega)]
      by_cases q3 : y = -4
      · rw [if_pos q3, if_pos ⟨q1, q2, Or.inl q3⟩]
      · have ha : gX7_isAhead F σ k g i y x = some (ahdC σ k g x i y) := aheadC_eq hB hS hR hg hi (by omega) (σ x 8).toNat F 0 (by omega) (by have := hR.1; omega) (by have := hR.1; omega)
        have ha01 := pAhd_01 (kC σ k g i) (kC σ k g y) (σ (x + 1)) (σ (x + 2)) (σ x 8).toNat 0
        have haw : w32 (ahdC σ k g x i y) = ahdC σ k g x i y := w32_id (by unfold ahdC; omega)
        rw [if_neg q3, ha, Option.bind_some, haw]
        by_cases q4 : ahdC σ k g x i y = 0
        · rw [if_pos q4, if_neg (fun z => by rcases z.2.2 with z | z; exact q3 z; exact z q4)]
        · rw [if_neg q4, if_pos ⟨q1, q2, Or.inr q4⟩]
theorem choose_6 {F : Nat} (hF : 100 ≤ F) {σ : St} {k g x : Int} (hB : BdOK σ (bd k)) (hS : StOK σ k) (hR : RuC σ x) (hg : 0 ≤ g ∧ g < 9) : ∀ (m n : Nat) (y i : Int), (y = -4 ∨ 0 ≤ y ∧ y < i) → 0 ≤ i → i + m = σ (bd k) 5 → m < n → gX7_choose_L6 F σ k g x n y i = some (pCh (canC σ k g x) (passC σ k g x) (ahdC σ k g x) m y i) := by
  have hP := hB.1
  intro m
  induction m with
  | zero =>
    intro n y i hy h1 h2 h3
    obtain ⟨n, rfl⟩ : ∃ n', n = n' + 1 := ⟨n - 1, by omega⟩
    rw [gX7_choose_L6, w32_id (a := i) (by omega), w32_id (a := σ (bd k) 5) (by omega), if_pos (by omega)]
    rfl
  | succ m ih =>
    intro n y i hy h1 h2 h3
    obtain ⟨n, rfl⟩ : ∃ n', n = n' + 1 := ⟨n - 1, by omega⟩
    have e : pCh (canC σ k g x) (passC σ k g x) (ahdC σ k g x) (m + 1) y i = pCh (canC σ k g x) (passC σ k g x) (ahdC σ k g x) m (if canC σ k g x i ≠ 0 ∧ passC σ k g x i ≠ 0 ∧ (y = -4 ∨ ahdC σ k g x i y ≠ 0) then i else y) (i + 1) := rfl
    have hi : 0 ≤ i ∧ i < σ (bd k) 5 := by omega
    have hd := hR.2.2.2.2
    have dw : w32 (σ x 10) = σ x 10 := w32_id (by omega)
    rw [gX7_choose_L6, w32_id (a := i) (by omega), w32_id (a := σ (bd k) 5) (by omega), if_neg (by omega), canTake_eq hB hS hg hi, Option.bind_some, tv_if1, dw, canDrop_eq hF hB hS hg hi, Option.bind_some, tv_if0]
    unfold gX7_choose_L45 gX7_choose_L49
    rw [choose_50 hF hB hS hR hg _ (by omega) hi 1 (by omega), choose_50 hF hB hS hR hg _ (by omega) hi 0 (by omega), e]
    have hs : ∀ s : Int, (s ≠ 0 ↔ canC σ k g x i ≠ 0) → gX7_choose_L6 F σ k g x n (if s ≠ 0 ∧ passC σ k g x i ≠ 0 ∧ (y = -4 ∨ ahdC σ k g x i y ≠ 0) then i else y) (i + 1) = some (pCh (canC σ k g x) (passC σ k g x) (ahdC σ k g x) m (if canC σ k g x i ≠ 0 ∧ passC σ k g x i ≠ 0 ∧ (y = -4 ∨ ahdC σ k g x i y ≠ 0) then i else y) (i + 1)) := by
      intro s h
      rw [ih n _ (i + 1) (by split <;> omega) (by omega) (by omega) (by omega)]
      by_cases q : canC σ k g x i = 0
      · rw [if_neg (fun z => absurd q (h.mp z.1)), if_neg (fun z => z.1 q)]
      · have z : s ≠ 0 := h.mpr q
        by_cases q2 : passC σ k g x i ≠ 0 ∧ (y = -4 ∨ ahdC σ k g x i y ≠ 0)
        · rw [if_pos ⟨z, q2⟩, if_pos ⟨q, q2⟩]
        · rw [if_neg (fun z => q2 z.2), if_neg (fun z => q2 z.2)]
    have h4 := cntN_rng (σ (k + 3)) i
    have hG := hB.2.1
    have wk := (weakestC_eq hF hB hS (p := i) (by omega)).2
    have cc : canC σ k g x i ≠ 0 ↔ (0 < σ (bd k + 5) (6 * g + i) ∧ σ (k + 2) i < σ (bd k + 3) i ∧ (0 < σ (bd k + 1) i - cntN (σ (k + 3)) i ∨ (σ x 10 ≠ 0 ∧ wkC σ k i ≠ -4 ∧ σ (bd k + 5) (6 * wkC σ k i + i) < σ (bd k + 5) (6 * g + i)))) := by
      show (if _ then (1 : Int) else 0) ≠ 0 ↔ _
      split
      · rename_i q; exact ⟨fun _ => q, fun _ => by omega⟩
      · rename_i q; exact ⟨fun z => absurd rfl z, fun z => absurd z q⟩
    by_cases q1 : 0 < σ (bd k + 5) (6 * g + i) ∧ 0 < σ (bd k + 1) i - cntN (σ (k + 3)) i ∧ σ (k + 2) i < σ (bd k + 3) i
    · rw [if_pos q1]
      exact hs 1 ⟨fun _ => cc.mpr ⟨q1.1, q1.2.2, Or.inl q1.2.1⟩, fun _ => by omega⟩
    · rw [if_neg q1]
      by_cases q2 : σ x 10 = 0
      · rw [if_pos q2]
        exact hs 0 ⟨fun z => absurd rfl z, fun z => by have := cc.mp z; omega⟩
      · rw [if_neg q2]
        by_cases q3 : σ (bd k + 1) i - cntN (σ (k + 3)) i ≤ 0 ∧ σ (k + 2) i < σ (bd k + 3) i ∧ wkC σ k i ≠ -4 ∧ σ (bd k + 5) (6 * wkC σ k i + i) < σ (bd k + 5) (6 * g + i)
        · have h6 := hB.2.2.2 (6 * wkC σ k i + i) (by omega) (by omega)
          rw [if_pos q3]
          exact hs 1 ⟨fun _ => cc.mpr ⟨by omega, q3.2.1, Or.inr ⟨q2, q3.2.2⟩⟩, fun _ => by omega⟩
        · rw [if_neg q3]
          exact hs 0 ⟨fun z => absurd rfl z, fun z => by have := cc.mp z; omega⟩
