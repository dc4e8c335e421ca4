-- PURE LAYER: run
/-- places that no later call reads before it has written them -/
def scr (a b : Int) : Prop := (17 ≤ a ∧ a ≤ 42 ∧ a ≠ 32) ∨ (45 ≤ a ∧ a ≤ 49) ∨ a = 61 ∨ a = 62 ∨ (a = 57 ∧ b ≠ 0) ∨ (a = 143 ∧ (10 ≤ b ∧ b ≤ 15 ∨ 26 ≤ b ∧ b ≤ 27 ∨ 35 ≤ b ∧ b ≤ 46)) ∨ (159 ≤ a ∧ a ≤ 172 ∧ a ≠ 162) ∨ (a = 7 ∧ b = 11)
def Only (σ σ' : St) : Prop := ∀ a b, ¬ scr a b → σ' a b = σ a b
/-- the worths in the reference's area are worths -/
def Ew (σ : St) : Prop := ∀ j, 0 ≤ j → j < 54 → 0 ≤ σ 162 j ∧ σ 162 j ≤ 99
def OnlyE (σ σ' : St) : Prop := ∀ a b, ¬ scr a b → a ≠ 162 → σ' a b = σ a b
theorem isEach_eq (σ : St) {a b : Int} (ha : w32 a = a) (hb : 0 ≤ b ∧ b ≤ 9) : gX10_isEach σ a b = some (tv (10 ≤ a ∧ a < 10 + b)) := by
  have ar := w32_rng a
  rw [ha] at ar
  unfold gX10_isEach tv
  rw [ha, w32_id (a := b) (by omega)]
  by_cases q : a < 10
  · rw [if_pos q, if_neg (by omega)]
  · rw [if_neg q, w32_id (a := a - 10) (by omega)]
    by_cases z : a - 10 ≥ b
    · rw [if_pos z, if_neg (by omega)]
    · rw [if_neg z, if_pos (by omega)]
theorem InvB.bd1 {n : Nat} {σ : St} (h : InvB n σ) : BdOK σ 1 := by
  obtain ⟨⟨p1, p2, p3⟩, ⟨g1, g2, g3⟩, v1, ⟨c1, c2, c3, c4, c5⟩, b5, b6, b7, b8⟩ := id h
  exact ⟨⟨p1, p2⟩, ⟨g1, g2⟩, b5, fun j q1 q2 => h.worth j q1 q2⟩
theorem InvB.relE {n : Nat} {σ σ1 τ : St} (h : InvB n σ) (h1 : ∀ a b, supB a b → σ1 a b = σ a b) (ht : ∀ a b, τ a b = if a = 143 ∧ (b = 35 ∨ b = 36) then 0 else if a = 164 ∧ 0 ≤ b ∧ b < 9 then -4 else if a = 165 ∧ 0 ≤ b ∧ b < 9 then 0 else if a = 163 ∧ 0 ≤ b ∧ b < 6 then 0 else if a = 162 ∧ 0 ≤ b ∧ b < 54 then σ1 148 b else if a = 159 ∧ 0 ≤ b ∧ b < 6 then σ1 144 b else if a = 160 ∧ 0 ≤ b ∧ b < 6 then σ1 145 b else if a = 161 ∧ 0 ≤ b ∧ b < 6 then σ1 146 b else if a = 143 ∧ b = 26 then σ1 143 0 else if a = 143 ∧ b = 27 then σ1 143 4 else σ1 a b) : ((τ 143 26 = σ 1 5 ∧ τ 143 27 = σ 1 6) ∧ (∀ p, 0 ≤ p → p < 6 → τ 159 p = σ 2 p ∧ τ 160 p = σ 3 p ∧ τ 161 p = σ 4 p) ∧ ∀ j, 0 ≤ j → j < 54 → τ 162 j = σ 6 j) ∧ FrM τ ∧ ∀ a b, ¬ (a = 143 ∧ (b = 26 ∨ b = 27 ∨ b = 35 ∨ b = 36)) → ¬ (159 ≤ a ∧ a ≤ 165) → τ a b = σ1 a b := by
  obtain ⟨⟨p1, p2, p3⟩, ⟨g1, g2, g3⟩, v1, ⟨c1, c2, c3, c4, c5⟩, b5, b6, b7, b8⟩ := id h
  refine ⟨⟨⟨?_, ?_⟩, fun p q1 q2 => ⟨?_, ?_, ?_⟩, fun j q1 q2 => ?_⟩, ⟨⟨?_, ?_⟩, fun p q1 q2 => ?_, fun g q1 q2 => ⟨?_, ?_⟩⟩, fun a b q1 q2 => ?_⟩
  · rw [ht, if_neg (by omega), if_neg (by omega), if_neg (by omega), if_neg (by omega), if_neg (by omega), if_neg (by omega), if_neg (by omega), if_neg (by omega), if_pos (by omega), h1 143 0 (by unfold supB; omega), p3]
  · rw [ht, if_neg (by omega), if_neg (by omega), if_neg (by omega), if_neg (by omega), if_neg (by omega), if_neg (by omega), if_neg (by omega), if_neg (by omega), if_neg (by omega), if_pos (by omega), h1 143 4 (by unfold supB; omega), g3]
  · rw [ht, if_neg (by omega), if_neg (by omega), if_neg (by omega), if_neg (by omega), if_neg (by omega), if_pos (by omega), h1 144 p (by unfold supB; omega), c1]
  · rw [ht, if_neg (by omega), if_neg (by omega), if_neg (by omega), if_neg (by omega), if_neg (by omega), if_neg (by omega), if_pos (by omega), h1 145 p (by unfold supB; omega), c2]
  · rw [ht, if_neg (by omega), if_neg (by omega), if_neg (by omega), if_neg (by omega), if_neg (by omega), if_neg (by omega), if_neg (by omega), if_pos (by omega), h1 146 p (by unfold supB; omega), c3]
  · rw [ht, if_neg (by omega), if_neg (by omega), if_neg (by omega), if_neg (by omega), if_pos (by omega), h1 148 j (by unfold supB; omega), c5]
  · rw [ht, if_pos (by omega)]
  · rw [ht, if_pos (by omega)]
  · rw [ht, if_neg (by omega), if_neg (by omega), if_neg (by omega), if_pos (by omega)]
  · rw [ht, if_neg (by omega), if_pos (by omega)]
  · rw [ht, if_neg (by omega), if_neg (by omega), if_pos (by omega)]
  · rw [ht, if_neg (by omega), if_neg (by omega), if_neg (by omega), if_neg (by omega), if_neg (by omega), if_neg (by omega), if_neg (by omega), if_neg (by omega), if_neg (by omega), if_neg (by omega)]
/-- the reference's area, loaded from a store that has the board of σ -/
theorem InvB.load {F n : Nat} (hF : 100 ≤ F) {σ σ1 : St} (h : InvB n σ) (h1 : ∀ a b, supB a b → σ1 a b = σ a b) : ∃ τ, gX11_loadMain F σ1 = some τ ∧ ((τ 143 26 = σ 1 5 ∧ τ 143 27 = σ 1 6) ∧ (∀ p, 0 ≤ p → p < 6 → τ 159 p = σ 2 p ∧ τ 160 p = σ 3 p ∧ τ 161 p = σ 4 p) ∧ ∀ j, 0 ≤ j → j < 54 → τ 162 j = σ 6 j) ∧ FrM τ ∧ ∀ a b, ¬ (a = 143 ∧ (b = 26 ∨ b = 27 ∨ b = 35 ∨ b = 36)) → ¬ (159 ≤ a ∧ a ≤ 165) → τ a b = σ1 a b := by
  obtain ⟨τ, e, f⟩ := loadMain_eq hF σ1
  exact ⟨τ, e, h.relE h1 f⟩
/-- one rule's run by numbers, on both sides one behind the other -/
theorem both_run {F n : Nat} (hF : 100 ≤ F) {σ : St} {r : Int} (hB : InvB n σ) (hR : InvR σ) (hr : 0 ≤ r ∧ r < σ 0 12) :
    ∃ σ1, gX7_runByNumbers F σ 17 (63 + 12 * r) = some σ1 ∧ (∀ c, ¬ (17 ≤ c ∧ c ≤ 26) → σ1 c = σ c) ∧ ∀ σ1', (∀ a b, supB a b ∨ supR a b → σ1' a b = σ a b) → ∃ τ τ', gX11_loadMain F σ1' = some τ ∧ gX11_runByNumbers F τ r = some τ' ∧ Rn σ1 17 τ' r (σ 1 6) ∧ ∀ a b, ¬ (a = 143 ∧ (b = 26 ∨ b = 27 ∨ b = 35 ∨ b = 36)) → ¬ (159 ≤ a ∧ a ≤ 165) → τ' a b = σ1' a b := by
  have b17 : bd 17 = 1 := by decide
  have hb : BdOK σ (bd 17) := hB.bd1
  have hru := hR.2.2 r hr.1 hr.2
  have hr6 : 0 ≤ r ∧ r < 6 := by have := hR.1; omega
  have two : ∀ σ1', (∀ a b, supB a b ∨ supR a b → σ1' a b = σ a b) → ∃ σ' τ τ', gX7_runByNumbers F σ 17 (63 + 12 * r) = some σ' ∧ gX11_loadMain F σ1' = some τ ∧ gX11_runByNumbers F τ r = some τ' ∧ Rn σ' 17 τ' r (σ 1 6) ∧ (∀ c, ¬ (17 ≤ c ∧ c ≤ 17 + 9) → σ' c = σ c) ∧ ∀ a b, ¬ (a = 143 ∧ (b = 26 ∨ b = 27 ∨ b = 35 ∨ b = 36)) → ¬ (159 ≤ a ∧ a ≤ 165) → τ' a b = σ1' a b := by
    intro σ1' hs
    obtain ⟨τ, e, f1, f2, f3⟩ := hB.load hF (fun a b q => hs a b (Or.inl q))
    have rc : ∀ a b, supR a b → τ a b = σ a b := fun a b q => by rw [f3 a b (by unfold supR at q; omega) (by unfold supR at q; omega)]; exact hs a b (Or.inr q)
    obtain ⟨σ', τ', d1, d2, d3, d4, d5⟩ := runs_eq (τ := τ) hF (k := 17) (Or.inr (Or.inl rfl)) hr6 hb f1 (hru.frame hr6 rc) (fun c q1 q2 => by funext b; exact rc c b (by unfold supR; omega))
    exact ⟨σ', τ, τ', d1, e, d2, d3, d4, fun a b q1 q2 => by rw [d5 a b (by unfold supC; omega), f3 a b q1 q2]⟩
  obtain ⟨σ1, -, -, a1, -, -, -, a2, -⟩ := two σ (fun _ _ _ => rfl)
  refine ⟨σ1, a1, a2, fun σ1' hs => ?_⟩
  obtain ⟨σ', τ, τ', c1, c2, c3, c4, c5, c6⟩ := two σ1' hs
  rw [a1] at c1
  obtain rfl := Option.some.inj c1
  exact ⟨τ, τ', c2, c3, c4, c6⟩
theorem Rn.rel {σ τ : St} {k r n : Int} (h : Rn σ k τ r n) : MOK τ ∧ sumN (τ 163) (τ 143 26).toNat 0 = sumN (σ (k + 2)) (σ (bd k) 5).toNat 0 ∧ sumN (ktF (τ 164) (τ 162)) (τ 143 27).toNat 0 = sumN (ktF (σ (k + 3)) (σ (bd k + 5))) (σ (bd k) 6).toNat 0 ∧ sumN (onF (τ 164)) (τ 143 27).toNat 0 = sumN (onF (σ (k + 3))) (σ (bd k) 6).toNat 0 := by
  obtain ⟨hB, hS, ⟨⟨h1, h2, h3, h4⟩, h5, -⟩, h6, h7⟩ := id h
  have hP := hB.1
  have hG := hB.2.1
  refine ⟨h.2.2.1.1.mok hB hS (fun g q1 q2 => ?_), ?_, ?_, ?_⟩
  · rw [(h4 g q1 q2).2 (by omega)]; exact (hS.1 g q1 q2).2.1
  · rw [h1.1]
    exact sumN_congr _ _ (fun i q1 q2 => (h2 i q1 (by omega)).2.2.2)
  · rw [h1.2]
    refine sumN_congr _ _ (fun i q1 q2 => ?_)
    have s := (hS.1 i q1 (by omega)).1
    unfold ktF
    rw [(h4 i q1 (by omega)).1]
    split
    · rfl
    · exact h3 _ (by omega) (by omega)
  · rw [h1.2]
    refine sumN_congr _ _ (fun i q1 q2 => ?_)
    unfold onF
    rw [(h4 i q1 (by omega)).1]
