-- PURE LAYER: worst (3): one net on both sides
/-- the class's trial board holds net b of n posts -/
def BN (n b : Nat) (σ : St) : Prop := (σ 27 5 = n ∧ σ 27 6 = n) ∧ (∀ p : Int, 0 ≤ p → p < n → σ 28 p = 1 ∧ σ 29 p = p ∧ σ 30 p = 999) ∧ (∀ g p : Int, 0 ≤ g → g < n → 0 ≤ p → p < n → σ 32 (6 * g + p) = netw n b (6 * g + p)) ∧ TrOK σ
/-- the reference's area holds it -/
def EN (n b : Nat) (τ : St) : Prop := (τ 143 26 = n ∧ τ 143 27 = n) ∧ (∀ p : Int, 0 ≤ p → p < n → τ 159 p = 1 ∧ τ 160 p = p ∧ τ 161 p = 999) ∧ (∀ g p : Int, 0 ≤ g → g < n → 0 ≤ p → p < n → τ 162 (6 * g + p) = netw n b (6 * g + p)) ∧ Ew τ
theorem BN.bd {n b : Nat} {σ : St} (h : BN n b σ) (hn : 1 ≤ n ∧ n ≤ 3) : BdOK σ 27 := by
  obtain ⟨⟨h1, h2⟩, h3, h4, h5⟩ := h
  refine ⟨by omega, by omega, fun p q1 q2 => ?_, fun j q1 q2 => h5 j q1 q2⟩
  obtain ⟨a1, a2, a3⟩ := h3 p q1 (by omega)
  show (1 ≤ σ 28 p ∧ σ 28 p ≤ 3) ∧ (0 ≤ σ 29 p ∧ σ 29 p ≤ 99) ∧ (1 ≤ σ 30 p ∧ σ 30 p ≤ 999)
  omega
/-- class's store with the reference's area as its trial board -/
def ovS (σ τ : St) : St := fun a j => if a = 28 then τ 159 j else if a = 29 then τ 160 j else if a = 30 then τ 161 j else if a = 32 then τ 162 j else σ a j
theorem ovS_o {σ τ : St} {a : Int} (h : ¬ (28 ≤ a ∧ a ≤ 32)) : ovS σ τ a = σ a := by funext j; unfold ovS; rw [if_neg (by omega), if_neg (by omega), if_neg (by omega), if_neg (by omega)]
theorem ovS_28 {σ τ : St} : ovS σ τ 28 = τ 159 := by funext j; unfold ovS; rw [if_pos rfl]
theorem ovS_29 {σ τ : St} : ovS σ τ 29 = τ 160 := by funext j; unfold ovS; rw [if_neg (by omega), if_pos rfl]
theorem ovS_30 {σ τ : St} : ovS σ τ 30 = τ 161 := by funext j; unfold ovS; rw [if_neg (by omega), if_neg (by omega), if_pos rfl]
theorem ovS_32 {σ τ : St} : ovS σ τ 32 = τ 162 := by funext j; unfold ovS; rw [if_neg (by omega), if_neg (by omega), if_neg (by omega), if_pos rfl]
theorem net_run {F : Nat} (hF : 100 ≤ F) {r : Int} (hr : 0 ≤ r ∧ r < 6) {n b : Nat} (hn : 1 ≤ n ∧ n ≤ 3) {σ τ : St} (hb : BN n b σ) (he : EN n b τ) (hRu : RuleOK τ r) (hcs : ∀ c, 63 + 12 * r ≤ c → c ≤ 68 + 12 * r → τ c = σ c) :
    ∃ σ' τ' v, gX7_runByNumbers F σ 33 (63 + 12 * r) = some σ' ∧ gX7_value F σ' 33 = some v ∧ gX11_runByNumbers F τ r = some τ' ∧ gX11_valueNow F τ' = some v ∧ v = sumN (τ' 163) (τ' 143 26).toNat 0 ∧ (0 ≤ v ∧ v ≤ 6000) ∧ (∀ c, ¬ (33 ≤ c ∧ c ≤ 42) → σ' c = σ c) ∧ ∀ a b, ¬ supC a b → τ' a b = τ a b := by
  have bdσ := hb.bd hn
  obtain ⟨⟨h1, h2⟩, h3, h4, h5⟩ := id hb
  obtain ⟨⟨e1, e2⟩, e3, e4, e5⟩ := id he
  have sm : Sm n n σ (ovS σ τ) := by
    refine ⟨fun a ha => ovS_o ha, fun p q1 q2 => ?_, fun g p g1 g2 q1 q2 => ?_⟩
    · rw [ovS_28, ovS_29, ovS_30]
      obtain ⟨a1, a2, a3⟩ := h3 p q1 q2
      obtain ⟨c1, c2, c3⟩ := e3 p q1 q2
      rw [a1, a2, a3]
      exact ⟨c1, c2, c3⟩
    · rw [ovS_32, e4 g p g1 g2 q1 q2, h4 g p g1 g2 q1 q2]
  have o27 : ovS σ τ 27 = σ 27 := ovS_o (by omega)
  have bdo : BdOK (ovS σ τ) 27 := by
    refine ⟨by rw [o27]; omega, by rw [o27]; omega, fun p q1 q2 => ?_, fun j q1 q2 => ?_⟩
    · rw [o27] at q2
      obtain ⟨c1, c2, c3⟩ := e3 p q1 (by omega)
      show (1 ≤ ovS σ τ 28 p ∧ ovS σ τ 28 p ≤ 3) ∧ (0 ≤ ovS σ τ 29 p ∧ ovS σ τ 29 p ≤ 99) ∧ (1 ≤ ovS σ τ 30 p ∧ ovS σ τ 30 p ≤ 999)
      rw [ovS_28, ovS_29, ovS_30]
      omega
    · show 0 ≤ ovS σ τ 32 j ∧ ovS σ τ 32 j ≤ 99
      rw [ovS_32]; exact e5 j q1 q2
  have rel : RelE (ovS σ τ) 33 τ := by
    unfold RelE
    rw [b33]
    refine ⟨by rw [o27]; omega, fun p q1 q2 => ?_, fun j q1 q2 => ?_⟩
    · show τ 159 p = ovS σ τ 28 p ∧ τ 160 p = ovS σ τ 29 p ∧ τ 161 p = ovS σ τ 30 p
      rw [ovS_28, ovS_29, ovS_30]; exact ⟨rfl, rfl, rfl⟩
    · show τ 162 j = ovS σ τ 32 j
      rw [ovS_32]
  have hco : ∀ c, 63 + 12 * r ≤ c → c ≤ 68 + 12 * r → τ c = ovS σ τ c := fun c q1 q2 => by rw [ovS_o (by omega)]; exact hcs c q1 q2
  obtain ⟨s', τ', d1, d2, d3, d4, d5⟩ := runs_eq hF (k := 33) (Or.inr (Or.inr rfl)) hr (by rw [b33]; exact bdo) rel hRu hco
  rw [b33, o27, h2] at d3
  -- the start of both runs of the class
  obtain ⟨τ1, f1, f2⟩ := fresh_eq hF τ
  have fo : ∀ a b, ¬ supC a b → τ1 a b = τ a b := fun a b q => by
    unfold supC at q
    rw [f2, if_neg (by omega), if_neg (by omega), if_neg (by omega), if_neg (by omega)]
  have foc : ∀ a, a ≠ 143 → a ≠ 163 → a ≠ 164 → a ≠ 165 → τ1 a = τ a := fun a q1 q2 q3 q4 => by funext b; exact fo a b (by unfold supC; omega)
  have hE : RelE (ovS σ τ) 33 τ1 := by
    unfold RelE at rel ⊢
    rw [fo 143 26 (by unfold supC; omega), fo 143 27 (by unfold supC; omega), foc 159 (by omega) (by omega) (by omega) (by omega), foc 160 (by omega) (by omega) (by omega) (by omega), foc 161 (by omega) (by omega) (by omega) (by omega), foc 162 (by omega) (by omega) (by omega) (by omega)]
    exact rel
  have hF1 : FrM τ1 := ⟨⟨by rw [f2, if_pos (by omega)], by rw [f2, if_pos (by omega)]⟩, fun p q1 q2 => by rw [f2, if_neg (by omega), if_neg (by omega), if_neg (by omega), if_pos (by omega)], fun g q1 q2 => ⟨by rw [f2, if_neg (by omega), if_pos (by omega)], by rw [f2, if_neg (by omega), if_neg (by omega), if_pos (by omega)]⟩⟩
  obtain ⟨st, s4⟩ := Rn.start (k := 33) (Or.inr (Or.inr rfl)) hr (by rw [b33]; exact bdo) hE hF1 (hRu.frame hr (fun a b q => fo a b (by unfold supR at q; unfold supC; omega))) (fun c q1 q2 => by rw [foc c (by omega) (by omega) (by omega) (by omega)]; exact hco c q1 q2)
  have smc : Sm n n (clearS σ 33) (clearS (ovS σ τ) 33) := by
    refine ⟨fun a ha => ?_, fun p q1 q2 => ?_, fun g p g1 g2 q1 q2 => ?_⟩
    · funext j
      rw [clearS_at, clearS_at, ovS_o ha]
    · rw [clearS_o (c := 28) (by omega), clearS_o (c := 28) (by omega), clearS_o (c := 29) (by omega), clearS_o (c := 29) (by omega), clearS_o (c := 30) (by omega), clearS_o (c := 30) (by omega)]
      exact sm.2.1 p q1 q2
    · rw [clearS_o (c := 32) (by omega), clearS_o (c := 32) (by omega)]
      exact sm.2.2 g p g1 g2 q1 q2
  have c27 : clearS σ 33 27 = σ 27 := clearS_o (by omega)
  have bdc : BdOK (clearS σ 33) 27 := by
    have := clearS_bd (σ := σ) (k := 33) (Or.inr (Or.inr rfl)) (by rw [b33]; exact bdσ)
    rw [b33] at this
    exact this
  obtain ⟨s, s'', g1, g2, g3, g4⟩ := sm_6 hF hr n F 0 (clearS σ 33) (clearS (ovS σ τ) 33) τ1 smc (by rw [c27]; exact h1) (by rw [c27]; exact h2) st (fun x q1 q2 => s4 x q1 q2) (by omega) (by omega) bdc
  unfold gX7_runByNumbers at d1 ⊢
  rw [clear_eq, Option.bind_some] at d1 ⊢
  rw [g2] at d1
  obtain rfl := Option.some.inj d1
  have s27 : s'' 27 = s 27 := g3.1 27 (by omega)
  have s27' : s 27 = σ 27 := by rw [← s27, d4 27 (by omega), o27]
  have v1 := value_eq hF (σ := s) (k := 33) (by rw [b33, s27']; omega)
  rw [b33, s27', h1, ← g3.1 (33 + 2) (by omega)] at v1
  obtain ⟨r1, r2, -⟩ := d3.rel
  have vr := d3.val_rng
  rw [b33, s27, s27', h1] at r2 vr
  refine ⟨s, τ', _, g1, v1, d2, by rw [valueNow_eq hF r1.1, r2], r2.symm, vr, fun c q => by rw [g4 c q, clearS_o (by omega)], d5⟩
