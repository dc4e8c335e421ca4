-- PURE LAYER: the tape's tokens (1): names
def nB (i : Int) : Int := LL 0 iL2 157 i
def nC (j : Int) : Int := LL 0 iL2 158 j
theorem nm_tab : ∀ i : Fin 10, (0 ≤ nB i.val ∧ nB i.val < nB (i.val + 1) ∧ nB (i.val + 1) ≤ nB i.val + 6 ∧ nB (i.val + 1) ≤ 38) ∧ ∀ j : Fin 6, (j.val < nB (i.val + 1) - nB i.val → nC (nB i.val + j.val) = sC 0 (i.val * 6 + j.val) ∧ sC 0 (i.val * 6 + j.val) ≠ 32) ∧ (¬ j.val < nB (i.val + 1) - nB i.val → sC 0 (i.val * 6 + j.val) = 32) := by decide +kernel
theorem nm_rng : ∀ i : Fin 60, 0 ≤ sC 0 i.val ∧ sC 0 i.val ≤ 255 := by decide +kernel
/-- the l bytes from p on are name i -/
def mt (b : Int → Int) (p l i : Int) : Prop := l = nB (i + 1) - nB i ∧ ∀ j, 0 ≤ j → j < l → b (p + j) = nC (nB i + j)
theorem nm_at {i j : Int} (hi : 0 ≤ i ∧ i < 10) (hj : 0 ≤ j ∧ j < 6) : (0 ≤ nB i ∧ nB i < nB (i + 1) ∧ nB (i + 1) ≤ nB i + 6 ∧ nB (i + 1) ≤ 38) ∧ (j < nB (i + 1) - nB i → nC (nB i + j) = sC 0 (i * 6 + j) ∧ sC 0 (i * 6 + j) ≠ 32) ∧ (¬ j < nB (i + 1) - nB i → sC 0 (i * 6 + j) = 32) := by
  have h := nm_tab ⟨i.toNat, by omega⟩
  have e := h.2 ⟨j.toNat, by omega⟩
  have q1 := h.1
  simp only [Int.toNat_of_nonneg hi.1, Int.toNat_of_nonneg hj.1] at e q1
  exact ⟨q1, e⟩
theorem sC_rng {i : Int} (h : 0 ≤ i ∧ i < 60) : 0 ≤ sC 0 i ∧ sC 0 i ≤ 255 := by
  have e := nm_rng ⟨i.toNat, by omega⟩
  simp only [Int.toNat_of_nonneg h.1] at e
  exact e
theorem isName_L20_eq (F : Nat) (σ : St) {i l p : Int} (hi : 0 ≤ i ∧ i < 10) (hl : 0 ≤ l ∧ l ≤ 6) (hp : 0 ≤ p ∧ p + l ≤ 160) (h6 : σ 57 6 = p) (hb : ∀ j, 0 ≤ j → j < 160 → 0 ≤ σ 58 j ∧ σ 58 j ≤ 255) :
    ∀ (m n : Nat) (x : Int), 0 ≤ x → x + m = 6 → m < n → ∃ r, gX8_isName_L20 F σ i n l x = some r ∧ (r = 0 ∨ r = 1) ∧ (r ≠ 0 ↔ ∀ j, x ≤ j → j < 6 → (if j < l then σ 58 (p + j) else 32) = sC 0 (i * 6 + j)) := by
  intro m
  induction m with
  | zero =>
    intro n x hx0 hx hn
    obtain ⟨n, rfl⟩ : ∃ n', n = n' + 1 := ⟨n - 1, by omega⟩
    refine ⟨1, ?_, Or.inr rfl, ⟨fun _ j h1 h2 => by omega, fun _ => by decide⟩⟩
    rw [gX8_isName_L20, w32_id (by omega), if_pos (by omega)]
  | succ m ih =>
    intro n x hx0 hx hn
    obtain ⟨n, rfl⟩ : ∃ n', n = n' + 1 := ⟨n - 1, by omega⟩
    obtain ⟨r, e1, e2, e3⟩ := ih n (x + 1) (by omega) (by omega) (by omega)
    have sr := sC_rng (i := i * 6 + x) (by omega)
    have key : ∀ s0 : Int, 0 ≤ s0 → s0 ≤ 255 → s0 = (if x < l then σ 58 (p + x) else 32) → ∃ r, gX8_isName_L47 F σ i (gX8_isName_L20 F σ i n) l x s0 = some r ∧ (r = 0 ∨ r = 1) ∧ (r ≠ 0 ↔ ∀ j, x ≤ j → j < 6 → (if j < l then σ 58 (p + j) else 32) = sC 0 (i * 6 + j)) := by
      intro s0 h1 h2 h3
      have eg : gchr 0 (i * 6 + x) = some (sC 0 (i * 6 + x)) := by
        unfold gchr
        rw [w32_id (a := i * 6 + x) (by omega), gd_pos (by show _ ∧ _ < ((60 : Nat) : Int); omega)]
      unfold gX8_isName_L47
      rw [eg, Option.bind_some, w32_id (a := s0) (by omega), w32_id (a := sC 0 (i * 6 + x)) (by omega)]
      by_cases q : s0 = sC 0 (i * 6 + x)
      · rw [if_pos q]
        refine ⟨r, e1, e2, e3.trans ⟨fun h j j1 j2 => ?_, fun h j j1 j2 => h j (by omega) j2⟩⟩
        by_cases w : j = x
        · rw [w, ← h3]; exact q
        · exact h j (by omega) j2
      · rw [if_neg q]
        refine ⟨0, rfl, Or.inl rfl, ⟨fun h => absurd rfl h, fun h => absurd (h3.trans (h x (by omega) (by omega))) q⟩⟩
    rw [gX8_isName_L20, w32_id (a := x) (by omega), if_neg (by omega), w32_id (a := l) (by omega)]
    by_cases q : x ≥ l
    · rw [if_pos q]
      exact key 32 (by omega) (by omega) (by rw [if_neg (by omega)])
    · have hbx := hb (p + x) (by omega) (by omega)
      rw [if_neg q, h6, w32_id (a := p + x) (by omega), gd_pos (by omega)]
      exact key _ hbx.1 hbx.2 (by rw [if_pos (by omega)])
theorem isName_eq {F : Nat} (hF : 100 ≤ F) (σ : St) {i a p : Int} (hi : 0 ≤ i ∧ i < 10) (hp : 0 ≤ p ∧ p ≤ a ∧ a ≤ 160) (h4 : σ 57 4 = a) (h6 : σ 57 6 = p) (hb : ∀ j, 0 ≤ j → j < 160 → 0 ≤ σ 58 j ∧ σ 58 j ≤ 255)
    (hl : ∀ j, p ≤ j → j < a → σ 58 j ≠ 32) : ∃ r, gX8_isName F σ i = some r ∧ (r = 0 ∨ r = 1) ∧ (r ≠ 0 ↔ mt (σ 58) p (a - p) i) := by
  have t := nm_at hi (j := 0) (by omega)
  unfold gX8_isName
  rw [h4, h6, w32_id (by omega)]
  by_cases q : a - p ≤ 6
  · rw [if_pos q]
    obtain ⟨r, e1, e2, e3⟩ := isName_L20_eq F σ hi (l := a - p) (by omega) (by omega) h6 hb 6 F 0 (by omega) (by omega) (by omega)
    refine ⟨r, e1, e2, e3.trans ⟨fun h => ?_, fun h j j1 j2 => ?_⟩⟩
    · have el : a - p = nB (i + 1) - nB i := by
        rcases Int.lt_trichotomy (a - p) (nB (i + 1) - nB i) with w | w | w
        · have e := h (a - p) (by omega) (by omega)
          rw [if_neg (by omega)] at e
          exact absurd e.symm ((nm_at hi (j := a - p) (by omega)).2.1 w).2
        · exact w
        · have e := h (nB (i + 1) - nB i) (by omega) (by omega)
          rw [if_pos (by omega), (nm_at hi (j := nB (i + 1) - nB i) (by omega)).2.2 (by omega)] at e
          exact absurd e (hl _ (by omega) (by omega))
      refine ⟨el, fun j j1 j2 => ?_⟩
      have e := h j (by omega) (by omega)
      rw [if_pos j2] at e
      rw [e, ((nm_at hi (j := j) (by omega)).2.1 (by omega)).1]
    · by_cases w : j < a - p
      · rw [if_pos w, h.2 j (by omega) w]
        exact ((nm_at hi (j := j) (by omega)).2.1 (by rw [← h.1]; exact w)).1
      · rw [if_neg w]
        exact ((nm_at hi (j := j) (by omega)).2.2 (by rw [← h.1]; exact w)).symm
  · rw [if_neg q]
    exact ⟨0, rfl, Or.inl rfl, ⟨fun h => absurd rfl h, fun h => by have := h.1; omega⟩⟩
