-- PURE LAYER: rule (2): a key
theorem hasKey_L2_eq (F : Nat) (σ : St) {k x : Int} (h8 : 0 ≤ σ k 8 ∧ σ k 8 ≤ 6) (hx : 0 ≤ x ∧ x ≤ 18) (hv : ∀ i, 0 ≤ i → i < σ k 8 → 0 ≤ σ (k + 1) i ∧ σ (k + 1) i ≤ 5) : ∀ (m n : Nat) (y : Int), 0 ≤ y → y + m = σ k 8 → m < n → ∃ r, gX5_hasKey_L2 F σ k x n y = some r ∧ (r = 0 ∨ r = 1) ∧ (r ≠ 0 ↔ ∃ i, y ≤ i ∧ i < σ k 8 ∧ σ (k + 1) i = x) := by
  intro m
  induction m with
  | zero =>
    intro n y h0 h1 h2
    obtain ⟨n, rfl⟩ : ∃ n', n = n' + 1 := ⟨n - 1, by omega⟩
    refine ⟨0, ?_, Or.inl rfl, ⟨fun q => absurd rfl q, fun ⟨i, i1, i2, _⟩ => by omega⟩⟩
    rw [gX5_hasKey_L2, w32_id (a := y) (by omega), w32_id (a := σ k 8) (by omega), if_pos (by omega)]
  | succ m ih =>
    intro n y h0 h1 h2
    obtain ⟨n, rfl⟩ : ∃ n', n = n' + 1 := ⟨n - 1, by omega⟩
    have v := hv y (by omega) (by omega)
    obtain ⟨r, e1, e2, e3⟩ := ih n (y + 1) (by omega) (by omega) (by omega)
    rw [gX5_hasKey_L2, w32_id (a := y) (by omega), w32_id (a := σ k 8) (by omega), if_neg (by omega), gd_pos (by omega), w32_id (a := σ (k + 1) y) (by omega), w32_id (a := x) (by omega)]
    by_cases q : σ (k + 1) y = x
    · rw [if_neg (fun w => w q)]
      exact ⟨1, rfl, Or.inr rfl, ⟨fun _ => ⟨y, by omega, by omega, q⟩, fun _ => by decide⟩⟩
    · rw [if_pos q]
      refine ⟨r, e1, e2, e3.trans ⟨fun ⟨i, i1, i2, i3⟩ => ⟨i, by omega, i2, i3⟩, fun ⟨i, i1, i2, i3⟩ => ⟨i, ?_, i2, i3⟩⟩⟩
      by_cases w : i = y
      · rw [w] at i3; exact absurd i3 q
      · omega
theorem irm_tab : ∀ k : Fin 6, irm k.val 10 = k.val ∧ irm (k.val + 10) 10 = k.val := by decide
theorem irm_key {k s : Int} (hk : 0 ≤ k ∧ k ≤ 5) (hs : s = 0 ∨ s = 1) : irm (k + 10 * s) 10 = k := by
  have e := irm_tab ⟨k.toNat, by omega⟩
  simp only [Int.toNat_of_nonneg hk.1] at e
  rcases hs with rfl | rfl
  · rw [show k + 10 * 0 = k by omega]; exact e.1
  · exact e.2
theorem keyL50_fault (F n : Nat) (x y : Int) {τ : St} {R : Int} (hR : 0 ≤ R ∧ R < 6) (h16 : τ 143 16 = R) (h : 0 ≤ τ 143 10 ∧ τ 143 10 ≤ 5) (q : τ 143 10 ≠ 0) : gX11_key_L50 F (n + 1) x y τ = some τ := by
  rw [gX11_key_L50, h16, w32_id (a := R) (by omega), gd_pos (by omega), w32_id (a := τ 143 10) (by omega)]
  unfold gX11_key_L105
  rw [w32_id (a := τ 143 10) (by omega), if_pos q, if_pos q, ite_self]
theorem keyL50_eq (F : Nat) (x : Int) {b : Int → Int} {L R : Int} {σ τ : St} (h : QR b L R σ τ) (z : σ 57 1 = 0) (hk : σ 57 5 < 6) : ∀ (m n : Nat) (y : Int), 0 ≤ y → y + m = σ (63 + 12 * R) 8 → m + 1 < n →
    ((∃ i, y ≤ i ∧ i < σ (63 + 12 * R) 8 ∧ σ (63 + 12 * R + 1) i = σ 57 5) → gX11_key_L50 F n x y τ = gX11_fails τ 3) ∧ (¬ (∃ i, y ≤ i ∧ i < σ (63 + 12 * R) 8 ∧ σ (63 + 12 * R + 1) i = σ 57 5) → gX11_key_L50 F n x y τ = gX11_key_L105 F x τ) := by
  have hR := h.2.1
  have h8 := h.2.2.1.1
  have kt := h.2.2.2 z
  have tk := h.tk
  have f10 : τ 143 10 = 0 := by rw [← h.1.2.2.1.1]; exact z
  have e15 := (h.isKey z).2 hk
  intro m
  induction m with
  | zero =>
    intro n y h0 h1 h2
    obtain ⟨n, rfl⟩ : ∃ n', n = n' + 1 := ⟨n - 1, by omega⟩
    refine ⟨fun ⟨i, i1, i2, _⟩ => by omega, fun _ => ?_⟩
    rw [gX11_key_L50, hR.2.2, w32_id (a := R) (by omega), gd_pos (by omega), kt.1, w32_id (a := y) (by omega), w32_id (a := σ (63 + 12 * R) 8) (by omega), if_pos (by omega)]
  | succ m ih =>
    intro n y h0 h1 h2
    obtain ⟨n, rfl⟩ : ∃ n', n = n' + 1 := ⟨n - 1, by omega⟩
    obtain ⟨v1, v2, v3⟩ := kt.2.1 y (by omega) (by omega)
    have ih' := ih n (y + 1) (by omega) (by omega) (by omega)
    rw [gX11_key_L50, hR.2.2, w32_id (a := R) (by omega), gd_pos (by omega), kt.1, w32_id (a := y) (by omega), w32_id (a := σ (63 + 12 * R) 8) (by omega), if_neg (by omega), f10, w32_0, if_neg (by decide), w32_id (a := 6 * R + y) (by omega), gd_pos (by omega), gd_pos (by decide), v3, irm_key v1 v2, e15, w32_id (a := σ 57 5) (by omega)]
    unfold gX11_key_L99
    by_cases q : σ (63 + 12 * R + 1) y = σ 57 5
    · rw [if_neg (fun w => w q)]
      refine ⟨fun _ => ?_, fun w => absurd ⟨y, by omega, by omega, q⟩ w⟩
      obtain ⟨σ', τ', g1, g2, g3, g4, g5, g6⟩ := h.fail (x := 3) (by omega)
      obtain ⟨n, rfl⟩ : ∃ n', n = n' + 1 := ⟨n - 1, by omega⟩
      have pf := g3.1.2.2.1
      rw [g2, Option.bind_some, keyL50_fault F n x _ ⟨hR.1, hR.2.1⟩ g3.2.1.2.2 (by rw [← pf.1]; exact pf.2.1) (by rw [← pf.1]; exact g4)]
    · rw [if_pos q]
      refine ⟨fun ⟨i, i1, i2, i3⟩ => ih'.1 ⟨i, ?_, i2, i3⟩, fun w => ih'.2 (fun ⟨i, i1, i2, i3⟩ => w ⟨i, by omega, i2, i3⟩)⟩
      by_cases w : i = y
      · rw [w] at i3; exact absurd i3 q
      · omega
