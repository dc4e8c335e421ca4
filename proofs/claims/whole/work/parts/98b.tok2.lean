-- PURE LAYER: the tape's tokens (2): which name
theorem byteAt_eq (τ : St) {x L : Int} (h8 : τ 143 8 = L) (hL : 0 ≤ L ∧ L ≤ 160) (hx : 0 ≤ x ∧ x ≤ 1000) : gX11_byteAt τ x = some (if x < L then τ 149 x else -4) := by
  unfold gX11_byteAt
  rw [h8, w32_id (a := x) (by omega), w32_id (a := L) (by omega)]
  by_cases q : x < L
  · rw [if_neg (by omega), gd_pos (by omega), if_pos q]
  · rw [if_pos (by omega), if_neg q]
theorem bindS {T : Type} (o : Option T) : (o.bind fun r => some r) = o := by cases o <;> rfl
theorem nC_rng : ∀ j : Fin 38, 0 ≤ nC j.val ∧ nC j.val ≤ 255 := by decide +kernel
theorem nameAt_L39_eq (F : Nat) (τ : St) (c2 : Int → Option Int) {i p a L : Int} (hi : 0 ≤ i ∧ i < 10) (hp : 0 ≤ p ∧ p ≤ a ∧ a ≤ L) (hL : L ≤ 160) (h8 : τ 143 8 = L) (h7 : τ 157 = LL 0 iL2 157) (h58 : τ 158 = LL 0 iL2 158) (hb : ∀ j, 0 ≤ j → j < 160 → 0 ≤ τ 149 j ∧ τ 149 j ≤ 255) (hl : a - p = nB (i + 1) - nB i) :
    ∀ (m n : Nat) (x : Int), 0 ≤ x → x + m = a - p → m + 1 < n → ((∀ j, x ≤ j → j < a - p → τ 149 (p + j) = nC (nB i + j)) → gX11_nameAt_L39 F τ p a c2 n i 1 x = some i) ∧ (¬ (∀ j, x ≤ j → j < a - p → τ 149 (p + j) = nC (nB i + j)) → gX11_nameAt_L39 F τ p a c2 n i 1 x = c2 (i + 1)) := by
  intro m
  induction m with
  | zero =>
    intro n x hx0 hx hn
    obtain ⟨n, rfl⟩ : ∃ n', n = n' + 1 := ⟨n - 1, by omega⟩
    refine ⟨fun _ => ?_, fun h => absurd (fun j j1 j2 => by omega) h⟩
    rw [gX11_nameAt_L39, w32_id (a := x) (by omega), w32_id (a := a - p) (by omega), if_pos (by omega)]
    unfold gX11_nameAt_L90
    rw [w32_1, if_neg (by decide)]
  | succ m ih =>
    intro n x hx0 hx hn
    obtain ⟨n, rfl⟩ : ∃ n', n = n' + 1 := ⟨n - 1, by omega⟩
    have t := nm_at hi (j := 0) (by omega)
    have ih' := ih n (x + 1) (by omega) (by omega) (by omega)
    have hbx := hb (p + x) (by omega) (by omega)
    have e7 : ∀ k, τ 157 k = nB k := fun k => by rw [h7]; rfl
    have e8 : ∀ k, τ 158 k = nC k := fun k => by rw [h58]; rfl
    have cr := nC_rng ⟨(nB i + x).toNat, by omega⟩
    simp only [Int.toNat_of_nonneg (show 0 ≤ nB i + x by omega)] at cr
    rw [gX11_nameAt_L39, w32_id (a := x) (by omega), w32_id (a := a - p) (by omega), if_neg (by omega), w32_1, if_neg (by decide), byteAt_eq τ h8 (by omega) (by omega), Option.bind_some, if_pos (show p + x < L by omega), w32_id (a := i) (by omega), gd_pos (by omega), e7, w32_id (a := nB i + x) (by omega), gd_pos (by omega), e8, w32_id (a := τ 149 (p + x)) (by omega), w32_id (a := nC (nB i + x)) (by omega)]
    by_cases q : τ 149 (p + x) = nC (nB i + x)
    · rw [if_neg (fun w => w q)]
      unfold gX11_nameAt_L82
      refine ⟨fun h => ih'.1 (fun j j1 j2 => h j (by omega) j2), fun h => ih'.2 (fun w => h (fun j j1 j2 => ?_))⟩
      by_cases v : j = x
      · rw [v]; exact q
      · exact w j (by omega) j2
    · rw [if_pos q]
      unfold gX11_nameAt_L82
      refine ⟨fun h => absurd (h x (by omega) (by omega)) q, fun _ => ?_⟩
      obtain ⟨n, rfl⟩ : ∃ n', n = n' + 1 := ⟨n - 1, by omega⟩
      rw [gX11_nameAt_L39, w32_0, if_pos rfl]
      unfold gX11_nameAt_L90
      rw [w32_0, if_pos rfl, ite_self]
theorem nameAt_L2_eq {F : Nat} (hF : 100 ≤ F) (τ : St) {p a L : Int} (hp : 0 ≤ p ∧ p ≤ a ∧ a ≤ L) (hL : L ≤ 160) (h8 : τ 143 8 = L) (h7 : τ 157 = LL 0 iL2 157) (h58 : τ 158 = LL 0 iL2 158) (hb : ∀ j, 0 ≤ j → j < 160 → 0 ≤ τ 149 j ∧ τ 149 j ≤ 255) :
    ∀ (m n : Nat) (x : Int), 0 ≤ x → x + m = 10 → m < n → (∃ i, x ≤ i ∧ i < 10 ∧ mt (τ 149) p (a - p) i ∧ (∀ k, x ≤ k → k < i → ¬ mt (τ 149) p (a - p) k) ∧ gX11_nameAt_L2 F τ p a n x = some i) ∨ ((∀ k, x ≤ k → k < 10 → ¬ mt (τ 149) p (a - p) k) ∧ gX11_nameAt_L2 F τ p a n x = some (-4)) := by
  intro m
  induction m with
  | zero =>
    intro n x hx0 hx hn
    obtain ⟨n, rfl⟩ : ∃ n', n = n' + 1 := ⟨n - 1, by omega⟩
    refine Or.inr ⟨fun k k1 k2 => by omega, ?_⟩
    rw [gX11_nameAt_L2, w32_id (a := x) (by omega), if_pos (by omega)]
  | succ m ih =>
    intro n x hx0 hx hn
    obtain ⟨n, rfl⟩ : ∃ n', n = n' + 1 := ⟨n - 1, by omega⟩
    have t := nm_at (i := x) (by omega) (j := 0) (by omega)
    have e7 : ∀ k, τ 157 k = nB k := fun k => by rw [h7]; rfl
    have go : mt (τ 149) p (a - p) x ∧ gX11_nameAt_L2 F τ p a (n + 1) x = some x ∨ ¬ mt (τ 149) p (a - p) x ∧ gX11_nameAt_L2 F τ p a (n + 1) x = gX11_nameAt_L2 F τ p a n (x + 1) := by
      rw [gX11_nameAt_L2, w32_id (a := x) (by omega), if_neg (by omega), w32_id (a := x + 1) (by omega), gd_pos (by omega), gd_pos (by omega), e7, e7, w32_id (a := a - p) (by omega), w32_id (a := nB (x + 1) - nB x) (by omega)]
      by_cases q : a - p = nB (x + 1) - nB x
      · rw [if_neg (fun w => w q)]
        unfold gX11_nameAt_L34
        have e := nameAt_L39_eq F τ (gX11_nameAt_L2 F τ p a n) (i := x) (by omega) hp hL h8 h7 h58 hb q (a - p).toNat F 0 (by omega) (by omega) (by omega)
        by_cases w : ∀ j, 0 ≤ j → j < a - p → τ 149 (p + j) = nC (nB x + j)
        · exact Or.inl ⟨⟨q, w⟩, e.1 w⟩
        · exact Or.inr ⟨fun v => w v.2, e.2 w⟩
      · rw [if_pos q]
        unfold gX11_nameAt_L34
        refine Or.inr ⟨fun v => q v.1, ?_⟩
        obtain ⟨f, hf⟩ : ∃ n', F = n' + 1 := ⟨F - 1, by omega⟩
        conv => lhs; arg 6; rw [hf]
        rw [gX11_nameAt_L39, w32_0, if_pos rfl]
        unfold gX11_nameAt_L90
        rw [w32_0, if_pos rfl, ite_self]
    rcases go with ⟨g1, g2⟩ | ⟨g1, g2⟩
    · exact Or.inl ⟨x, by omega, by omega, g1, fun k k1 k2 => by omega, g2⟩
    · rw [g2]
      rcases ih n (x + 1) (by omega) (by omega) (by omega) with ⟨i, i1, i2, i3, i4, i5⟩ | ⟨i1, i2⟩
      · refine Or.inl ⟨i, by omega, i2, i3, fun k k1 k2 => ?_, i5⟩
        by_cases v : k = x
        · rw [v]; exact g1
        · exact i4 k (by omega) k2
      · refine Or.inr ⟨fun k k1 k2 => ?_, i2⟩
        by_cases v : k = x
        · rw [v]; exact g1
        · exact i1 k (by omega) k2
theorem readName_L41_eq {F : Nat} (hF : 100 ≤ F) (σ : St) {a p : Int} (hp : 0 ≤ p ∧ p ≤ a ∧ a ≤ 160) (h4 : σ 57 4 = a) (h6 : σ 57 6 = p) (hb : ∀ j, 0 ≤ j → j < 160 → 0 ≤ σ 58 j ∧ σ 58 j ≤ 255) (hl : ∀ j, p ≤ j → j < a → σ 58 j ≠ 32) :
    ∀ (m n : Nat) (x : Int), 0 ≤ x → x + m = 10 → m < n → (∃ i, x ≤ i ∧ i < 10 ∧ mt (σ 58) p (a - p) i ∧ (∀ k, x ≤ k → k < i → ¬ mt (σ 58) p (a - p) k) ∧ gX8_readName_L41 F n x σ = some (up σ 57 5 i)) ∨ ((∀ k, x ≤ k → k < 10 → ¬ mt (σ 58) p (a - p) k) ∧ gX8_readName_L41 F n x σ = gX8_fail σ 1) := by
  intro m
  induction m with
  | zero =>
    intro n x hx0 hx hn
    obtain ⟨n, rfl⟩ : ∃ n', n = n' + 1 := ⟨n - 1, by omega⟩
    refine Or.inr ⟨fun k k1 k2 => by omega, ?_⟩
    rw [gX8_readName_L41, w32_id (a := x) (by omega), if_pos (by omega), bindS]
  | succ m ih =>
    intro n x hx0 hx hn
    obtain ⟨n, rfl⟩ : ∃ n', n = n' + 1 := ⟨n - 1, by omega⟩
    obtain ⟨r, r1, r2, r3⟩ := isName_eq hF σ (i := x) (by omega) hp h4 h6 hb hl
    rw [gX8_readName_L41, w32_id (a := x) (by omega), if_neg (by omega), r1, Option.bind_some, w32_id (a := r) (by omega)]
    by_cases q : r = 0
    · rw [if_pos q]
      have g1 : ¬ mt (σ 58) p (a - p) x := fun w => r3.2 w q
      rcases ih n (x + 1) (by omega) (by omega) (by omega) with ⟨i, i1, i2, i3, i4, i5⟩ | ⟨i1, i2⟩
      · refine Or.inl ⟨i, by omega, i2, i3, fun k k1 k2 => ?_, i5⟩
        by_cases v : k = x
        · rw [v]; exact g1
        · exact i4 k (by omega) k2
      · refine Or.inr ⟨fun k k1 k2 => ?_, i2⟩
        by_cases v : k = x
        · rw [v]; exact g1
        · exact i1 k (by omega) k2
    · rw [if_neg q]
      exact Or.inl ⟨x, by omega, by omega, r3.1 q, fun k k1 k2 => by omega, rfl⟩
