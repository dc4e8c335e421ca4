-- PURE LAYER: the choice, reference
def MOK (σ : St) : Prop := (0 ≤ σ 143 26 ∧ σ 143 26 ≤ 6) ∧ (0 ≤ σ 143 27 ∧ σ 143 27 ≤ 9) ∧ (∀ p, 0 ≤ p → p < σ 143 26 → (1 ≤ σ 159 p ∧ σ 159 p ≤ 3) ∧ (0 ≤ σ 160 p ∧ σ 160 p ≤ 99) ∧ (1 ≤ σ 161 p ∧ σ 161 p ≤ 999)) ∧ (∀ j, 0 ≤ j → j < 54 → 0 ≤ σ 162 j ∧ σ 162 j ≤ 99) ∧
  (∀ g, 0 ≤ g → g < 9 → (σ 164 g = -4 ∨ 0 ≤ σ 164 g ∧ σ 164 g < σ 143 26) ∧ (0 ≤ σ 165 g ∧ σ 165 g ≤ 9) ∧ (σ 143 27 ≤ g → σ 164 g = -4)) ∧
  ∀ p, 0 ≤ p → p < σ 143 26 → cntN (σ 164) p ≤ σ 159 p ∧ 0 ≤ σ 163 p ∧ σ 163 p ≤ σ 161 p
theorem heldBy_4 {F : Nat} {σ : St} {p : Int} (h : MOK σ) (hp : 0 ≤ p ∧ p < 6) : ∀ (m n : Nat) (s i : Int), 0 ≤ i → i + m = σ 143 27 → m < n → gX11_heldBy_L4 F σ p n s i = some (s + cnN (σ 164) p m i) := by
  obtain ⟨h1, h2, h3, h4, h5, h6⟩ := h
  intro m
  induction m with
  | zero =>
    intro n s i q1 q2 q3
    obtain ⟨n, rfl⟩ : ∃ n', n = n' + 1 := ⟨n - 1, by omega⟩
    rw [gX11_heldBy_L4, w32_id (a := i) (by omega), w32_id (a := σ 143 27) (by omega), if_pos (by omega)]
    simp [cnN, sumN]
  | succ m ih =>
    intro n s i q1 q2 q3
    obtain ⟨n, rfl⟩ : ∃ n', n = n' + 1 := ⟨n - 1, by omega⟩
    have r := h5 i q1 (by omega)
    have e : cnN (σ 164) p (m + 1) i = (if σ 164 i = p then 1 else 0) + cnN (σ 164) p m (i + 1) := rfl
    rw [gX11_heldBy_L4, w32_id (a := i) (by omega), w32_id (a := σ 143 27) (by omega), if_neg (by omega), gd_pos (by omega), w32_id (a := σ 164 i) (by omega), w32_id (a := p) (by omega), e]
    unfold gX11_heldBy_L28
    rw [ih n _ (i + 1) (by omega) (by omega) (by omega), ih n _ (i + 1) (by omega) (by omega) (by omega)]
    by_cases q : σ 164 i = p
    · rw [if_neg (fun z => z q), if_pos q, Int.add_assoc]
    · rw [if_pos q, if_neg q, Int.add_assoc]
theorem heldBy_eq {F : Nat} (hF : 100 ≤ F) {σ : St} {p : Int} (h : MOK σ) (hp : 0 ≤ p ∧ p < 6) : gX11_heldBy F σ p = some (cntN (σ 164) p) := by
  have h2 := h.2.1
  unfold gX11_heldBy
  rw [heldBy_4 h hp (σ 143 27).toNat F 0 0 (by omega) (by omega) (by omega), Int.zero_add]
  congr 1
  unfold cnN cntN
  rw [show (9 : Nat) = (σ 143 27).toNat + (9 - (σ 143 27).toNat) by omega, sumN_app, sumN_zero (9 - (σ 143 27).toNat), Int.add_zero]
  intro j q1 q2
  have := (h.2.2.2.2.1 j (by omega) (by omega)).2.2 (by omega)
  show (if σ 164 j = p then (1 : Int) else 0) = 0
  rw [this, if_neg (by omega)]
def wkM (σ : St) (p : Int) : Int := pWk (σ 164) (σ 165) (σ 162) p (σ 143 27).toNat (-4) 0
theorem lastOf_5 {F : Nat} {σ : St} {p : Int} (h : MOK σ) (hp : 0 ≤ p ∧ p < 6) : ∀ (m n : Nat) (x i : Int), (x = -4 ∨ 0 ≤ x ∧ x < 9) → 0 ≤ i → i + m = σ 143 27 → m < n → gX11_lastOf_L5 F σ p n x i = some (pWk (σ 164) (σ 165) (σ 162) p m x i) := by
  obtain ⟨h1, h2, h3, h4, h5, h6⟩ := h
  intro m
  induction m with
  | zero =>
    intro n x i hx q1 q2 q3
    obtain ⟨n, rfl⟩ : ∃ n', n = n' + 1 := ⟨n - 1, by omega⟩
    rw [gX11_lastOf_L5, w32_id (a := i) (by omega), w32_id (a := σ 143 27) (by omega), if_pos (by omega)]
    rfl
  | succ m ih =>
    intro n x i hx q1 q2 q3
    obtain ⟨n, rfl⟩ : ∃ n', n = n' + 1 := ⟨n - 1, by omega⟩
    have r1 := h5 i q1 (by omega)
    have r3 := h4 (6 * i + p) (by omega) (by omega)
    have e : pWk (σ 164) (σ 165) (σ 162) p (m + 1) x i = pWk (σ 164) (σ 165) (σ 162) p m (if σ 164 i = p ∧ (x = -4 ∨ σ 162 (6 * i + p) < σ 162 (6 * x + p) ∨ (σ 162 (6 * i + p) = σ 162 (6 * x + p) ∧ σ 165 x < σ 165 i)) then i else x) (i + 1) := rfl
    have stay := ih n x (i + 1) hx (by omega) (by omega) (by omega)
    have move := ih n i (i + 1) (by omega) (by omega) (by omega) (by omega)
    have w0 : w32 0 = 0 := by decide
    have w1 : w32 1 = 1 := by decide
    rw [gX11_lastOf_L5, w32_id (a := i) (by omega), w32_id (a := σ 143 27) (by omega), if_neg (by omega), gd_pos (by omega), w32_id (a := σ 164 i) (by omega), w32_id (a := p) (by omega), e]
    unfold gX11_lastOf_L54 gX11_lastOf_L59 gX11_lastOf_L111 gX11_lastOf_L112 gX11_lastOf_L124 gX11_lastOf_L129 gX11_lastOf_L130
    rw [stay, move, w0, w1]
    by_cases k1 : σ 164 i = p
    · rw [if_neg (fun z => z k1)]
      rcases hx with hx | hx
      · rw [hx, w32_m4, if_pos rfl, if_pos rfl, if_pos (by omega), if_pos ⟨k1, Or.inl rfl⟩]
      · have r4 := h4 (6 * x + p) (by omega) (by omega)
        have r5 := h5 x hx.1 hx.2
        have ex : ¬ x = -4 := by omega
        rw [w32_id (a := x) (by omega), w32_id (a := i) (by omega), w32_id (a := 6 * i + p) (by omega), w32_id (a := 6 * x + p) (by omega), w32_id (a := σ 162 (6 * i + p)) (by omega), w32_id (a := σ 162 (6 * x + p)) (by omega), w32_id (a := σ 165 i) (by omega), w32_id (a := σ 165 x) (by omega)]
        simp only [gd_pos (show 0 ≤ 6 * i + p ∧ 6 * i + p < 54 by omega), gd_pos (show 0 ≤ 6 * x + p ∧ 6 * x + p < 54 by omega), gd_pos (show 0 ≤ i ∧ i < 9 by omega), gd_pos hx, if_neg ex]
        by_cases k2 : σ 162 (6 * i + p) < σ 162 (6 * x + p)
        · rw [if_neg (by omega), if_pos (by omega), if_pos (by omega), if_pos ⟨k1, Or.inr (Or.inl k2)⟩]
        · rw [if_pos (by omega)]
          by_cases k3 : σ 162 (6 * i + p) = σ 162 (6 * x + p)
          · rw [if_neg (fun z => z k3)]
            by_cases k4 : σ 165 i ≤ σ 165 x
            · rw [if_pos k4, if_neg (by omega), if_pos trivial, if_neg (by omega)]
            · rw [if_neg k4, if_neg (by omega), if_neg (by omega), if_pos (by omega)]
          · rw [if_pos k3, if_neg (by omega), if_pos trivial, if_neg (by omega)]
    · rw [if_pos k1, if_neg (fun z => k1 z.1)]
theorem lastOf_eq {F : Nat} (hF : 100 ≤ F) {σ : St} {p : Int} (h : MOK σ) (hp : 0 ≤ p ∧ p < 6) : gX11_lastOf F σ p = some (wkM σ p) ∧ (wkM σ p = -4 ∨ 0 ≤ wkM σ p ∧ wkM σ p < σ 143 27 ∧ σ 164 (wkM σ p) = p) := by
  have hG := h.2.1
  refine ⟨lastOf_5 h hp (σ 143 27).toNat F (-4) 0 (Or.inl rfl) (by omega) (by omega) (by omega), ?_⟩
  have := pWk_in (σ 164) (σ 165) (σ 162) p (σ 143 27).toNat (-4) 0 (Or.inl rfl) (by omega)
  rcases this with h | h
  · exact Or.inl h
  · refine Or.inr ⟨h.1, ?_, h.2.2⟩
    have := h.2.1
    show pWk _ _ _ p _ _ _ < _
    omega
def kM (σ : St) (g p t : Int) : Int := pKey (σ 159) (σ 160) (σ 163) (σ 164) (σ 162) t g p
theorem keyM_eq {F : Nat} (hF : 100 ≤ F) {σ : St} {kind g p : Int} (h : MOK σ) (hk : 0 ≤ kind ∧ kind ≤ 5) (hg : 0 ≤ g ∧ g < 9) (hp : 0 ≤ p ∧ p < σ 143 26) : gX11_keyOf F σ kind g p = some (kM σ g p kind) ∧ 0 ≤ kM σ g p kind ∧ kM σ g p kind ≤ 1000 := by
  obtain ⟨h1, h2, h3, h4, h5, h6⟩ := id h
  have r3 := h3 p hp.1 hp.2
  have r6 := h6 p hp.1 hp.2
  have r4 := cntN_rng (σ 164) p
  have r5 := h4 (6 * g + p) (by omega) (by omega)
  have t1 : 0 ≤ 100 * (σ 159 p - cntN (σ 164) p) / σ 159 p := Int.ediv_nonneg (by omega) (by omega)
  have t2 : 100 * (σ 159 p - cntN (σ 164) p) / σ 159 p ≤ 100 * (σ 159 p - cntN (σ 164) p) := Int.ediv_le_self _ (by omega)
  refine ⟨?_, ?_⟩
  · unfold gX11_keyOf kM pKey
    rw [w32_id (a := kind) (by omega), w32_id (a := p) (by omega), heldBy_eq hF h (by omega), Option.bind_some, w32_id (a := 6 * g + p) (by omega), w32_id (a := σ 159 p) (by omega), idv_eq (by omega) (by omega)]
    repeat rw [gd_pos (by omega)]
    repeat (first | rfl | split)
  · unfold kM pKey
    repeat (first | omega | split)
