-- PURE LAYER: the tape's tokens (3): how far a run of bytes goes
theorem stop_ex (c : Int → Prop) (b : Int → Int) (L : Int) : ∀ (m : Nat) (a : Int), a + m = L → ∃ e, a ≤ e ∧ e ≤ L ∧ (∀ j, a ≤ j → j < e → c (b j)) ∧ (e = L ∨ ¬ c (b e)) := by
  intro m
  induction m with
  | zero => exact fun a h => ⟨a, by omega, by omega, fun j _ _ => by omega, Or.inl (by omega)⟩
  | succ m ih =>
    intro a h
    by_cases q : c (b a)
    · obtain ⟨e, e1, e2, e3, e4⟩ := ih (a + 1) (by omega)
      refine ⟨e, by omega, e2, fun j j1 j2 => ?_, e4⟩
      by_cases w : j = a
      · rw [w]; exact q
      · exact e3 j (by omega) j2
    · exact ⟨a, by omega, by omega, fun j _ _ => by omega, Or.inr q⟩
theorem up_same {σ : St} {k j v : Int} (h : σ k j = v) : up σ k j v = σ := by
  funext a b
  rw [up_at]
  by_cases q : a = k ∧ b = j
  · rw [if_pos q, q.1, q.2, h]
  · rw [if_neg q]
theorem up_up (σ : St) (k j v w : Int) : up (up σ k j v) k j w = up σ k j w := by
  funext a b
  rw [up_at, up_at, up_at]
  by_cases q : a = k ∧ b = j
  · rw [if_pos q, if_pos q]
  · rw [if_neg q, if_neg q, if_neg q]
def TC (b : Int → Int) (L : Int) (σ : St) : Prop := (0 ≤ L ∧ L ≤ 160) ∧ (∀ j, 0 ≤ j → j < 160 → 0 ≤ b j ∧ b j ≤ 255) ∧ σ 57 0 = L ∧ σ 58 = b
def TM (b : Int → Int) (L : Int) (τ : St) : Prop := (0 ≤ L ∧ L ≤ 160) ∧ (∀ j, 0 ≤ j → j < 160 → 0 ≤ b j ∧ b j ≤ 255) ∧ τ 143 8 = L ∧ τ 149 = b ∧ τ 157 = LL 0 iL2 157 ∧ τ 158 = LL 0 iL2 158
theorem TC.up {b : Int → Int} {L : Int} {σ : St} (h : TC b L σ) {k j v : Int} (h1 : ¬ (k = 57 ∧ j = 0)) (h2 : k ≠ 58) : TC b L (up σ k j v) := ⟨h.1, h.2.1, by rw [up_at, if_neg (by omega)]; exact h.2.2.1, by rw [up_cell (by omega)]; exact h.2.2.2⟩
theorem TM.up {b : Int → Int} {L : Int} {τ : St} (h : TM b L τ) {k j v : Int} (h1 : ¬ (k = 143 ∧ j = 8)) (h2 : k ≠ 149 ∧ k ≠ 157 ∧ k ≠ 158) : TM b L (up τ k j v) := ⟨h.1, h.2.1, by rw [up_at, if_neg (by omega)]; exact h.2.2.1, by rw [up_cell (by omega)]; exact h.2.2.2.1, by rw [up_cell (by omega)]; exact h.2.2.2.2.1, by rw [up_cell (by omega)]; exact h.2.2.2.2.2⟩
theorem TM.byte {b : Int → Int} {L : Int} {τ : St} (h : TM b L τ) {x : Int} (hx : 0 ≤ x ∧ x ≤ 1000) : gX11_byteAt τ x = some (if x < L then b x else -4) := by
  rw [byteAt_eq τ h.2.2.1 h.1 hx, h.2.2.2.1]
theorem adv_L8 (F : Nat) {b : Int → Int} {L e : Int} (he : e ≤ L) : ∀ (m n : Nat) (σ : St), TC b L σ → 0 ≤ σ 57 4 → σ 57 4 + m = e → m < n → (∀ j, σ 57 4 ≤ j → j < e → b j = 32) → (e = L ∨ ¬ b e = 32) → gX8_advance_L8 F n σ = gX8_advance_L46 F (up σ 57 4 e) := by
  intro m
  induction m with
  | zero =>
    intro n σ hT h0 h1 h2 h3 h4
    obtain ⟨n, rfl⟩ : ∃ n', n = n' + 1 := ⟨n - 1, by omega⟩
    have q1 := hT.1
    rw [up_same (show σ 57 4 = e by omega), gX8_advance_L8, show σ 57 4 = e by omega, hT.2.2.1, w32_id (a := e) (by omega), w32_id (a := L) (by omega)]
    by_cases q : e = L
    · rw [if_pos (by omega)]
    · have hb := hT.2.1 e (by omega) (by omega)
      rw [if_neg (by omega), gd_pos (by omega), hT.2.2.2, w32_id (a := b e) (by omega), if_pos (by omega)]
  | succ m ih =>
    intro n σ hT h0 h1 h2 h3 h4
    obtain ⟨n, rfl⟩ : ∃ n', n = n' + 1 := ⟨n - 1, by omega⟩
    have q1 := hT.1
    have hb := h3 (σ 57 4) (by omega) (by omega)
    have ih' := ih n (up σ 57 4 (σ 57 4 + 1)) (hT.up (by omega) (by omega)) (by rw [up_self]; omega) (by rw [up_self]; omega) (by omega) (fun j j1 j2 => h3 j (by rw [up_self] at j1; omega) j2) h4
    rw [up_up] at ih'
    rw [gX8_advance_L8, hT.2.2.1, w32_id (a := σ 57 4) (by omega), w32_id (a := L) (by omega), if_neg (by omega), gd_pos (by omega), hT.2.2.2, hb, if_neg (by decide)]
    exact ih'
theorem nxt_L8 (F : Nat) {b : Int → Int} {L e : Int} (he : e ≤ L) : ∀ (m n : Nat) (τ : St), TM b L τ → 0 ≤ τ 143 12 → τ 143 12 + m = e → m < n → (∀ j, τ 143 12 ≤ j → j < e → b j = 32) → gX11_next_L8 F n τ = gX11_next_L8 F (n - m) (up τ 143 12 e) := by
  intro m
  induction m with
  | zero =>
    intro n τ hT h0 h1 h2 h3
    rw [up_same (show τ 143 12 = e by omega)]; rfl
  | succ m ih =>
    intro n τ hT h0 h1 h2 h3
    obtain ⟨n, rfl⟩ : ∃ n', n = n' + 1 := ⟨n - 1, by omega⟩
    have q1 := hT.1
    have hb := h3 (τ 143 12) (by omega) (by omega)
    have ih' := ih n (up τ 143 12 (τ 143 12 + 1)) (hT.up (by omega) (by omega)) (by rw [up_self]; omega) (by rw [up_self]; omega) (by omega) (fun j j1 j2 => h3 j (by rw [up_self] at j1; omega) j2)
    rw [up_up] at ih'
    rw [gX11_next_L8, hT.byte (by omega), if_pos (show τ 143 12 < L by omega), hb, Option.bind_some, if_neg (by decide), ih', show n + 1 - (m + 1) = n - m by omega]
theorem isLetter_eq (σ : St) {x : Int} (h : 0 ≤ x ∧ x ≤ 255) : gX8_isLetter σ x = some (tv (97 ≤ x ∧ x ≤ 122)) := by
  unfold gX8_isLetter tv
  rw [w32_id (by omega)]
  repeat' split
  all_goals first | rfl | omega
theorem isFigure_eq (σ : St) {x : Int} (h : 0 ≤ x ∧ x ≤ 255) : gX8_isFigure σ x = some (tv (48 ≤ x ∧ x ≤ 57)) := by
  unfold gX8_isFigure tv
  rw [w32_id (by omega)]
  repeat' split
  all_goals first | rfl | omega
theorem in_eq (τ : St) {x u v : Int} (h : -4 ≤ x ∧ x ≤ 255) (hu : 0 ≤ u ∧ u ≤ 255) (hv : 0 ≤ v ∧ v ≤ 255) : gX11_in τ (w32 x) u v = some (tv (u ≤ x ∧ x ≤ v)) := by
  rw [w32_id (by omega)]
  exact gX11_in_eq τ (w64_id (by omega)) (w64_id (by omega)) (w64_id (by omega))
theorem rdName_L0 (F : Nat) {b : Int → Int} {L e : Int} (he : e ≤ L) : ∀ (m n : Nat) (σ : St), TC b L σ → 0 ≤ σ 57 4 → σ 57 4 + m = e → m < n → (∀ j, σ 57 4 ≤ j → j < e → 97 ≤ b j ∧ b j ≤ 122) → (e = L ∨ ¬ (97 ≤ b e ∧ b e ≤ 122)) → gX8_readName_L0 F n σ = gX8_readName_L39 F (up σ 57 4 e) := by
  intro m
  induction m with
  | zero =>
    intro n σ hT h0 h1 h2 h3 h4
    obtain ⟨n, rfl⟩ : ∃ n', n = n' + 1 := ⟨n - 1, by omega⟩
    have q1 := hT.1
    rw [up_same (show σ 57 4 = e by omega), gX8_readName_L0, show σ 57 4 = e by omega, hT.2.2.1, w32_id (a := e) (by omega), w32_id (a := L) (by omega)]
    by_cases q : e = L
    · rw [if_pos (by omega)]
    · have hb := hT.2.1 e (by omega) (by omega)
      rw [if_neg (by omega), gd_pos (by omega), hT.2.2.2, isLetter_eq σ hb, Option.bind_some, w32_tv, tv_neg (by omega), if_pos rfl]
  | succ m ih =>
    intro n σ hT h0 h1 h2 h3 h4
    obtain ⟨n, rfl⟩ : ∃ n', n = n' + 1 := ⟨n - 1, by omega⟩
    have q1 := hT.1
    have hb := h3 (σ 57 4) (by omega) (by omega)
    have ih' := ih n (up σ 57 4 (σ 57 4 + 1)) (hT.up (by omega) (by omega)) (by rw [up_self]; omega) (by rw [up_self]; omega) (by omega) (fun j j1 j2 => h3 j (by rw [up_self] at j1; omega) j2) h4
    rw [up_up] at ih'
    rw [gX8_readName_L0, hT.2.2.1, w32_id (a := σ 57 4) (by omega), w32_id (a := L) (by omega), if_neg (by omega), gd_pos (by omega), hT.2.2.2, isLetter_eq σ (by omega), Option.bind_some, w32_tv, tv_pos hb, if_neg (by decide)]
    exact ih'
theorem nxt_L84 (F : Nat) {b : Int → Int} {L e : Int} (he : e ≤ L) : ∀ (m n : Nat) (τ : St), TM b L τ → 0 ≤ τ 143 12 → τ 143 12 + m = e → m < n → (∀ j, τ 143 12 ≤ j → j < e → 97 ≤ b j ∧ b j ≤ 122) → gX11_next_L84 F n τ = gX11_next_L84 F (n - m) (up τ 143 12 e) := by
  intro m
  induction m with
  | zero =>
    intro n τ hT h0 h1 h2 h3
    rw [up_same (show τ 143 12 = e by omega)]; rfl
  | succ m ih =>
    intro n τ hT h0 h1 h2 h3
    obtain ⟨n, rfl⟩ : ∃ n', n = n' + 1 := ⟨n - 1, by omega⟩
    have q1 := hT.1
    have hb := h3 (τ 143 12) (by omega) (by omega)
    have ih' := ih n (up τ 143 12 (τ 143 12 + 1)) (hT.up (by omega) (by omega)) (by rw [up_self]; omega) (by rw [up_self]; omega) (by omega) (fun j j1 j2 => h3 j (by rw [up_self] at j1; omega) j2)
    rw [up_up] at ih'
    rw [gX11_next_L84, hT.byte (by omega), if_pos (show τ 143 12 < L by omega), Option.bind_some, in_eq τ (by omega) (by omega) (by omega), Option.bind_some, w32_tv, tv_pos hb, if_neg (by decide), ih', show n + 1 - (m + 1) = n - m by omega]
