-- PURE LAYER: the choice, reference
theorem aheadM_6 {F : Nat} (hF : 100 ≤ F) {σ : St} {r g p q : Int} (h : MOK σ) (hr : 0 ≤ r ∧ r < 6) (hR : RuleOK σ r) (hg : 0 ≤ g ∧ g < 9) (hp : 0 ≤ p ∧ p < σ 143 26) (hq : 0 ≤ q ∧ q < σ 143 26) : ∀ (m n : Nat) (i : Int), 0 ≤ i → i + m = σ (63 + 12 * r) 8 → m < n → gX11_isAhead_L6 F σ r g p q n (6 * r + i) = some (pAhd (kM σ g p) (kM σ g q) (σ (64 + 12 * r)) (σ (65 + 12 * r)) m i) := by
  obtain ⟨⟨a1, a2, a3⟩, a4, -⟩ := hR
  intro m
  induction m with
  | zero =>
    intro n i h1 h2 h3
    obtain ⟨n, rfl⟩ : ∃ n', n = n' + 1 := ⟨n - 1, by omega⟩
    rw [gX11_isAhead_L6, w32_id (a := r) (by omega), gd_pos (by omega), w32_id (a := 6 * r + i) (by omega), a3, w32_id (a := 6 * r + σ (63 + 12 * r) 8) (by omega), if_pos (by omega)]
    rfl
  | succ m ih =>
    intro n i h1 h2 h3
    obtain ⟨n, rfl⟩ : ∃ n', n = n' + 1 := ⟨n - 1, by omega⟩
    obtain ⟨b1', b2, b3⟩ := a4 i h1 (by omega)
    obtain ⟨k1, k2, k3⟩ := keyM_eq hF h b1' hg hp
    obtain ⟨l1, l2, l3⟩ := keyM_eq hF h b1' hg hq
    have ei : irm (σ 151 (6 * r + i)) 10 = σ (64 + 12 * r) i := by rw [irm_eq (by omega) (by omega)]; omega
    have e : pAhd (kM σ g p) (kM σ g q) (σ (64 + 12 * r)) (σ (65 + 12 * r)) (m + 1) i = if kM σ g p (σ (64 + 12 * r) i) = kM σ g q (σ (64 + 12 * r) i) then pAhd (kM σ g p) (kM σ g q) (σ (64 + 12 * r)) (σ (65 + 12 * r)) m (i + 1) else if σ (65 + 12 * r) i = 0 then (if kM σ g p (σ (64 + 12 * r) i) ≤ kM σ g q (σ (64 + 12 * r) i) then 0 else 1) else (if kM σ g p (σ (64 + 12 * r) i) ≥ kM σ g q (σ (64 + 12 * r) i) then 0 else 1) := rfl
    rw [gX11_isAhead_L6, w32_id (a := r) (by omega), gd_pos (by omega), w32_id (a := 6 * r + i) (by omega), a3, w32_id (a := 6 * r + σ (63 + 12 * r) 8) (by omega), if_neg (by omega), gd_pos (by omega), gd_pos (by decide), ei, k1, Option.bind_some, gd_pos (by omega), gd_pos (by decide), l1, Option.bind_some, w32_id (a := kM σ g p (σ (64 + 12 * r) i)) (by omega), w32_id (a := kM σ g q (σ (64 + 12 * r) i)) (by omega), gd_pos (by omega), w32_id (a := σ 151 (6 * r + i)) (by omega), e, show 6 * r + i + 1 = 6 * r + (i + 1) by omega, ih n (i + 1) (by omega) (by omega) (by omega)]
    by_cases q1 : kM σ g p (σ (64 + 12 * r) i) = kM σ g q (σ (64 + 12 * r) i)
    · rw [if_pos q1, if_pos q1]
    · rw [if_neg q1, if_neg q1]
      rcases b2 with b2 | b2
      · rw [if_neg (by omega), if_pos b2]
        split <;> rfl
      · rw [if_pos (by omega), if_neg (show ¬ σ (65 + 12 * r) i = 0 by omega)]
        split <;> rfl
theorem pCh_in (can pass : Int → Int) (ahead : Int → Int → Int) : ∀ (m : Nat) (x i : Int), (x = -4 ∨ 0 ≤ x ∧ x < i ∧ can x ≠ 0) → 0 ≤ i → pCh can pass ahead m x i = -4 ∨ 0 ≤ pCh can pass ahead m x i ∧ pCh can pass ahead m x i < i + m ∧ can (pCh can pass ahead m x i) ≠ 0 := by
  intro m
  induction m with
  | zero =>
    intro x i h _
    show x = -4 ∨ 0 ≤ x ∧ x < i + ((0 : Nat) : Int) ∧ can x ≠ 0
    rcases h with h | h
    · exact Or.inl h
    · exact Or.inr ⟨h.1, by omega, h.2.2⟩
  | succ m ih =>
    intro x i h hi
    have h1 := ih (if can i ≠ 0 ∧ pass i ≠ 0 ∧ (x = -4 ∨ ahead i x ≠ 0) then i else x) (i + 1) (by
      split
      · rename_i q; exact Or.inr ⟨hi, by omega, q.1⟩
      · rcases h with h | h
        · exact Or.inl h
        · exact Or.inr ⟨h.1, by omega, h.2.2⟩) (by omega)
    have e : pCh can pass ahead (m + 1) x i = pCh can pass ahead m (if can i ≠ 0 ∧ pass i ≠ 0 ∧ (x = -4 ∨ ahead i x ≠ 0) then i else x) (i + 1) := rfl
    rw [e]
    rcases h1 with h1 | h1
    · exact Or.inl h1
    · exact Or.inr ⟨h1.1, by omega, h1.2.2⟩
theorem comes_26 {F : Nat} (hF : 100 ≤ F) {σ : St} {r g : Int} (h : MOK σ) (hr : 0 ≤ r ∧ r < 6) (hR : RuleOK σ r) (hg : 0 ≤ g ∧ g < 9) : ∀ (m n : Nat) (x i : Int), (x = -4 ∨ 0 ≤ x ∧ x < i) → 0 ≤ i → i + m = σ 143 26 → m < n → gX11_comes_L26 F g r n x i σ = if pCh (canM σ g r) (passM σ g r) (ahdM σ g r) m x i = -4 then some (pCh (canM σ g r) (passM σ g r) (ahdM σ g r) m x i, σ) else (gX11_takes F σ g (pCh (canM σ g r) (passM σ g r) (ahdM σ g r) m x i)).bind fun r1 => some (pCh (canM σ g r) (passM σ g r) (ahdM σ g r) m x i, r1.2) := by
  have hP := h.1
  intro m
  induction m with
  | zero =>
    intro n x i hx h1 h2 h3
    obtain ⟨n, rfl⟩ : ∃ n', n = n' + 1 := ⟨n - 1, by omega⟩
    rw [gX11_comes_L26, w32_id (a := i) (by omega), w32_id (a := σ 143 26) (by omega), if_pos (by omega), w32_id (a := x) (by omega)]
    rfl
  | succ m ih =>
    intro n x i hx h1 h2 h3
    obtain ⟨n, rfl⟩ : ∃ n', n = n' + 1 := ⟨n - 1, by omega⟩
    have hi : 0 ≤ i ∧ i < σ 143 26 := by omega
    have e : pCh (canM σ g r) (passM σ g r) (ahdM σ g r) (m + 1) x i = pCh (canM σ g r) (passM σ g r) (ahdM σ g r) m (if canM σ g r i ≠ 0 ∧ passM σ g r i ≠ 0 ∧ (x = -4 ∨ ahdM σ g r i x ≠ 0) then i else x) (i + 1) := rfl
    have hp01 := pPass_01 (kM σ g i) (σ (66 + 12 * r)) (σ (67 + 12 * r)) (σ (68 + 12 * r)) (σ (63 + 12 * r) 9).toNat 0
    have hpw : w32 (if canM σ g r i = 0 then 0 else passM σ g r i) = if canM σ g r i = 0 then 0 else passM σ g r i := by
      split
      · decide
      · exact w32_id (by unfold passM; omega)
    rw [gX11_comes_L26, w32_id (a := i) (by omega), w32_id (a := σ 143 26) (by omega), if_neg (by omega), canHave_eq hF h hr hR hg hi, Option.bind_some, hpw, w32_id (a := x) (by omega), e]
    have cn : ¬ (canM σ g r i ≠ 0 ∧ passM σ g r i ≠ 0 ∧ (x = -4 ∨ ahdM σ g r i x ≠ 0)) → (if (canM σ g r i ≠ 0 ∧ passM σ g r i ≠ 0 ∧ (x = -4 ∨ ahdM σ g r i x ≠ 0)) then i else x) = x := fun z => if_neg z
    have cp : (canM σ g r i ≠ 0 ∧ passM σ g r i ≠ 0 ∧ (x = -4 ∨ ahdM σ g r i x ≠ 0)) → (if (canM σ g r i ≠ 0 ∧ passM σ g r i ≠ 0 ∧ (x = -4 ∨ ahdM σ g r i x ≠ 0)) then i else x) = i := fun z => if_pos z
    unfold gX11_comes_L64 gX11_comes_L67
    by_cases q1 : canM σ g r i = 0
    · rw [if_pos q1, if_pos rfl, cn (fun z => z.1 q1), ih n x (i + 1) (by omega) (by omega) (by omega) (by omega)]
    · rw [if_neg q1]
      by_cases q2 : passM σ g r i = 0
      · rw [if_pos q2, cn (fun z => z.2.1 q2), ih n x (i + 1) (by omega) (by omega) (by omega) (by omega)]
      · rw [if_neg q2]
        by_cases q3 : x = -4
        · rw [if_pos q3, cp ⟨q1, q2, Or.inl q3⟩, ih n i (i + 1) (by omega) (by omega) (by omega) (by omega)]
        · have hk := hR.1
          have ha : gX11_isAhead F σ r g i x = some (ahdM σ g r i x) := by
            have := aheadM_6 hF h hr hR hg hi (q := x) (by omega) (σ (63 + 12 * r) 8).toNat F 0 (by omega) (by omega) (by omega)
            rw [Int.add_zero] at this
            exact this
          have ha01 := pAhd_01 (kM σ g i) (kM σ g x) (σ (64 + 12 * r)) (σ (65 + 12 * r)) (σ (63 + 12 * r) 8).toNat 0
          have haw : w32 (ahdM σ g r i x) = ahdM σ g r i x := w32_id (by unfold ahdM; omega)
          rw [if_neg q3, ha, Option.bind_some, haw]
          by_cases q4 : ahdM σ g r i x = 0
          · rw [if_pos q4, cn (fun z => by rcases z.2.2 with z | z; exact q3 z; exact z q4), ih n x (i + 1) (by omega) (by omega) (by omega) (by omega)]
          · rw [if_neg q4, cp ⟨q1, q2, Or.inr q4⟩, ih n i (i + 1) (by omega) (by omega) (by omega) (by omega)]
