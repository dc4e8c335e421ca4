-- PURE LAYER: sheets
theorem tv_if0 {c : Prop} {hc : Decidable c} {T : Type} (A B : T) : (if w32 (tv c) = 0 then A else B) = if c then B else A := by
  rw [w32_tv]; unfold tv; by_cases h : c <;> simp [h]
theorem tv_if1 {c : Prop} {hc : Decidable c} {T : Type} (A B : T) : (if w32 (tv c) ≠ 0 then A else B) = if c then A else B := by
  rw [w32_tv]; unfold tv; by_cases h : c <;> simp [h]
theorem gX10_isSheet_eq (σ : St) {a : Int} (ha : w32 a = a) : gX10_isSheet σ a = some (tv (0 ≤ a ∧ a ≤ 3)) := by
  unfold gX10_isSheet tv
  rw [ha]
  repeat' split
  all_goals first | rfl | omega
theorem gX11_in32 (σ : St) {a b c : Int} (ha : w32 a = a) (hb : w64 b = b) (hc : w64 c = c) : gX11_in σ (w32 a) b c = some (tv (b ≤ a ∧ a ≤ c)) := by
  rw [gX11_in_eq σ (w64w a) hb hc, ha]
theorem fillS_at (σ : St) (k N v a b : Int) : fillS σ k N v a b = if a = k ∧ 0 ≤ b ∧ b < N then v else σ a b := rfl
/-- the reference's row of noughts -/
theorem gX11_sheet_L56_eq (F : Nat) (a b c : Int) (ha : 0 ≤ a ∧ a ≤ 3) : ∀ (m n : Nat) (i : Int) (σ : St), 0 ≤ i → i + m = 64 → m < n → ∃ σ', gX11_sheet_L56 F a b c n i σ = some (1, σ') ∧ ∀ k j, σ' k j = if k = 180 ∧ 64 * a + i ≤ j ∧ j < 64 * a + 64 then 0 else σ k j := by
  intro m
  induction m with
  | zero =>
    intro n i σ h1 h2 h3
    obtain ⟨n, rfl⟩ : ∃ n', n = n' + 1 := ⟨n - 1, by omega⟩
    refine ⟨σ, ?_, fun k j => ?_⟩
    · rw [gX11_sheet_L56, w32_id (a := i) (by omega), if_pos (by omega)]
    · rw [if_neg (by omega)]
  | succ m ih =>
    intro n i σ h1 h2 h3
    obtain ⟨n, rfl⟩ : ∃ n', n = n' + 1 := ⟨n - 1, by omega⟩
    obtain ⟨σ', e1, e2⟩ := ih n (i + 1) (up σ 180 (64 * a + i) 0) (by omega) (by omega) (by omega)
    refine ⟨σ', ?_, fun k j => ?_⟩
    · rw [gX11_sheet_L56, w32_id (a := i) (by omega), if_neg (by omega), w32_id (a := 64 * a + i) (by omega), gd_pos (by omega), e1]
    · rw [e2 k j, up_at]
      by_cases q : k = 180 ∧ 64 * a + i ≤ j ∧ j < 64 * a + 64
      · rw [if_pos q]
        by_cases q2 : j = 64 * a + i
        · rw [if_neg (by omega), if_pos (by omega)]
        · rw [if_pos (by omega)]
      · rw [if_neg q, if_neg (by omega), if_neg (by omega)]
theorem op_sheet {F : Nat} (hF : 100 ≤ F) {σ : St} {a b c : Int} (hS : InvS σ) (ha : w32 a = a) (hb : w32 b = b) (hc : w32 c = c) :
    ∃ r σ1 σ2, gX10_sheet σ a b c = some (r, σ1) ∧ gX11_sheet F σ1 a b c = some (r, σ2) ∧ InvS σ2 ∧ ∀ k j, ¬ supS k j → σ2 k j = σ k j := by
  have x1 : ∀ s, gX10_isSheet s a = some (tv (0 ≤ a ∧ a ≤ 3)) := fun s => gX10_isSheet_eq s ha
  have x2 : ∀ s, gX10_isIn s b 0 2 = some (tv (0 ≤ b ∧ b ≤ 2)) := fun s => gX10_isIn_eq s hb (by decide) (by decide)
  have m1 : ∀ s, gX11_in s (w32 a) 0 3 = some (tv (0 ≤ a ∧ a ≤ 3)) := fun s => gX11_in32 s ha (by decide) (by decide)
  have m2 : ∀ s, gX11_in s (w32 b) 0 2 = some (tv (0 ≤ b ∧ b ≤ 2)) := fun s => gX11_in32 s hb (by decide) (by decide)
  by_cases h1 : 0 ≤ a ∧ a ≤ 3
  · by_cases h2 : 0 ≤ b ∧ b ≤ 2
    · by_cases h3 : c ≤ 64
      · by_cases h4 : c ≥ 0
        · let σ1 := fillS (up (up σ (135 + 2 * a) 1 b) (135 + 2 * a) 2 c) (135 + 2 * a + 1) 64 0
          obtain ⟨σ2, e1, e2⟩ := gX11_sheet_L56_eq F a b c h1 64 F 0 (up (up σ1 178 a b) 179 a c) (by omega) (by omega) (by omega)
          refine ⟨1, σ1, σ2, ?_, ?_, ?_, ?_⟩
          · unfold gX10_sheet
            rw [x1, Option.bind_some, tv_if0, if_pos h1, x2, Option.bind_some, tv_if0, if_pos h2, hc, if_pos h3, if_pos h4, ha, gd_pos (by omega)]
            rfl
          · unfold gX11_sheet
            rw [m1, Option.bind_some, tv_if0, if_pos h1, m2, Option.bind_some, tv_if0, if_pos h2, hc, if_pos h3, if_pos h4, ha, gd_pos (by omega), gd_pos (by omega)]
            exact e1
          · intro k hk1 hk2
            have cell : ∀ q j, q ≠ 180 → σ2 q j = up (up σ1 178 a b) 179 a c q j := fun q j hq => by rw [e2, if_neg (by omega)]
            have s1 : ∀ q j, σ1 q j = if q = 136 + 2 * a ∧ 0 ≤ j ∧ j < 64 then 0 else if q = 135 + 2 * a ∧ j = 2 then c else if q = 135 + 2 * a ∧ j = 1 then b else σ q j := by
              intro q j
              show fillS _ _ _ _ q j = _
              rw [fillS_at, up_at, up_at]
              by_cases w : q = 136 + 2 * a ∧ 0 ≤ j ∧ j < 64
              · rw [if_pos (by omega), if_pos w]
              · rw [if_neg (by omega), if_neg w]
            obtain ⟨o1, o2, o3⟩ := hS k hk1 hk2
            by_cases hka : k = a
            · subst hka
              rw [cell 178 k (by omega), cell 179 k (by omega), cell (135 + 2 * k) 1 (by omega), cell (135 + 2 * k) 2 (by omega)]
              simp only [up_at, s1, true_and, and_true, if_true]
              refine ⟨?_, ?_, fun i hi1 hi2 => ?_⟩
              · (repeat (first | rw [if_pos (by omega)] | rw [if_neg (by omega)]))
                exact ⟨rfl, Or.inr h2⟩
              · (repeat (first | rw [if_pos (by omega)] | rw [if_neg (by omega)]))
                exact ⟨rfl, h4, h3⟩
              · rw [e2 180, if_pos (by omega), cell (136 + 2 * k) i (by omega)]
                simp only [up_at, s1, true_and, and_true, if_true]
                (repeat (first | rw [if_pos (by omega)] | rw [if_neg (by omega)]))
                exact ⟨rfl, by decide⟩
            · rw [cell 178 k (by omega), cell 179 k (by omega), cell (135 + 2 * k) 1 (by omega), cell (135 + 2 * k) 2 (by omega)]
              simp only [up_at, s1, true_and, and_true, if_true]
              refine ⟨?_, ?_, fun i hi1 hi2 => ?_⟩
              · (repeat (first | rw [if_pos (by omega)] | rw [if_neg (by omega)]))
                exact o1
              · (repeat (first | rw [if_pos (by omega)] | rw [if_neg (by omega)]))
                exact o2
              · rw [e2 180, if_neg (by omega), cell (136 + 2 * k) i (by omega)]
                simp only [up_at, s1, true_and, and_true, if_true]
                (repeat (first | rw [if_pos (by omega)] | rw [if_neg (by omega)]))
                exact o3 i hi1 hi2
          · intro k j hk
            unfold supS at hk
            rw [e2, if_neg (by omega)]
            show up (up (fillS (up (up σ (135 + 2 * a) 1 b) (135 + 2 * a) 2 c) (135 + 2 * a + 1) 64 0) 178 a b) 179 a c k j = _
            rw [up_at, if_neg (by omega), up_at, if_neg (by omega), fillS_at, if_neg (by omega), up_at, if_neg (by omega), up_at, if_neg (by omega)]
        · refine ⟨-14, σ, σ, ?_, ?_, hS, fun _ _ _ => rfl⟩
          · unfold gX10_sheet
            rw [x1, Option.bind_some, tv_if0, if_pos h1, x2, Option.bind_some, tv_if0, if_pos h2, hc, if_pos h3, if_neg h4]
          · unfold gX11_sheet
            rw [m1, Option.bind_some, tv_if0, if_pos h1, m2, Option.bind_some, tv_if0, if_pos h2, hc, if_pos h3, if_neg h4]
      · refine ⟨-1, σ, σ, ?_, ?_, hS, fun _ _ _ => rfl⟩
        · unfold gX10_sheet
          rw [x1, Option.bind_some, tv_if0, if_pos h1, x2, Option.bind_some, tv_if0, if_pos h2, hc, if_neg h3]
        · unfold gX11_sheet
          rw [m1, Option.bind_some, tv_if0, if_pos h1, m2, Option.bind_some, tv_if0, if_pos h2, hc, if_neg h3]
    · refine ⟨-1, σ, σ, ?_, ?_, hS, fun _ _ _ => rfl⟩
      · unfold gX10_sheet
        rw [x1, Option.bind_some, tv_if0, if_pos h1, x2, Option.bind_some, tv_if0, if_neg h2]
      · unfold gX11_sheet
        rw [m1, Option.bind_some, tv_if0, if_pos h1, m2, Option.bind_some, tv_if0, if_neg h2]
  · refine ⟨-1, σ, σ, ?_, ?_, hS, fun _ _ _ => rfl⟩
    · unfold gX10_sheet
      rw [x1, Option.bind_some, tv_if0, if_neg h1]
    · unfold gX11_sheet
      rw [m1, Option.bind_some, tv_if0, if_neg h1]
