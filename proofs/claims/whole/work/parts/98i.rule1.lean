-- PURE LAYER: rule (1): the rule's tables of both sides while it is read
theorem pigeon : ∀ (m n : Nat) (f : Int → Int), (∀ i : Int, 0 ≤ i → i < n → 0 ≤ f i ∧ f i < m) → (∀ i j : Int, 0 ≤ i → i < j → j < n → f i ≠ f j) → n ≤ m := by
  intro m
  induction m with
  | zero =>
    intro n f h1 h2
    by_cases q : n = 0
    · omega
    · have := h1 0 (by omega) (by omega)
      omega
  | succ m ih =>
    intro n f h1 h2
    by_cases q : ∃ t, 0 ≤ t ∧ t < (n : Int) ∧ f t = m
    · obtain ⟨t, t1, t2, t3⟩ := q
      obtain ⟨n, rfl⟩ : ∃ n', n = n' + 1 := ⟨n - 1, by omega⟩
      have g := ih n (fun i => if i = t then f n else f i) (fun i i1 i2 => ?_) (fun i j i1 i2 i3 => ?_)
      · omega
      · show 0 ≤ (if i = t then f n else f i) ∧ (if i = t then f n else f i) < m
        by_cases w : i = t
        · rw [if_pos w]
          have a := h1 n (by omega) (by omega)
          have c := h2 t n t1 (by omega) (by omega)
          omega
        · rw [if_neg w]
          have a := h1 i (by omega) (by omega)
          have c : f i ≠ f t := by
            rcases Int.lt_or_gt_of_ne w with v | v
            · exact h2 i t i1 v t2
            · exact (h2 t i t1 v (by omega)).symm
          omega
      · show (if i = t then f n else f i) ≠ (if j = t then f n else f j)
        by_cases w : i = t
        · rw [if_pos w, if_neg (by omega)]
          exact (h2 j n (by omega) (by omega) (by omega)).symm
        · by_cases v : j = t
          · rw [if_neg w, if_pos v]
            exact h2 i n i1 (by omega) (by omega)
          · rw [if_neg w, if_neg v]
            exact h2 i j i1 i2 (by omega)
    · have g := ih n f (fun i i1 i2 => ?_) h2
      · omega
      · have a := h1 i i1 i2
        have c : f i ≠ m := fun e => q ⟨i, i1, i2, e⟩
        omega
/-- the rule's tables of both sides, as far as read -/
def KT (R : Int) (σ τ : St) : Prop :=
  τ 150 R = σ (63 + 12 * R) 8 ∧
  (∀ i, 0 ≤ i → i < σ (63 + 12 * R) 8 → (0 ≤ σ (63 + 12 * R + 1) i ∧ σ (63 + 12 * R + 1) i ≤ 5) ∧ (σ (63 + 12 * R + 2) i = 0 ∨ σ (63 + 12 * R + 2) i = 1) ∧ τ 151 (6 * R + i) = σ (63 + 12 * R + 1) i + 10 * σ (63 + 12 * R + 2) i) ∧
  (∀ i j, 0 ≤ i → i < j → j < σ (63 + 12 * R) 8 → σ (63 + 12 * R + 1) i ≠ σ (63 + 12 * R + 1) j) ∧
  τ 152 R = σ (63 + 12 * R) 9 ∧
  (∀ i, 0 ≤ i → i < σ (63 + 12 * R) 9 → (0 ≤ σ (63 + 12 * R + 3) i ∧ σ (63 + 12 * R + 3) i ≤ 5) ∧ τ 153 (4 * R + i) = σ (63 + 12 * R + 3) i ∧ (σ (63 + 12 * R + 4) i = 1 ∧ τ 154 (4 * R + i) = 60 ∨ σ (63 + 12 * R + 4) i = 0 ∧ τ 154 (4 * R + i) = 62) ∧ (0 ≤ σ (63 + 12 * R + 5) i ∧ σ (63 + 12 * R + 5) i ≤ 999) ∧ τ 155 (4 * R + i) = σ (63 + 12 * R + 5) i) ∧
  ((σ (63 + 12 * R) 10 = 0 ∨ σ (63 + 12 * R) 10 = 1) ∧ τ 156 R = σ (63 + 12 * R) 10)
def QR (b : Int → Int) (L R : Int) (σ τ : St) : Prop := PR b L σ τ ∧ (0 ≤ R ∧ R < 6 ∧ τ 143 16 = R) ∧ ((0 ≤ σ (63 + 12 * R) 8 ∧ σ (63 + 12 * R) 8 ≤ 6) ∧ (0 ≤ σ (63 + 12 * R) 9 ∧ σ (63 + 12 * R) 9 ≤ 4)) ∧ (σ 57 1 = 0 → KT R σ τ)
def frCK (R : Int) (σ σ' : St) : Prop := ∀ c j, ¬ (c = 57 ∧ 1 ≤ j ∧ j ≤ 7) → ¬ (c = 63 + 12 * R ∧ 8 ≤ j ∧ j ≤ 10) → ¬ (63 + 12 * R + 1 ≤ c ∧ c ≤ 63 + 12 * R + 5) → σ' c j = σ c j
def frMK (R : Int) (τ τ' : St) : Prop := ∀ c j, ¬ (c = 143 ∧ 10 ≤ j ∧ j ≤ 15) → ¬ ((c = 150 ∨ c = 152 ∨ c = 156) ∧ j = R) → ¬ (c = 151 ∧ 6 * R ≤ j ∧ j < 6 * R + 6) → ¬ (153 ≤ c ∧ c ≤ 155 ∧ 4 * R ≤ j ∧ j < 4 * R + 4) → τ' c j = τ c j
theorem frCK.refl (R : Int) (σ : St) : frCK R σ σ := fun _ _ _ _ _ => rfl
theorem frMK.refl (R : Int) (σ : St) : frMK R σ σ := fun _ _ _ _ _ _ => rfl
theorem frCK.trans {R : Int} {a b c : St} (h : frCK R a b) (g : frCK R b c) : frCK R a c := fun x y q1 q2 q3 => (g x y q1 q2 q3).trans (h x y q1 q2 q3)
theorem frMK.trans {R : Int} {a b c : St} (h : frMK R a b) (g : frMK R b c) : frMK R a c := fun x y q1 q2 q3 q4 => (g x y q1 q2 q3 q4).trans (h x y q1 q2 q3 q4)
theorem frC.k {σ σ' : St} (h : frC σ σ') (R : Int) : frCK R σ σ' := fun x y q1 _ _ => h x y q1
theorem frM.k {σ σ' : St} (h : frM σ σ') (R : Int) : frMK R σ σ' := fun x y q1 _ _ _ => h x y q1
theorem KT.fr {R : Int} {σ σ' τ τ' : St} (hR : 0 ≤ R ∧ R < 6) (h : KT R σ τ) (f : frC σ σ') (g : frM τ τ') : KT R σ' τ' := by
  have c : ∀ k, k ≠ 57 → σ' k = σ k := fun k hk => by funext j; exact f k j (by omega)
  have m : ∀ k, k ≠ 143 → τ' k = τ k := fun k hk => by funext j; exact g k j (by omega)
  unfold KT at h ⊢
  rw [c (63 + 12 * R) (by omega), c (63 + 12 * R + 1) (by omega), c (63 + 12 * R + 2) (by omega), c (63 + 12 * R + 3) (by omega), c (63 + 12 * R + 4) (by omega), c (63 + 12 * R + 5) (by omega), m 150 (by omega), m 151 (by omega), m 152 (by omega), m 153 (by omega), m 154 (by omega), m 155 (by omega), m 156 (by omega)]
  exact h
/-- a step that reads on, or fails: the tables stay -/
theorem QR.fr {b : Int → Int} {L R : Int} {σ τ σ' τ' : St} (h : QR b L R σ τ) (p : PR b L σ' τ') (f : frC σ σ') (g : frM τ τ') (z : σ' 57 1 = 0 → σ 57 1 = 0) : QR b L R σ' τ' := by
  obtain ⟨h1, h2, h3, h4⟩ := h
  refine ⟨p, by rw [g 143 16 (by omega)]; exact h2, by rw [f (63 + 12 * R) 8 (by omega), f (63 + 12 * R) 9 (by omega)]; exact h3, fun q => (h4 (z q)).fr ⟨h2.1, h2.2.1⟩ f g⟩
def DQ (b : Int → Int) (L R : Int) (σ τ : St) (x y : Option St) : Prop := ∃ σ' τ', x = some σ' ∧ y = some τ' ∧ QR b L R σ' τ' ∧ frCK R σ σ' ∧ frMK R τ τ' ∧ σ (63 + 12 * R) 8 ≤ σ' (63 + 12 * R) 8
theorem frC.m8 {σ σ' : St} (f : frC σ σ') {R : Int} (hR : 0 ≤ R) : σ (63 + 12 * R) 8 ≤ σ' (63 + 12 * R) 8 := Int.le_of_eq (f _ _ (by omega)).symm
theorem adv_fault (F : Nat) {σ : St} (h : 0 ≤ σ 57 1 ∧ σ 57 1 ≤ 5) (q : σ 57 1 ≠ 0) : gX8_advance F σ = some σ := by
  unfold gX8_advance
  rw [w32_id (by omega), if_neg q]
theorem nxt_fault (F : Nat) {τ : St} (h : 0 ≤ τ 143 10 ∧ τ 143 10 ≤ 5) (q : τ 143 10 ≠ 0) : gX11_next F τ = some τ := by
  unfold gX11_next
  rw [w32_id (by omega), if_neg (by omega)]
theorem QR.next {F : Nat} (hF : 300 ≤ F) {b : Int → Int} {L R : Int} {σ τ : St} (h : QR b L R σ τ) : ∃ σ' τ', gX8_advance F σ = some σ' ∧ gX11_next F τ = some τ' ∧ QR b L R σ' τ' ∧ frC σ σ' ∧ frM τ τ' := by
  by_cases z : σ 57 1 = 0
  · obtain ⟨σ', τ', a1, a2, a3, a4, a5⟩ := adv_next hF h.1.1 h.1.2.1 h.1.2.2.1 (fun q => (h.1.2.2.2 q).1)
    exact ⟨σ', τ', a1, a2, h.fr a3 a4 a5 (fun _ => z), a4, a5⟩
  · have f := h.1.2.2.1
    exact ⟨σ, τ, adv_fault F f.2.1 z, nxt_fault F (by rw [← f.1]; exact f.2.1) (by rw [← f.1]; exact z), h, frC.refl σ, frM.refl τ⟩
theorem QR.fail {b : Int → Int} {L R : Int} {σ τ : St} (h : QR b L R σ τ) {x : Int} (hx : 1 ≤ x ∧ x ≤ 5) : ∃ σ' τ', gX8_fail σ x = some σ' ∧ gX11_fails τ x = some τ' ∧ QR b L R σ' τ' ∧ σ' 57 1 ≠ 0 ∧ frC σ σ' ∧ frM τ τ' := by
  obtain ⟨σ', τ', a1, a2, a3, a4, a5, a6⟩ := fails_both h.1.1 h.1.2.1 h.1.2.2.1 hx (fun q => (h.1.2.2.2 q).2.1)
  exact ⟨σ', τ', a1, a2, h.fr a3 a5 a6 (fun q => absurd q a4), a4, a5, a6⟩
/-- with a fault, class's fail does nothing -/
theorem fail_fault {b : Int → Int} {L R : Int} {σ τ : St} (h : QR b L R σ τ) (q : σ 57 1 ≠ 0) (x : Int) : gX8_fail σ x = some σ := by
  have f := h.1.2.2.1
  unfold gX8_fail gX8_fail_L20
  rw [w32_id (by have := f.2.1; omega), if_pos q, up_same (f.2.2 q).2.2]
theorem fails_fault {b : Int → Int} {L R : Int} {σ τ : St} (h : QR b L R σ τ) (q : σ 57 1 ≠ 0) (x : Int) : gX11_fails τ x = some τ := by
  have f := h.1.2.2.1
  unfold gX11_fails
  rw [← f.1, w32_id (by have := f.2.1; omega), if_pos q]
/-- class's token number stays small -/
theorem QR.tk {b : Int → Int} {L R : Int} {σ τ : St} (h : QR b L R σ τ) : 0 ≤ σ 57 5 ∧ σ 57 5 ≤ 18 := by
  by_cases q : σ 57 1 = 0
  · have t := (h.1.2.2.2 q).2.2
    unfold tok at t
    omega
  · have := (h.1.2.2.1.2.2 q).2.2
    omega
theorem QR.isSign {b : Int → Int} {L R : Int} {σ τ : St} (h : QR b L R σ τ) (z : σ 57 1 = 0) {t w : Int} (htw : t = 10 ∧ w = 43 ∨ t = 11 ∧ w = 45 ∨ t = 12 ∧ w = 44 ∨ t = 13 ∧ w = 60 ∨ t = 14 ∧ w = 62 ∨ t = 15 ∧ w = 59) : gX11_isSign τ w = some (tv (σ 57 5 = t)) := by
  have k := (h.1.2.2.2 z).2.2
  have q : (τ 143 14 = 0 ∨ τ 143 14 = 1 ∨ τ 143 14 = 2 ∨ τ 143 14 = 3) ∧ (0 ≤ τ 143 15 ∧ τ 143 15 ≤ 999) ∧ (σ 57 5 = t ↔ (τ 143 14 = 3 ∧ τ 143 15 = w)) := by
    unfold tok at k
    rcases k with k | k | k | k | k | k | k | k | k <;> omega
  obtain ⟨q1, q2, q3⟩ := q
  unfold gX11_isSign
  rw [w32_id (a := τ 143 14) (by omega), w32_id (a := τ 143 15) (by omega), w32_id (a := w) (by omega)]
  unfold tv
  repeat' split
  all_goals first | rfl | omega
theorem QR.isName {b : Int → Int} {L R : Int} {σ τ : St} (h : QR b L R σ τ) (z : σ 57 1 = 0) {t : Int} (ht : 0 ≤ t ∧ t ≤ 9) : gX11_isName τ t = some (tv (σ 57 5 = t)) := by
  have k := (h.1.2.2.2 z).2.2
  have q : (τ 143 14 = 0 ∨ τ 143 14 = 1 ∨ τ 143 14 = 2 ∨ τ 143 14 = 3) ∧ (0 ≤ τ 143 15 ∧ τ 143 15 ≤ 999) ∧ (σ 57 5 = t ↔ (τ 143 14 = 1 ∧ τ 143 15 = t)) := by
    unfold tok at k
    rcases k with k | k | k | k | k | k | k | k | k <;> omega
  obtain ⟨q1, q2, q3⟩ := q
  unfold gX11_isName
  rw [w32_id (a := τ 143 14) (by omega), w32_id (a := τ 143 15) (by omega), w32_id (a := t) (by omega)]
  unfold tv
  repeat' split
  all_goals first | rfl | omega
theorem QR.isKey {b : Int → Int} {L R : Int} {σ τ : St} (h : QR b L R σ τ) (z : σ 57 1 = 0) : gX11_isKey τ = some (tv (σ 57 5 < 6)) ∧ (σ 57 5 < 6 → τ 143 15 = σ 57 5) := by
  have k := (h.1.2.2.2 z).2.2
  have q : (τ 143 14 = 0 ∨ τ 143 14 = 1 ∨ τ 143 14 = 2 ∨ τ 143 14 = 3) ∧ (0 ≤ τ 143 15 ∧ τ 143 15 ≤ 999) ∧ (σ 57 5 < 6 ↔ (τ 143 14 = 1 ∧ τ 143 15 ≤ 5)) ∧ (σ 57 5 < 6 → τ 143 15 = σ 57 5) := by
    unfold tok at k
    rcases k with k | k | k | k | k | k | k | k | k <;> omega
  obtain ⟨q1, q2, q3, q4⟩ := q
  refine ⟨?_, q4⟩
  unfold gX11_isKey
  rw [w32_id (a := τ 143 14) (by omega), w32_id (a := τ 143 15) (by omega)]
  unfold tv
  repeat' split
  all_goals first | rfl | omega
theorem isKey_eq {b : Int → Int} {L R : Int} {σ τ : St} (h : QR b L R σ τ) : gX8_isKey σ (σ 57 5) = some (tv (σ 57 5 < 6)) := by
  have t := h.tk
  unfold gX8_isKey tv
  rw [w32_id (by omega)]
  repeat' split
  all_goals first | rfl | omega
