-- PURE LAYER: the class's run and the reference's
/-- the reference's area holds run k; the place of guest e in the coming is left open -/
def RelB (σ : St) (k : Int) (τ : St) (e : Int) : Prop :=
  (τ 143 26 = σ (bd k) 5 ∧ τ 143 27 = σ (bd k) 6) ∧ (∀ p, 0 ≤ p → p < 6 → τ 159 p = σ (bd k + 1) p ∧ τ 160 p = σ (bd k + 2) p ∧ τ 161 p = σ (bd k + 3) p ∧ τ 163 p = σ (k + 2) p) ∧
  (∀ j, 0 ≤ j → j < 54 → τ 162 j = σ (bd k + 5) j) ∧ ∀ g, 0 ≤ g → g < 9 → τ 164 g = σ (k + 3) g ∧ (g ≠ e → τ 165 g = σ (k + 4) g)
theorem cntN_congr {f f' : Int → Int} (p : Int) (h : ∀ g, 0 ≤ g → g < 9 → f g = f' g) : cntN f p = cntN f' p :=
  sumN_congr 9 0 (fun i h1 h2 => by rw [h i h1 (by omega)])
theorem rel_key {σ τ : St} {k e g p : Int} (h : RelB σ k τ e) (hg : 0 ≤ g ∧ g < 9) (hp : 0 ≤ p ∧ p < 6) : kM τ g p = kC σ k g p := by
  obtain ⟨-, h2, h3, h4⟩ := h
  funext t
  obtain ⟨a1, a2, a3, a4⟩ := h2 p hp.1 hp.2
  unfold kM kC pKey
  rw [a1, a2, a4, h3 (6 * g + p) (by omega) (by omega), cntN_congr p (fun g q1 q2 => (h4 g q1 q2).1)]
theorem pWk_congr {pair seq w pair' seq' w' : Int → Int} {p : Int} (hp : 0 ≤ p ∧ p < 6) (h1 : ∀ g, 0 ≤ g → g < 9 → pair g = pair' g ∧ (pair g = p → seq g = seq' g)) (h2 : ∀ j, 0 ≤ j → j < 54 → w j = w' j) : ∀ (m : Nat) (x i : Int), (x = -4 ∨ 0 ≤ x ∧ x < 9 ∧ pair x = p) → 0 ≤ i → i + m ≤ 9 → pWk pair seq w p m x i = pWk pair' seq' w' p m x i := by
  intro m
  induction m with
  | zero => intro x i _ _ _; rfl
  | succ m ih =>
    intro x i hx q1 q2
    have e : ∀ (a b c : Int → Int), pWk a b c p (m + 1) x i = pWk a b c p m (if a i = p ∧ (x = -4 ∨ c (6 * i + p) < c (6 * x + p) ∨ (c (6 * i + p) = c (6 * x + p) ∧ b x < b i)) then i else x) (i + 1) := fun a b c => rfl
    have hi := h1 i q1 (by omega)
    have wi := h2 (6 * i + p) (by omega) (by omega)
    have ec : (if pair i = p ∧ (x = -4 ∨ w (6 * i + p) < w (6 * x + p) ∨ (w (6 * i + p) = w (6 * x + p) ∧ seq x < seq i)) then i else x) = (if pair' i = p ∧ (x = -4 ∨ w' (6 * i + p) < w' (6 * x + p) ∨ (w' (6 * i + p) = w' (6 * x + p) ∧ seq' x < seq' i)) then i else x) := by
      rw [← hi.1]
      by_cases z : pair i = p
      · rcases hx with hx | hx
        · rw [if_pos ⟨z, Or.inl hx⟩, if_pos ⟨z, Or.inl hx⟩]
        · rw [← wi, ← h2 (6 * x + p) (by omega) (by omega), ← (h1 x hx.1 hx.2.1).2 hx.2.2, ← hi.2 z]
      · rw [if_neg (fun y => z y.1), if_neg (fun y => z y.1)]
    rw [e, e, ← ec]
    refine ih _ (i + 1) ?_ (by omega) (by omega)
    split
    · rename_i y; exact Or.inr ⟨q1, by omega, y.1⟩
    · exact hx
theorem rel_wk {σ τ : St} {k e p : Int} (h : RelB σ k τ e) (hB : BdOK σ (bd k)) (hp : 0 ≤ p ∧ p < 6) (he : σ (k + 3) e ≠ p) : wkM τ p = wkC σ k p := by
  obtain ⟨h1, h2, h3, h4⟩ := h
  have hG := hB.2.1
  unfold wkM wkC
  rw [h1.2]
  refine pWk_congr hp (fun g q1 q2 => ⟨(h4 g q1 q2).1, fun q3 => (h4 g q1 q2).2 (fun z => he ?_)⟩) h3 _ _ _ (Or.inl rfl) (by omega) (by omega)
  rw [← z, ← (h4 g q1 q2).1]; exact q3
theorem rel_can {σ τ : St} {k e p g r : Int} (h : RelB σ k τ e) (hB : BdOK σ (bd k)) (hS : StOK σ k) (hg : 0 ≤ g ∧ g < 9) (hp : 0 ≤ p ∧ p < 6) (he : σ (k + 3) e ≠ p) (hr : τ (63 + 12 * r) 10 = σ (63 + 12 * r) 10) : canM τ g r p = canC σ k g (63 + 12 * r) p := by
  have hw := rel_wk h hB hp he
  obtain ⟨h1, h2, h3, h4⟩ := h
  obtain ⟨a1, a2, a3, a4⟩ := h2 p hp.1 hp.2
  have hG := hB.2.1
  have hin := pWk_in (σ (k + 3)) (σ (k + 4)) (σ (bd k + 5)) p (σ (bd k) 6).toNat (-4) 0 (Or.inl rfl) (by omega)
  have hw' : pWk (τ 164) (τ 165) (τ 162) p (τ 143 27).toNat (-4) 0 = pWk (σ (k + 3)) (σ (k + 4)) (σ (bd k + 5)) p (σ (bd k) 6).toNat (-4) 0 := hw
  unfold canM canC pCan
  rw [hw', a1, a3, a4, hr, h3 (6 * g + p) (by omega) (by omega), cntN_congr p (fun g q1 q2 => (h4 g q1 q2).1)]
  generalize pWk (σ (k + 3)) (σ (k + 4)) (σ (bd k + 5)) p (σ (bd k) 6).toNat (-4) 0 = x at hin
  rcases hin with hin | hin
  · rw [hin]
    by_cases q : 0 < σ (bd k + 5) (6 * g + p) ∧ σ (k + 2) p < σ (bd k + 3) p ∧ 0 < σ (bd k + 1) p - cntN (σ (k + 3)) p
    · rw [if_pos ⟨q.1, q.2.1, Or.inl q.2.2⟩, if_pos ⟨q.1, q.2.1, Or.inl q.2.2⟩]
    · rw [if_neg (by omega), if_neg (by omega)]
  · rw [h3 (6 * x + p) (by omega) (by omega)]
theorem pCh_congr {can can' pass pass' : Int → Int} {ah ah' : Int → Int → Int} {P : Int} (h : ∀ p, 0 ≤ p → p < P → can p = can' p ∧ pass p = pass' p ∧ ∀ q, 0 ≤ q → q < P → ah p q = ah' p q) : ∀ (m : Nat) (x i : Int), (x = -4 ∨ 0 ≤ x ∧ x < P) → 0 ≤ i → i + m ≤ P → pCh can pass ah m x i = pCh can' pass' ah' m x i := by
  intro m
  induction m with
  | zero => intro x i _ _ _; rfl
  | succ m ih =>
    intro x i hx q1 q2
    obtain ⟨a1, a2, a3⟩ := h i q1 (by omega)
    have e : ∀ (c d : Int → Int) (f : Int → Int → Int), pCh c d f (m + 1) x i = pCh c d f m (if c i ≠ 0 ∧ d i ≠ 0 ∧ (x = -4 ∨ f i x ≠ 0) then i else x) (i + 1) := fun c d f => rfl
    have ec : (if can i ≠ 0 ∧ pass i ≠ 0 ∧ (x = -4 ∨ ah i x ≠ 0) then i else x) = (if can' i ≠ 0 ∧ pass' i ≠ 0 ∧ (x = -4 ∨ ah' i x ≠ 0) then i else x) := by
      rcases hx with hx | hx
      · rw [a1, a2, hx]
        by_cases z : can' i ≠ 0 ∧ pass' i ≠ 0
        · rw [if_pos ⟨z.1, z.2, Or.inl rfl⟩, if_pos ⟨z.1, z.2, Or.inl rfl⟩]
        · rw [if_neg (fun y => z ⟨y.1, y.2.1⟩), if_neg (fun y => z ⟨y.1, y.2.1⟩)]
      · rw [a1, a2, a3 x hx.1 hx.2]
    rw [e, e, ← ec]
    refine ih _ (i + 1) ?_ (by omega) (by omega)
    split
    · exact Or.inr ⟨q1, by omega⟩
    · exact hx
