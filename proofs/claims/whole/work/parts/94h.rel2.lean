-- PURE LAYER: the same choice; counting after one change
theorem rel_choice {σ τ : St} {k g r : Int} (h : RelB σ k τ g) (hB : BdOK σ (bd k)) (hS : StOK σ k) (hg : 0 ≤ g ∧ g < 9) (he : σ (k + 3) g = -4) (hc : ∀ c, 63 + 12 * r ≤ c → c ≤ 68 + 12 * r → τ c = σ c) : pCh (canM τ g r) (passM τ g r) (ahdM τ g r) (σ (bd k) 5).toNat (-4) 0 = pCh (canC σ k g (63 + 12 * r)) (passC σ k g (63 + 12 * r)) (ahdC σ k g (63 + 12 * r)) (σ (bd k) 5).toNat (-4) 0 := by
  have hP := hB.1
  refine pCh_congr (P := σ (bd k) 5) (fun p h1 h2 => ⟨?_, ?_, fun q h3 h4 => ?_⟩) _ _ _ (Or.inl rfl) (by omega) (by omega)
  · exact rel_can h hB hS hg (by omega) (by omega) (by rw [hc (63 + 12 * r) (by omega) (by omega)])
  · unfold passM passC
    rw [rel_key h hg (by omega), hc (63 + 12 * r) (by omega) (by omega), hc (66 + 12 * r) (by omega) (by omega), hc (67 + 12 * r) (by omega) (by omega), hc (68 + 12 * r) (by omega) (by omega), show 63 + 12 * r + 3 = 66 + 12 * r by omega, show 63 + 12 * r + 4 = 67 + 12 * r by omega, show 63 + 12 * r + 5 = 68 + 12 * r by omega]
  · unfold ahdM ahdC
    rw [rel_key h hg (p := p) (by omega), rel_key h hg (p := q) (by omega), hc (63 + 12 * r) (by omega) (by omega), hc (64 + 12 * r) (by omega) (by omega), hc (65 + 12 * r) (by omega) (by omega), show 63 + 12 * r + 1 = 64 + 12 * r by omega, show 63 + 12 * r + 2 = 65 + 12 * r by omega]
theorem sumN_chg {f f' : Int → Int} {g : Int} : ∀ (m : Nat) (a : Int), a ≤ g → g < a + m → (∀ i, i ≠ g → f' i = f i) → sumN f' m a = sumN f m a - f g + f' g := by
  intro m
  induction m with
  | zero => intro a h1 h2 _; omega
  | succ m ih =>
    intro a h1 h2 h
    show f' a + sumN f' m (a + 1) = f a + sumN f m (a + 1) - f g + f' g
    by_cases q : a = g
    · rw [sumN_congr (f := f') (g := f) m (a + 1) (fun i q1 q2 => h i (by omega)), q]
      omega
    · rw [ih (a + 1) (by omega) (by omega) h, h a q]
      omega
theorem cntN_upf (f : Int → Int) {g : Int} (v p : Int) (hg : 0 ≤ g ∧ g < 9) : cntN (upf f g v) p = cntN f p - (if f g = p then 1 else 0) + (if v = p then 1 else 0) := by
  unfold cntN
  rw [sumN_chg (f := fun x => if f x = p then 1 else 0) (g := g) 9 0 hg.1 (by omega) (fun i q => by show (if upf f g v i = p then (1 : Int) else 0) = _; rw [upf_ne q])]
  show _ - (if f g = p then (1 : Int) else 0) + (if upf f g v g = p then 1 else 0) = _
  rw [upf_self]
/-- a run's state and board as the reference must see them -/
theorem RelB.mok {σ τ : St} {k e : Int} (h : RelB σ k τ e) (hB : BdOK σ (bd k)) (hS : StOK σ k) (hq : ∀ g, 0 ≤ g → g < 9 → 0 ≤ τ 165 g ∧ τ 165 g ≤ 9) : MOK τ := by
  obtain ⟨h1, h2, h3, h4⟩ := h
  obtain ⟨b1', b2, b3, b4⟩ := hB
  refine ⟨by rw [h1.1]; exact b1', by rw [h1.2]; exact b2, fun p q1 q2 => ?_, fun j q1 q2 => by rw [h3 j q1 q2]; exact b4 j q1 q2, fun g q1 q2 => ?_, fun p q1 q2 => ?_⟩
  · rw [h1.1] at q2
    obtain ⟨a1, a2, a3, a4⟩ := h2 p q1 (by omega)
    rw [a1, a2, a3]
    exact b3 p q1 q2
  · rw [h1.1, h1.2, (h4 g q1 q2).1]
    obtain ⟨s1, s2, s3⟩ := hS.1 g q1 q2
    exact ⟨s1, hq g q1 q2, s3⟩
  · rw [h1.1] at q2
    obtain ⟨a1, a2, a3, a4⟩ := h2 p q1 (by omega)
    rw [a1, a3, a4, cntN_congr p (fun g q1 q2 => (h4 g q1 q2).1)]
    exact (hS.2 p q1 (by omega)).2 q2
