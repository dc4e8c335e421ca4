-- PURE LAYER: the choice, reference
theorem b1_01 {a : Int} (h : a = 0 ∨ a = 1) : b1 a = a := by rcases h with h | h <;> rw [h] <;> decide
/-- the tests, once the first answer is s -/
theorem canHave_101 {F : Nat} (hF : 100 ≤ F) {σ : St} {r g p : Int} (h : MOK σ) (hr : 0 ≤ r ∧ r < 6) (hR : RuleOK σ r) (hg : 0 ≤ g ∧ g < 9) (hp : 0 ≤ p ∧ p < σ 143 26) : ∀ (m n : Nat) (s i : Int), (s = 0 ∨ s = 1) → 0 ≤ i → i + m = σ (63 + 12 * r) 9 → m < n → gX11_canHave_L101 F σ r g p n s (4 * r + i) = some (if s = 0 then 0 else pPass (kM σ g p) (σ (66 + 12 * r)) (σ (67 + 12 * r)) (σ (68 + 12 * r)) m i) := by
  obtain ⟨-, -, ⟨a1, a2, a3⟩, a4, -⟩ := hR
  intro m
  induction m with
  | zero =>
    intro n s i hs h1 h2 h3
    obtain ⟨n, rfl⟩ : ∃ n', n = n' + 1 := ⟨n - 1, by omega⟩
    rw [gX11_canHave_L101, w32_id (a := r) (by omega), gd_pos (by omega), w32_id (a := 4 * r + i) (by omega), a3, w32_id (a := 4 * r + σ (63 + 12 * r) 9) (by omega), if_pos (by omega), b1_01 hs]
    rcases hs with hs | hs
    · rw [hs, if_pos rfl]
    · rw [hs, if_neg (by omega)]; rfl
  | succ m ih =>
    intro n s i hs h1 h2 h3
    obtain ⟨n, rfl⟩ : ∃ n', n = n' + 1 := ⟨n - 1, by omega⟩
    obtain ⟨b1', b2, b3, b4, b5⟩ := a4 i h1 (by omega)
    rw [gX11_canHave_L101, w32_id (a := r) (by omega), gd_pos (by omega), w32_id (a := 4 * r + i) (by omega), a3, w32_id (a := 4 * r + σ (63 + 12 * r) 9) (by omega), if_neg (by omega), w32_id (a := s) (by omega), b1_01 hs]
    by_cases q0 : s = 0
    · rw [if_pos q0, if_pos q0, q0]
    · obtain ⟨k1, k2, k3⟩ := keyM_eq hF h b1' hg hp
      rw [if_neg q0, if_neg q0, gd_pos (by omega), b2, k1, Option.bind_some, gd_pos (by omega), gd_pos (by omega), gd_pos (by omega), b5, w32_id (a := kM σ g p (σ (66 + 12 * r) i)) (by omega), w32_id (a := σ (68 + 12 * r) i) (by omega)]
      unfold gX11_canHave_L185
      rw [show 4 * r + i + 1 = 4 * r + (i + 1) by omega, ih n 0 (i + 1) (Or.inl rfl) (by omega) (by omega) (by omega), ih n 1 (i + 1) (Or.inr rfl) (by omega) (by omega) (by omega), if_pos rfl, if_neg (show ¬ (1 : Int) = 0 by omega)]
      have e : pPass (kM σ g p) (σ (66 + 12 * r)) (σ (67 + 12 * r)) (σ (68 + 12 * r)) (m + 1) i = if σ (67 + 12 * r) i = 0 then (if kM σ g p (σ (66 + 12 * r) i) > σ (68 + 12 * r) i then pPass (kM σ g p) (σ (66 + 12 * r)) (σ (67 + 12 * r)) (σ (68 + 12 * r)) m (i + 1) else 0) else (if kM σ g p (σ (66 + 12 * r) i) < σ (68 + 12 * r) i then pPass (kM σ g p) (σ (66 + 12 * r)) (σ (67 + 12 * r)) (σ (68 + 12 * r)) m (i + 1) else 0) := rfl
      rw [e]
      rcases b3 with b3 | b3
      · rw [b3.1, b3.2, w32_id (a := 60) (by omega), if_neg (show ¬ (60 : Int) ≠ 60 by omega), if_neg (show ¬ (1 : Int) = 0 by omega)]
        by_cases q : kM σ g p (σ (66 + 12 * r) i) < σ (68 + 12 * r) i
        · rw [if_neg (by omega), if_pos q]
        · rw [if_pos (by omega), if_neg q]
      · rw [b3.1, b3.2, w32_id (a := 62) (by omega), if_pos (show (62 : Int) ≠ 60 by omega), if_pos rfl]
        by_cases q : kM σ g p (σ (66 + 12 * r) i) > σ (68 + 12 * r) i
        · rw [if_neg (by omega), if_pos q]
        · rw [if_pos (by omega), if_neg q]
def passM (σ : St) (g r p : Int) : Int := pPass (kM σ g p) (σ (66 + 12 * r)) (σ (67 + 12 * r)) (σ (68 + 12 * r)) (σ (63 + 12 * r) 9).toNat 0
def canM (σ : St) (g r p : Int) : Int := pCan (σ 159) (σ 163) (σ 161) (σ 164) (σ 165) (σ 162) (σ 143 27).toNat (σ (63 + 12 * r) 10) g p
def ahdM (σ : St) (g r p q : Int) : Int := pAhd (kM σ g p) (kM σ g q) (σ (64 + 12 * r)) (σ (65 + 12 * r)) (σ (63 + 12 * r) 8).toNat 0
/-- somebody holds p: there is a weakest -/
theorem pWk_some (pair seq w : Int → Int) (p : Int) : ∀ (m : Nat) (x i : Int), 0 ≤ i → (x ≠ -4 ∨ ∃ j, i ≤ j ∧ j < i + m ∧ pair j = p) → pWk pair seq w p m x i ≠ -4 := by
  intro m
  induction m with
  | zero =>
    intro x i hi h
    rcases h with h | ⟨j, h1, h2, h3⟩
    · exact h
    · omega
  | succ m ih =>
    intro x i hi h
    refine ih _ (i + 1) (by omega) ?_
    by_cases q : pair i = p ∧ (x = -4 ∨ w (6 * i + p) < w (6 * x + p) ∨ (w (6 * i + p) = w (6 * x + p) ∧ seq x < seq i))
    · left; rw [if_pos q]; omega
    · rw [if_neg q]
      rcases h with h | ⟨j, h1, h2, h3⟩
      · exact Or.inl h
      · by_cases z : x = -4
        · by_cases y : j = i
          · exact absurd ⟨y ▸ h3, Or.inl z⟩ q
          · exact Or.inr ⟨j, by omega, by omega, h3⟩
        · exact Or.inl z
theorem sumN_some {f : Int → Int} : ∀ (m : Nat) (a : Int), 0 < sumN f m a → ∃ j, a ≤ j ∧ j < a + m ∧ 0 < f j := by
  intro m
  induction m with
  | zero => intro a h; simp [sumN] at h
  | succ m ih =>
    intro a h
    have h' : 0 < f a + sumN f m (a + 1) := h
    by_cases q : 0 < f a
    · exact ⟨a, by omega, by omega, q⟩
    · obtain ⟨j, k1, k2, k3⟩ := ih (a + 1) (by omega)
      exact ⟨j, by omega, by omega, k3⟩
theorem wkM_some {σ : St} {p : Int} (h : MOK σ) (hp : 0 ≤ p) (hc : 0 < cntN (σ 164) p) : wkM σ p ≠ -4 := by
  obtain ⟨j, k1, k2, k3⟩ := sumN_some 9 0 hc
  have k4 : σ 164 j = p := by
    by_cases q : σ 164 j = p
    · exact q
    · have k3' : 0 < (if σ 164 j = p then (1 : Int) else 0) := k3
      rw [if_neg q] at k3'; omega
  have hG := h.2.1
  have hj := (h.2.2.2.2.1 j k1 (by omega)).2.2
  refine pWk_some _ _ _ p _ _ 0 (by omega) (Or.inr ⟨j, k1, ?_, k4⟩)
  by_cases q : σ 143 27 ≤ j
  · have := hj q; omega
  · omega
theorem canHave_eq {F : Nat} (hF : 100 ≤ F) {σ : St} {r g p : Int} (h : MOK σ) (hr : 0 ≤ r ∧ r < 6) (hR : RuleOK σ r) (hg : 0 ≤ g ∧ g < 9) (hp : 0 ≤ p ∧ p < σ 143 26) : gX11_canHave F σ r g p = some (if canM σ g r p = 0 then 0 else passM σ g r p) := by
  obtain ⟨h1, h2, h3, h4, h5, h6⟩ := id h
  have r3 := h3 p hp.1 hp.2
  have r6 := h6 p hp.1 hp.2
  have r4 := cntN_rng (σ 164) p
  have r5 := h4 (6 * g + p) (by omega) (by omega)
  have hd := hR.2.2.2.2
  have ht := hR.2.2.1
  have t : ∀ s : Int, (s = 0 ∨ s = 1) → gX11_canHave_L94 F σ r g p s = some (if s = 0 then 0 else passM σ g r p) := by
    intro s hs
    have := canHave_101 hF h hr hR hg hp (σ (63 + 12 * r) 9).toNat F s 0 hs (by omega) (by omega) (by omega)
    rw [Int.add_zero] at this
    exact this
  have t0 : gX11_canHave_L93 F σ r g p = some 0 := by rw [gX11_canHave_L93, t 0 (Or.inl rfl), if_pos rfl]
  have t1 : gX11_canHave_L89 F σ r g p = some (passM σ g r p) := by rw [gX11_canHave_L89, t 1 (Or.inr rfl), if_neg (by omega)]
  have cc : canM σ g r p = 0 ↔ ¬ (0 < σ 162 (6 * g + p) ∧ σ 163 p < σ 161 p ∧ (0 < σ 159 p - cntN (σ 164) p ∨ (σ (63 + 12 * r) 10 ≠ 0 ∧ wkM σ p ≠ -4 ∧ σ 162 (6 * wkM σ p + p) < σ 162 (6 * g + p)))) := by
    show (if _ then (1 : Int) else 0) = 0 ↔ _
    split
    · rename_i q; exact ⟨fun z => by omega, fun z => absurd q z⟩
    · rename_i q; exact ⟨fun _ => q, fun _ => rfl⟩
  obtain ⟨l1, l2⟩ := lastOf_eq hF h (p := p) (by omega)
  have L : ∀ s : Int, (s = 0 ∨ s = 1) → gX11_canHave_L32 F σ r g p (σ 162 (6 * g + p)) s = if σ 162 (6 * g + p) ≤ 0 then some 0 else if σ 163 p ≥ σ 161 p then some 0 else if s ≠ 0 then some (passM σ g r p) else if σ (63 + 12 * r) 10 ≠ 1 then some 0 else gd (0 ≤ w32 (6 * wkM σ p + p) ∧ w32 (6 * wkM σ p + p) < 54) (if w32 (σ 162 (w32 (6 * wkM σ p + p))) ≥ σ 162 (6 * g + p) then some 0 else some (passM σ g r p)) := by
    intro s hs
    unfold gX11_canHave_L32
    rw [w32_id (a := p) (by omega), w32_id (a := r) (by omega), w32_id (a := σ 162 (6 * g + p)) (by omega), gd_pos (by omega), gd_pos (by omega), w32_id (a := σ 163 p) (by omega), w32_id (a := σ 161 p) (by omega), w32_id (a := s) (by omega), gd_pos (c := 0 ≤ r ∧ r < 6) (by omega), hd.2, w32_id (a := σ (63 + 12 * r) 10) (by omega), t0, t1, l1, Option.bind_some]
  unfold gX11_canHave
  rw [w32_id (a := 6 * g + p) (by omega), gd_pos (by omega), heldBy_eq hF h (by omega), Option.bind_some, w32_id (a := p) (by omega), gd_pos (by omega), w32_id (a := cntN (σ 164) p) (by omega), w32_id (a := σ 159 p) (by omega), L 0 (Or.inl rfl), L 1 (Or.inr rfl)]
  by_cases q1 : σ 162 (6 * g + p) ≤ 0
  · rw [if_pos q1, if_pos q1, if_pos (cc.mpr (by omega)), ite_self]
  · rw [if_neg q1, if_neg q1]
    by_cases q2 : σ 163 p ≥ σ 161 p
    · rw [if_pos q2, if_pos q2, if_pos (cc.mpr (by omega)), ite_self]
    · rw [if_neg q2, if_neg q2]
      by_cases q3 : cntN (σ 164) p ≥ σ 159 p
      · rw [if_pos q3, if_neg (show ¬ (0 : Int) ≠ 0 by omega)]
        by_cases q4 : σ (63 + 12 * r) 10 = 1
        · have wn := wkM_some h hp.1 (by omega)
          have r7 := h4 (6 * wkM σ p + p) (by omega) (by omega)
          rw [if_neg (fun z => z q4), w32_id (a := 6 * wkM σ p + p) (by omega), gd_pos (by omega), w32_id (a := σ 162 (6 * wkM σ p + p)) (by omega)]
          by_cases q5 : σ 162 (6 * wkM σ p + p) ≥ σ 162 (6 * g + p)
          · rw [if_pos q5, if_pos (cc.mpr (by omega))]
          · rw [if_neg q5, if_neg (fun z => cc.mp z ⟨by omega, by omega, Or.inr ⟨by omega, wn, by omega⟩⟩)]
        · rw [if_pos q4, if_pos (cc.mpr (by omega))]
      · rw [if_neg q3, if_pos (show (1 : Int) ≠ 0 by omega), if_neg (fun z => cc.mp z ⟨by omega, by omega, Or.inl (by omega)⟩)]
