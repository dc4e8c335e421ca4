-- PURE LAYER: no rank asked; ranks by swaps
theorem rk_6 {F : Nat} (hF : 100 ≤ F) {r : Int} (hr : 0 ≤ r ∧ r < 6) {ρ : Int → Int} : ∀ (m n : Nat) (i : Int) (σ τ : St), Rn σ 33 τ r i → (∀ x, i ≤ x → x < 9 → σ 37 x = 0) → i + m = σ 27 6 → m < n → BdOK (rkC σ ρ) 27 → NoRk σ (63 + 12 * r) → ∃ σ', gX7_runByNumbers_L6 F 33 (63 + 12 * r) n i σ = some σ' ∧ gX7_runByNumbers_L6 F 33 (63 + 12 * r) n i (rkC σ ρ) = some (rkC σ' ρ) := by
  have b33 : bd 33 = 27 := by decide
  intro m
  induction m with
  | zero =>
    intro n i σ τ h hx h2 h3 h4 h5
    obtain ⟨n, rfl⟩ : ∃ n', n = n' + 1 := ⟨n - 1, by omega⟩
    have hG : 0 ≤ σ 27 6 ∧ σ 27 6 ≤ 9 := h.1.2.1
    refine ⟨σ, ?_, ?_⟩
    · rw [gX7_runByNumbers_L6, b33, w32_id (a := i) (by omega), w32_id (a := σ 27 6) (by omega), if_pos (by omega)]
    · rw [gX7_runByNumbers_L6, b33, rkC_o (a := 27) (by omega), w32_id (a := i) (by omega), w32_id (a := σ 27 6) (by omega), if_pos (by omega)]
  | succ m ih =>
    intro n i σ τ h hx h2 h3 h4 h5
    obtain ⟨n, rfl⟩ : ∃ n', n = n' + 1 := ⟨n - 1, by omega⟩
    have hG : 0 ≤ σ 27 6 ∧ σ 27 6 ≤ 9 := h.1.2.1
    have h0 := h.2.2.2.1.2.2.1
    have e12 := h.2.2.2.1.1
    obtain ⟨p, τ1, c1, c2, c3, c4⟩ := h.step hF (Or.inr (Or.inr rfl)) hr (g := i) (by omega) (by rw [b33]; omega) (hx i (by omega) (by omega))
    have hRu := ruc_of h.2.2.1.2.2.1 h.2.2.1.2.2.2
    have cb := comeBy_eq hF (Or.inr (Or.inr rfl)) h.1 h.2.1 hRu (by omega) (g := i) (by omega)
    rw [c1] at cb
    have ep : p = chC σ 33 i (63 + 12 * r) := (Prod.mk.inj (Option.some.inj cb)).1
    have o : ∀ a, a ≠ 29 → rkC σ ρ a = σ a := fun a h => rkC_o h
    have st : StOK (rkC σ ρ) 33 := by
      have s := h.2.1
      unfold StOK at s ⊢
      rw [b33] at s ⊢
      rw [o (33 + 3) (by omega), o (33 + 4) (by omega), o (33 + 1) (by omega), o (33 + 2) (by omega), o 27 (by omega), o (27 + 1) (by omega), o (27 + 3) (by omega)]
      exact s
    have ru : RuC (rkC σ ρ) (63 + 12 * r) := by
      have s := hRu
      unfold RuC at s ⊢
      rw [o (63 + 12 * r) (by omega), o (63 + 12 * r + 1) (by omega), o (63 + 12 * r + 2) (by omega), o (63 + 12 * r + 3) (by omega), o (63 + 12 * r + 4) (by omega), o (63 + 12 * r + 5) (by omega)]
      exact s
    have cb2 := comeBy_eq hF (k := 33) (Or.inr (Or.inr rfl)) (by rw [b33]; exact h4) st ru (by rw [o 33 (by omega)]; omega) (g := i) (by omega)
    rw [chC_rk (by omega) hRu h5, ← ep, enterS_rk] at cb2
    have bd2 : BdOK (rkC (enterS σ 33 i p) ρ) 27 := by
      rw [← enterS_rk]
      have := enterS_bd (σ := rkC σ ρ) (g := i) (p := p) (Or.inr (Or.inr rfl)) (by rw [b33]; exact h4)
      rw [b33] at this
      exact this
    have nr : NoRk (enterS σ 33 i p) (63 + 12 * r) := by
      unfold NoRk at h5 ⊢
      rw [enterS_o (c := 63 + 12 * r) (by omega), enterS_o (c := 63 + 12 * r + 1) (by omega), enterS_o (c := 63 + 12 * r + 3) (by omega)]
      exact h5
    obtain ⟨σ', d1, d2⟩ := ih n (i + 1) (enterS σ 33 i p) τ1 c3 (fun x q1 q2 => by
      have es : enterS σ 33 i p 37 = upf (σ 37) i (σ 33 10 + 1) := enterS_seq
      rw [es, upf_ne (by omega)]; exact hx x (by omega) q2) (by rw [enterS_o (by omega)]; omega) (by omega) bd2 nr
    refine ⟨σ', ?_, ?_⟩
    · rw [gX7_runByNumbers_L6, b33, w32_id (a := i) (by omega), w32_id (a := σ 27 6) (by omega), if_neg (by omega), c1, Option.bind_some]; exact d1
    · rw [gX7_runByNumbers_L6, b33, o 27 (by omega), w32_id (a := i) (by omega), w32_id (a := σ 27 6) (by omega), if_neg (by omega), cb2, Option.bind_some]; exact d2
/-- no rank asked: the ranks don't matter -/
theorem VR_no {F : Nat} (hF : 100 ≤ F) {r : Int} (hr : 0 ≤ r ∧ r < 6) {σ0 τc : St} {ρ ρ' : Int → Int} (hB : BdOK σ0 1) (hρ : RkOK σ0 ρ) (hρ' : RkOK σ0 ρ') (hl : Loaded σ0 r τc) (hn : NoRk σ0 (63 + 12 * r)) : VR F r τc ρ = VR F r τc ρ' := by
  have b33 : bd 33 = 27 := by decide
  let σc : St := fun a b => if a = 27 then σ0 1 b else if a = 28 then σ0 2 b else if a = 29 then ρ b else if a = 30 then σ0 4 b else if a = 32 then σ0 6 b else σ0 a b
  have ht : TB σ0 σc ρ := ⟨⟨rfl, rfl⟩, fun p _ _ => ⟨rfl, rfl, rfl⟩, fun j _ _ => rfl⟩
  have hc : ∀ c, 63 + 12 * r ≤ c → c ≤ 68 + 12 * r → σc c = σ0 c := fun c q1 q2 => by
    funext b
    show (if c = 27 then σ0 1 b else if c = 28 then σ0 2 b else if c = 29 then ρ b else if c = 30 then σ0 4 b else if c = 32 then σ0 6 b else σ0 c b) = σ0 c b
    rw [if_neg (by omega), if_neg (by omega), if_neg (by omega), if_neg (by omega), if_neg (by omega)]
  have o : ∀ a, a ≠ 29 → rkC σc ρ' a = σc a := fun a h => rkC_o h
  have ht' : TB σ0 (rkC σc ρ') ρ' := by
    refine ⟨by rw [o 27 (by omega)]; exact ht.1, fun p q1 q2 => ?_, fun j q1 q2 => by rw [o 32 (by omega)]; exact ht.2.2 j q1 q2⟩
    rw [o 28 (by omega), o 30 (by omega)]
    exact ⟨(ht.2.1 p q1 q2).1, by unfold rkC; rw [if_pos rfl], (ht.2.1 p q1 q2).2.2⟩
  obtain ⟨σ1, a1, a2, -, -⟩ := clsVR hF hr hB hρ ht hl hc
  obtain ⟨σ2, b1', b2, -, -⟩ := clsVR hF hr hB hρ' ht' hl (fun c q1 q2 => by rw [o c (by omega), hc c q1 q2])
  -- both runs begin alike
  obtain ⟨k1, k2⟩ := hl.rk hr ρ
  obtain ⟨τ1, f1, f2⟩ := fresh_eq hF (rkS τc ρ)
  have fo : ∀ a b, ¬ supC a b → τ1 a b = rkS τc ρ a b := fun a b q => by
    unfold supC at q
    rw [f2, if_neg (by omega), if_neg (by omega), if_neg (by omega), if_neg (by omega)]
  have foc : ∀ a, a ≠ 143 → a ≠ 163 → a ≠ 164 → a ≠ 165 → τ1 a = rkS τc ρ a := fun a q1 q2 q3 q4 => by funext b; exact fo a b (by unfold supC; omega)
  have hE : RelE σc 33 τ1 := by
    have he := hl.eb ρ
    unfold RelE
    rw [b33, fo 143 26 (by unfold supC; omega), fo 143 27 (by unfold supC; omega), foc 159 (by omega) (by omega) (by omega) (by omega), foc 160 (by omega) (by omega) (by omega) (by omega), foc 161 (by omega) (by omega) (by omega) (by omega), foc 162 (by omega) (by omega) (by omega) (by omega)]
    exact he
  have hF1 : FrM τ1 := ⟨⟨by rw [f2, if_pos (by omega)], by rw [f2, if_pos (by omega)]⟩, fun p q1 q2 => by rw [f2, if_neg (by omega), if_neg (by omega), if_neg (by omega), if_pos (by omega)], fun g q1 q2 => ⟨by rw [f2, if_neg (by omega), if_pos (by omega)], by rw [f2, if_neg (by omega), if_neg (by omega), if_pos (by omega)]⟩⟩
  obtain ⟨st, s4⟩ := Rn.start (k := 33) (Or.inr (Or.inr rfl)) hr (by rw [b33]; exact ht.bd hB hρ) hE hF1 (k1.frame hr (fun a b q => fo a b (by unfold supR at q; unfold supC; omega))) (fun c q1 q2 => by rw [foc c (by omega) (by omega) (by omega) (by omega), k2 c q1 q2, hc c q1 q2])
  have hG : 0 ≤ σ0 1 6 ∧ σ0 1 6 ≤ 9 := hB.2.1
  have cl : clearS (rkC σc ρ') 33 = rkC (clearS σc 33) ρ' := by
    funext a b
    by_cases z : a = 29
    · rw [z, clearS_o (by omega)]
      unfold rkC
      rw [if_pos rfl, if_pos rfl]
    · rw [rkC_o z, clearS_at, clearS_at, o a z]
  have c27 : clearS σc 33 27 = σc 27 := clearS_o (by omega)
  obtain ⟨σ', d1, d2⟩ := rk_6 hF hr (ρ := ρ') (σ0 1 6).toNat F 0 (clearS σc 33) τ1 st (fun x q1 q2 => s4 x q1 q2) (by rw [c27]; show (0 : Int) + _ = σ0 1 6; omega) (by omega) (by
    have := clearS_bd (σ := rkC σc ρ') (k := 33) (Or.inr (Or.inr rfl)) (by rw [b33]; exact ht'.bd hB hρ')
    rw [b33, cl] at this
    exact this) (by
    unfold NoRk at hn ⊢
    rw [clearS_o (c := 63 + 12 * r) (by omega), clearS_o (c := 63 + 12 * r + 1) (by omega), clearS_o (c := 63 + 12 * r + 3) (by omega), hc (63 + 12 * r) (by omega) (by omega), hc (63 + 12 * r + 1) (by omega) (by omega), hc (63 + 12 * r + 3) (by omega) (by omega)]
    exact hn)
  unfold gX7_runByNumbers at a1 b1'
  rw [clear_eq, Option.bind_some, d1] at a1
  rw [clear_eq, Option.bind_some, cl, d2] at b1'
  obtain rfl := Option.some.inj a1
  obtain rfl := Option.some.inj b1'
  have hp : σ' 27 5 = σ0 1 5 := by
    have := clsVR hF hr hB hρ ht hl hc
    obtain ⟨s, w1, -, -, w4⟩ := this
    unfold gX7_runByNumbers at w1
    rw [clear_eq, Option.bind_some, d1] at w1
    obtain rfl := Option.some.inj w1
    rw [w4 27 (by omega)]; rfl
  have hP := hB.1
  have v1 := value_eq hF (σ := σ') (k := 33) (by rw [b33, hp]; exact hP)
  have v2 := value_eq hF (σ := rkC σ' ρ') (k := 33) (by rw [b33, rkC_o (a := 27) (by omega), hp]; exact hP)
  rw [b33, rkC_o (a := 33 + 2) (by omega), rkC_o (a := 27) (by omega)] at v2
  rw [b33] at v1
  rw [v1] at a2
  rw [v2] at b2
  rw [← Option.some.inj a2, ← Option.some.inj b2]
