-- PURE LAYER: runBy
theorem readOrder_21 {F : Nat} {x1 : Int} {G : Nat} (hG : G ≤ 9) : ∀ (m n : Nat) (x s : Nat) (σ : St), x ≤ 2147483647 → s < 2 ^ G → m ≤ G → σ 1 6 = (G : Int) → m < n → ∃ σ', gX10_readOrder_L21 F x1 n (x : Int) (s : Int) ((m : Int) - 1) σ = some (tv (pOrd G m x s = true), σ') ∧ (∀ a b, a ≠ 61 → σ' a b = σ a b) ∧ (pOrd G m x s = true → ∀ (b : Int), σ' 61 b = if 0 ≤ b ∧ b < m then ((pDig m x b.toNat : Nat) : Int) else σ 61 b) := by
  have h9 : 2 ^ G ≤ 512 := pow_le2 (b := 9) hG
  intro m
  induction m with
  | zero =>
    intro n x s σ h1 h2 h3 h4 h5
    obtain ⟨n, rfl⟩ : ∃ n', n = n' + 1 := ⟨n - 1, by omega⟩
    refine ⟨σ, ?_, fun _ _ _ => rfl, fun _ b => by rw [if_neg (by omega)]⟩
    rw [gX10_readOrder_L21, w32_id (a := ((0 : Nat) : Int) - 1) (by omega), if_pos (by omega), w32_id (a := (x : Int)) (by omega)]
    show (if (x : Int) ≠ 0 then some ((0 : Int), σ) else some (1, σ)) = some (tv (decide (x = 0) = true), σ)
    by_cases z : x = 0
    · rw [if_neg (by omega), tv_pos (by simp [z])]
    · rw [if_pos (by omega), tv_neg (by simp [z])]
  | succ m ih =>
    intro n x s σ h1 h2 h3 h4 h5
    obtain ⟨n, rfl⟩ : ∃ n', n = n' + 1 := ⟨n - 1, by omega⟩
    have hd : x % 10 < 10 := Nat.mod_lt _ (by decide)
    have t := tabA_at (x := s) (d := x % 10) (by omega) hd
    have er : irm (x : Int) 10 = ((x % 10 : Nat) : Int) := by rw [irm_eq (by omega) (by omega)]; omega
    have ed : idv (x : Int) 10 = ((x / 10 : Nat) : Int) := by rw [idv_eq (by omega) (by omega)]; omega
    have e1 : pOrd G (m + 1) x s = if G ≤ x % 10 ∨ s / 2 ^ (x % 10) % 2 = 1 then false else pOrd G m (x / 10) (s ||| 2 ^ (x % 10)) := rfl
    have ei : ((m + 1 : Nat) : Int) - 1 = (m : Int) := by omega
    have b01 := Nat.mod_lt (s / 2 ^ (x % 10)) (show 0 < 2 by decide)
    rw [gX10_readOrder_L21, ei, w32_id (a := (m : Int)) (by omega), if_neg (by omega), gd_pos (by decide), gd_pos (by decide), er, ed, h4, w32_id (a := (G : Int)) (by omega), t.1, t.2, e1]
    by_cases q : G ≤ x % 10 ∨ s / 2 ^ (x % 10) % 2 = 1
    · refine ⟨σ, ?_, fun _ _ _ => rfl, fun z => ?_⟩
      · rw [if_pos q, tv_neg (by decide)]
        by_cases z : G ≤ x % 10
        · rw [if_pos (by omega)]
        · rw [if_neg (by omega), if_neg (by omega)]
      · rw [if_pos q] at z; cases z
    · obtain ⟨σ', d1, d2, d3⟩ := ih n (x / 10) (s ||| 2 ^ (x % 10)) (up σ 61 m ((x % 10 : Nat) : Int)) (by omega) (Nat.or_lt_two_pow h2 (Nat.pow_lt_pow_right (by decide) (by omega))) (by omega) (by rw [up_at, if_neg (by omega)]; exact h4) (by omega)
      refine ⟨σ', ?_, fun a b z => by rw [d2 a b z, up_at, if_neg (by omega)], fun z b => ?_⟩
      · rw [if_neg q, if_neg (by omega), if_pos (by omega), gd_pos (by omega), show (m : Int) + -1 = (m : Int) - 1 by omega]; exact d1
      · rw [if_neg q] at z
        rw [d3 z b, up_at]
        by_cases y : b = (m : Int)
        · have hb : b.toNat = m := by omega
          rw [if_neg (by omega), if_pos ⟨rfl, y⟩, if_pos (by omega), hb]
          show _ = (((if m = m then x % 10 else pDig m (x / 10) m : Nat)) : Int)
          rw [if_pos rfl]
        · by_cases w : 0 ≤ b ∧ b < m
          · have hb : ¬ b.toNat = m := by omega
            rw [if_pos w, if_pos (by omega)]
            show _ = (((if b.toNat = m then x % 10 else pDig m (x / 10) b.toNat : Nat)) : Int)
            rw [if_neg hb]
          · rw [if_neg w, if_neg (by omega), if_neg (by omega)]
theorem runBy_27 {F : Nat} {r y : Int} {G : Nat} (hG : G ≤ 9) : ∀ (m n : Nat) (x s : Nat) (σ : St), x ≤ 2147483647 → s < 1024 → m ≤ G → σ 143 4 = (G : Int) → m < n → ∃ σ', (∀ (a b : Int), σ' a b = if a = 166 ∧ 0 ≤ b ∧ b < m then ((pDig m x b.toNat : Nat) : Int) else σ a b) ∧ gX11_runBy_L27 F r y n (x : Int) (s : Int) ((m : Int) - 1) σ = if pRest m x = 0 ∧ pSeen m x s = 2 ^ G - 1 then ((gX11_loadMain F σ').bind fun r1 => (gX11_runByOrder F r1 r).bind fun r2 => some (r2.1, r2.2)) else some (-1, σ') := by
  have h9 : 2 ^ G ≤ 512 := pow_le2 (b := 9) hG
  have hp : 0 < 2 ^ G := Nat.two_pow_pos G
  intro m
  induction m with
  | zero =>
    intro n x s σ h1 h2 h3 h4 h5
    obtain ⟨n, rfl⟩ : ∃ n', n = n' + 1 := ⟨n - 1, by omega⟩
    have t := (tabA_at (x := 0) (d := G) (by decide) (by omega)).1
    have t0 : ishl 1 (G : Int) = ((2 ^ G : Nat) : Int) := by
      have h0 : ior 0 (ishl 1 (G : Int)) = ishl 1 (G : Int) := by
        unfold ior ishl
        simp [i32]
      rw [← h0]
      have := t
      simp at this
      simpa using this
    refine ⟨σ, fun a b => by rw [if_neg (by omega)], ?_⟩
    rw [gX11_runBy_L27, w32_id (a := ((0 : Nat) : Int) - 1) (by omega), if_pos (by omega), w32_id (a := (x : Int)) (by omega), h4, t0, w32_id (a := (s : Int)) (by omega), w32_id (a := ((2 ^ G : Nat) : Int) - 1) (by omega)]
    show (if (x : Int) > 0 then _ else _) = if x = 0 ∧ s = 2 ^ G - 1 then _ else _
    by_cases z : x = 0
    · rw [if_neg (by omega)]
      by_cases y : s = 2 ^ G - 1
      · rw [if_pos (by omega), if_pos ⟨z, y⟩]
      · rw [if_neg (by omega), if_neg (fun w => y w.2)]
    · rw [if_pos (by omega), if_neg (fun w => z w.1)]
  | succ m ih =>
    intro n x s σ h1 h2 h3 h4 h5
    obtain ⟨n, rfl⟩ : ∃ n', n = n' + 1 := ⟨n - 1, by omega⟩
    have hd : x % 10 < 10 := Nat.mod_lt _ (by decide)
    have t := tabA_at (x := s) (d := x % 10) h2 hd
    have t2 := tabB_at (x := s) (d := x % 10) h2 hd
    have er : irm (x : Int) 10 = ((x % 10 : Nat) : Int) := by rw [irm_eq (by omega) (by omega)]; omega
    have ed : idv (x : Int) 10 = ((x / 10 : Nat) : Int) := by rw [idv_eq (by omega) (by omega)]; omega
    have ei : ((m + 1 : Nat) : Int) - 1 = (m : Int) := by omega
    obtain ⟨σ', d1, d2⟩ := ih n (x / 10) (s ||| 2 ^ (x % 10)) (up σ 166 m ((x % 10 : Nat) : Int)) (by omega) t2.1 (by omega) (by rw [up_at, if_neg (by omega)]; exact h4) (by omega)
    refine ⟨σ', fun a b => ?_, ?_⟩
    · rw [d1, up_at]
      by_cases y : a = 166 ∧ b = (m : Int)
      · have hb : b.toNat = m := by omega
        rw [if_neg (by omega), if_pos y, if_pos (by omega), hb]
        show _ = (((if m = m then x % 10 else pDig m (x / 10) m : Nat)) : Int)
        rw [if_pos rfl]
      · by_cases w : a = 166 ∧ 0 ≤ b ∧ b < m
        · have hb : ¬ b.toNat = m := by omega
          rw [if_pos w, if_pos (by omega)]
          show _ = (((if b.toNat = m then x % 10 else pDig m (x / 10) b.toNat : Nat)) : Int)
          rw [if_neg hb]
        · rw [if_neg w, if_neg y, if_neg (by omega)]
    · rw [gX11_runBy_L27, ei, w32_id (a := (m : Int)) (by omega), if_neg (by omega), gd_pos (by decide), gd_pos (by omega), gd_pos (by decide), gd_pos (by omega), er, ed, up_self, t.1, show (m : Int) + -1 = (m : Int) - 1 by omega]
      exact d2
/-- both sides go through the same order -/
theorem order_run {F : Nat} (hF : 100 ≤ F) {r y : Int} (hr : 0 ≤ r ∧ r < 6) (hrw : w32 r = r) {D : Int → Int} : ∀ (m n : Nat) (i : Int) (σ τ : St), Rn σ 17 τ r i → (∀ j, i ≤ j → j < σ 1 6 → 0 ≤ D j ∧ D j < σ 1 6 ∧ σ 21 (D j) = 0) → (∀ j l, 0 ≤ j → j < l → l < σ 1 6 → D j ≠ D l) → (∀ j, 0 ≤ j → j < σ 1 6 → σ 61 j = D j ∧ τ 166 j = D j) → i + m = σ 1 6 → m < n →
    ∃ v σ' τ', gX10_runBy_L27 F r y n i σ = some (v, σ') ∧ gX11_runByOrder_L6 F r n i τ = some (v, τ') ∧ (∀ c, ¬ (17 ≤ c ∧ c ≤ 26) → σ' c = σ c) ∧ ∀ a b, ¬ supC a b → τ' a b = τ a b := by
  have b17 : bd 17 = 1 := by decide
  intro m
  induction m with
  | zero =>
    intro n i σ τ h h1 h2 h3 h4 h5
    obtain ⟨n, rfl⟩ : ∃ n', n = n' + 1 := ⟨n - 1, by omega⟩
    have hG : 0 ≤ σ 1 6 ∧ σ 1 6 ≤ 9 := h.1.2.1
    obtain ⟨r1, r2, r3, r4⟩ := h.rel
    have e27 : τ 143 27 = σ 1 6 := h.2.2.1.1.1.2
    refine ⟨sumN (σ (17 + 2)) (σ (bd 17) 5).toNat 0, σ, τ, ?_, ?_, fun _ _ => rfl, fun _ _ _ => rfl⟩
    · rw [gX10_runBy_L27, w32_id (a := i) (by omega), w32_id (a := σ 1 6) (by omega), if_pos (by omega), value_eq hF h.1.1, Option.bind_some]
    · rw [gX11_runByOrder_L6, e27, w32_id (a := i) (by omega), w32_id (a := σ 1 6) (by omega), if_pos (by omega), valueNow_eq hF r1.1, Option.bind_some, r2]
  | succ m ih =>
    intro n i σ τ h h1 h2 h3 h4 h5
    obtain ⟨n, rfl⟩ : ∃ n', n = n' + 1 := ⟨n - 1, by omega⟩
    have hG : 0 ≤ σ 1 6 ∧ σ 1 6 ≤ 9 := h.1.2.1
    have i0 := h.2.2.2.1.2.2.1
    have e27 : τ 143 27 = σ 1 6 := h.2.2.1.1.1.2
    obtain ⟨g1, g2, g3⟩ := h1 i (by omega) (by omega)
    obtain ⟨t1, t2⟩ := h3 i (by omega) (by omega)
    obtain ⟨p, τ1, c1, c2, c3, c4⟩ := h.step hF (g := D i) (Or.inr (Or.inl rfl)) hr (by omega) ⟨g1, g2⟩ g3
    have eo : ∀ c, ¬ (17 ≤ c ∧ c ≤ 26) → enterS σ 17 (D i) p c = σ c := fun c q => enterS_o (by omega)
    have es : enterS σ 17 (D i) p 21 = upf (σ 21) (D i) (σ 17 10 + 1) := enterS_seq
    obtain ⟨v, σ', τ', d1, d2, d3, d4⟩ := ih n (i + 1) (enterS σ 17 (D i) p) τ1 c3 (fun j q1 q2 => by
      rw [eo 1 (by omega)] at q2 ⊢
      obtain ⟨w1, w2, w3⟩ := h1 j (by omega) q2
      refine ⟨w1, w2, ?_⟩
      rw [es, upf_ne (fun z => h2 i j (by omega) (by omega) q2 z.symm)]; exact w3) (fun j l q1 q2 q3 => h2 j l q1 q2 (by rw [eo 1 (by omega)] at q3; exact q3)) (fun j q1 q2 => by
      rw [eo 1 (by omega)] at q2
      rw [eo 61 (by omega), c4 166 j (by unfold supC; omega)]
      exact h3 j q1 q2) (by rw [eo 1 (by omega)]; omega) (by omega)
    refine ⟨v, σ', τ', ?_, ?_, fun c q => by rw [d3 c q, eo c q], fun a b q => by rw [d4 a b q, c4 a b q]⟩
    · rw [gX10_runBy_L27, w32_id (a := i) (by omega), w32_id (a := σ 1 6) (by omega), if_neg (by omega), gd_pos (by omega), hrw, gd_pos (by omega), t1, c1, Option.bind_some]; exact d1
    · rw [gX11_runByOrder_L6, e27, w32_id (a := i) (by omega), w32_id (a := σ 1 6) (by omega), if_neg (by omega), gd_pos (by omega), t2, c2, Option.bind_some]; exact d2
