-- PURE LAYER: hopes, as they are kept; the reference
def chS (σ : St) : Int := sumN (σ 5) (σ 1 6).toNat 0
def HpOK (σ : St) : Prop := σ 50 1 = chS σ ∧ ShI σ 52 (σ 2) (σ 1 5).toNat ∧ ∀ i : Nat, i ≤ 6 → σ 51 i = ovI (chS σ) i ∧ HRow σ (σ 2) (σ 6) (σ 5) (σ 1 5).toNat (σ 1 6).toNat (chS σ) i
def HopesOK (σ : St) : Prop := (-1 ≤ σ 50 5 ∧ σ 50 5 ≤ σ 1 7) ∧ (∀ j, 0 ≤ j → j < 324 → σ 56 j = 0) ∧ (σ 50 5 = σ 1 7 → HpOK σ)
def supH (a b : Int) : Prop := (a = 50 ∧ (b = 1 ∨ b = 5)) ∨ a = 51 ∨ (a = 52 ∧ b = 3) ∨ (53 ≤ a ∧ a ≤ 56)
theorem HpOK.frame {σ σ' : St} (h : HpOK σ) (hs : ∀ a b, (supH a b ∧ ¬ (a = 50 ∧ b = 5)) ∨ (supB a b ∧ ¬ (a = 1 ∧ b = 7)) → σ' a b = σ a b) : HpOK σ' := by
  have c : ∀ a, a = 2 ∨ a = 5 ∨ a = 6 → σ' a = σ a := fun a q => by funext b; exact hs a b (by unfold supB; omega)
  have d : ∀ a, a = 51 ∨ 53 ≤ a ∧ a ≤ 56 → σ' a = σ a := fun a q => by funext b; exact hs a b (by unfold supH; omega)
  have e15 := hs 1 5 (by unfold supB; omega)
  have e16 := hs 1 6 (by unfold supB; omega)
  have ec : chS σ' = chS σ := by unfold chS; rw [c 5 (by omega), e16]
  unfold HpOK ShI HRow at h ⊢
  rw [ec, c 2 (by omega), c 5 (by omega), c 6 (by omega), e15, e16, hs 50 1 (by unfold supH; omega), hs 52 3 (by unfold supH; omega), d 51 (by omega), d (52 + 1) (by omega), d (52 + 2) (by omega), d (52 + 3) (by omega), d 56 (by omega)]
  exact h
theorem HopesOK.frame {σ σ' : St} (h : HopesOK σ) (hs : ∀ a b, supH a b ∨ supB a b → σ' a b = σ a b) : HopesOK σ' := by
  obtain ⟨h1, h2, h3⟩ := h
  have e1 := hs 50 5 (by unfold supH; omega)
  have e2 := hs 1 7 (by unfold supB; omega)
  refine ⟨by rw [e1, e2]; exact h1, fun j q1 q2 => by rw [hs 56 j (by unfold supH; omega)]; exact h2 j q1 q2, fun q => (h3 (by rw [← e1, ← e2]; exact q)).frame (fun a b q => hs a b (by rcases q with q | q; exact Or.inl q.1; exact Or.inr q.1))⟩
theorem InvB.chs {n : Nat} {σ : St} (h : InvB n σ) : ChOK (σ 5) (σ 1 6).toNat ∧ 0 ≤ chS σ ∧ chS σ ≤ 81 := by
  obtain ⟨⟨p1, p2, p3⟩, ⟨g1, g2, g3⟩, v1, -, b5, b6, b7, b8⟩ := id h
  have hc : ChOK (σ 5) (σ 1 6).toNat := fun i q1 q2 => b6 i q1 (by omega)
  have r := sumN_rng (f := σ 5) (lo := 0) (hi := 9) (σ 1 6).toNat 0 (fun i q1 q2 => hc i q1 (by omega))
  unfold chS
  exact ⟨hc, by omega, by omega⟩
theorem bringUp_eq {F n : Nat} (hF : 1000 ≤ F) (hn : n < 1000) {σ : St} (hB : InvB n σ) (hh : HopesOK σ) : ∃ σ', gX1_bringUp F σ = some σ' ∧ HopesOK σ' ∧ HpOK σ' ∧ ∀ a b, ¬ supH a b → σ' a b = σ a b := by
  obtain ⟨⟨p1, p2, p3⟩, ⟨g1, g2, g3⟩, v1, -⟩ := id hB
  obtain ⟨hc, hP, h324, hw⟩ := hB.caps
  obtain ⟨hch, hC1, hC2⟩ := hB.chs
  obtain ⟨k1, k2, k3⟩ := id hh
  have pos := stI_pos hc (σ 1 5).toNat (Nat.le_refl _)
  unfold gX1_bringUp
  rw [w32_id (a := σ 50 5) (by omega), w32_id (a := σ 1 7) (by omega)]
  by_cases q : σ 50 5 = σ 1 7
  · rw [if_neg (fun z => z q)]
    exact ⟨σ, rfl, hh, k3 q, fun _ _ _ => rfl⟩
  · rw [if_pos q]
    have uc : ∀ a, a ≠ 50 → up σ 50 5 (σ 1 7) a = σ a := fun a z => up_cell z
    obtain ⟨σ1, a1, a2, a3⟩ := shape_eq (F := F) hF (σ := up σ 50 5 (σ 1 7)) (k := 52) (x1 := 1) (x2 := -4) hc hP (by omega) (Or.inl rfl) (by omega) (by rw [uc 1 (by omega)]; omega) (fun x hx => by rw [uc (1 + 1) (by omega), if_neg (by omega), Int.add_zero]; rfl)
    have ac : ∀ a, a ≠ 50 → ¬ (52 ≤ a ∧ a ≤ 55) → σ1 a = σ a := fun a y1 y2 => by funext b; rw [a3 a b (by omega) (by omega), uc a y1]
    have wc : ∀ a v, a ≠ 50 → up σ1 50 1 v a = σ1 a := fun a v z => up_cell z
    obtain ⟨σ2, b1', b2, b3⟩ := bring_46 (F := F) hF (ch := σ 5) (G := (σ 1 6).toNat) (by omega) (σ 1 6).toNat F 0 (up σ1 50 1 0) (by omega) (by omega) (by rw [wc 1 _ (by omega), ac 1 (by omega) (by omega)]; omega) (by rw [wc 5 _ (by omega), ac 5 (by omega) (by omega)]) (by omega)
    rw [up_self, Int.zero_add] at b2
    have b2' : σ2 50 1 = chS σ := b2
    have bc : ∀ a, a ≠ 50 → σ2 a = σ1 a := fun a y => by funext b; rw [b3 a b (by omega), wc a _ y]
    have xc : ∀ a, a ≠ 51 → up σ2 51 0 1 a = σ2 a := fun a z => up_cell z
    have sh : ∀ s : St, (∀ a, 52 ≤ a → a ≤ 55 → s a = σ1 a) → ShI s 52 (σ 2) (σ 1 5).toNat := fun s hs => by
      unfold ShI
      rw [hs (52 + 1) (by omega) (by omega), hs 52 (by omega) (by omega), hs (52 + 2) (by omega) (by omega), hs (52 + 3) (by omega) (by omega)]
      exact a2
    have z56 : ∀ j, 0 ≤ j → j < 324 → up σ2 51 0 1 56 j = 0 := fun j y1 y2 => by rw [xc 56 (by omega), bc 56 (by omega), ac 56 (by omega) (by omega)]; exact k2 j y1 y2
    obtain ⟨σ', d1, d2, d3⟩ := bring_90 (F := F) hF (C := chS σ) (w := σ 6) (ch := σ 5) (G := (σ 1 6).toNat) hc hP (by omega) h324 hw hch rfl ⟨hC1, hC2⟩ 6 F 0 (up σ2 51 0 1) (by omega) (sh _ (fun a y1 y2 => by rw [xc a (by omega), bc a (by omega)])) (by rw [xc 1 (by omega), bc 1 (by omega), ac 1 (by omega) (by omega)]; omega) (by rw [xc 1 (by omega), bc 1 (by omega), ac 1 (by omega) (by omega)]; omega) (by rw [xc 6 (by omega), bc 6 (by omega), ac 6 (by omega) (by omega)]) (by rw [xc 5 (by omega), bc 5 (by omega), ac 5 (by omega) (by omega)]) (by rw [xc 50 (by omega)]; exact b2') (fun i hi => by
      have i0 : i = 0 := by omega
      subst i0
      refine ⟨by show up σ2 51 0 1 51 0 = 1; rw [up_self], fun x y1 y2 y3 => ?_⟩
      have ex : 324 * ((0 : Nat) : Int) + x = x := by omega
      rw [ex, z56 x y1 (by omega)]; rfl) (by omega)
    have fo : ∀ a, a ≠ 51 → a ≠ 56 → σ' a = σ2 a := fun a y1 y2 => by funext b; rw [d3 a b y1 (by omega), xc a y1]
    have gc : ∀ a, ¬ (50 ≤ a ∧ a ≤ 56) → σ' a = σ a := fun a y => by rw [fo a (by omega) (by omega), bc a (by omega), ac a (by omega) (by omega)]
    have e50 : ∀ b, b ≠ 1 → σ' 50 b = up σ 50 5 (σ 1 7) 50 b := fun b y => by rw [fo 50 (by omega) (by omega), b3 50 b (by omega), up_at, if_neg (by omega), a3 50 b (by omega) (by omega)]
    have ec : chS σ' = chS σ := by unfold chS; rw [gc 5 (by omega), gc 1 (by omega)]
    have hp : HpOK σ' := by
      refine ⟨by rw [ec, fo 50 (by omega) (by omega)]; exact b2', ?_, ?_⟩
      · rw [gc 2 (by omega), gc 1 (by omega)]
        exact sh σ' (fun a y1 y2 => by rw [fo a (by omega) (by omega), bc a (by omega)])
      · rw [ec, gc 2 (by omega), gc 6 (by omega), gc 5 (by omega), gc 1 (by omega)]
        exact d2
    have e55 : σ' 50 5 = σ 1 7 := by rw [e50 5 (by omega), up_self]
    refine ⟨σ', ?_, ⟨by rw [e55, gc 1 (by omega)]; omega, fun j y1 y2 => ?_, fun _ => hp⟩, hp, fun a b y => ?_⟩
    · rw [a1, Option.bind_some, b1']; exact d1
    · rw [d3 56 j (by omega) (by omega)]; exact z56 j y1 y2
    · unfold supH at y
      by_cases z : 50 ≤ a ∧ a ≤ 56
      · by_cases z0 : a = 50
        · subst z0
          rw [e50 b (by omega), up_at, if_neg (by omega)]
        · have z2 : a = 52 := by omega
          subst z2
          rw [fo 52 (by omega) (by omega), bc 52 (by omega), a3 52 b (by omega) (by omega), uc 52 (by omega)]
      · rw [gc a z]
theorem pairing_eq {σ : St} {g s ov : Int} {n p : Nat} {c f w : Int → Int} {P : Nat} (hc : CapOK c P) (hP : P ≤ 6) (h486 : stI c P ≤ 486) (hfg : FgM σ c P) (h5 : σ 148 = w) (hw : WOK w) (hg : 0 ≤ g ∧ g < 9) (hn : n ≤ 5) (hs : 0 ≤ s ∧ s < stI c P) (hp : p < P) (ho : σ 172 n = ov) (hr : ∀ x, 0 ≤ x → x < stI c P → σ 171 (512 * n + x) = f x) : gX11_pairing σ g p s n = some (if 0 < w (6 * g + p) ∧ 0 < dgI c p s then w (6 * g + p) * ov + f (s - stI c p) else -1) := by
  have a1 := hw (6 * g + p) (by omega) (by omega)
  have st := (hfg.2.2 p hp).1
  have sp := stI_pos hc p (by omega)
  unfold gX11_pairing
  rw [h5, w32_id (a := 6 * g + (p : Int)) (by omega), gd_pos (by omega), w32_id (a := w (6 * g + p)) (by omega), hasRoom_eq hc hP h486 hfg hs hp, Option.bind_some, tv_if0]
  by_cases q1 : 0 < w (6 * g + p)
  · rw [if_neg (by omega)]
    by_cases q2 : 0 < dgI c p s
    · obtain ⟨l1, l2⟩ := less_in hc hs hp q2
      rw [if_pos q2, if_pos ⟨q1, q2⟩, w32_id (a := (n : Int)) (by omega), gd_pos (by omega), w32_id (a := (p : Int)) (by omega), gd_pos (by omega), st, show 512 * (n : Int) + s - stI c p = 512 * n + (s - stI c p) by omega, w32_id (a := 512 * (n : Int) + (s - stI c p)) (by omega), gd_pos (by omega), ho, hr _ l1 l2]
    · rw [if_neg q2, if_neg (fun z => q2 z.2)]
  · rw [if_pos (by omega), if_neg (fun z => q1 z.1)]
theorem lay_105 {F : Nat} {x1 g s acc ov : Int} {n : Nat} {c f w ch : Int → Int} {P : Nat} {c36 : Int → St → Option St} {c63 : Int → Int → St → Option St} {c77 : Int → Int → Int → Int → St → Option St} {σ : St} (hc : CapOK c P) (hP : P ≤ 6) (h486 : stI c P ≤ 486) (hfg : FgM σ c P) (h5 : σ 148 = w) (h7 : σ 147 = ch) (hch : 0 ≤ ch g ∧ ch g ≤ 9) (hw : WOK w) (hg : 0 ≤ g ∧ g < 9) (hn : n ≤ 5) (hs : 0 ≤ s ∧ s < stI c P) (ho : σ 172 n = ov) (ho2 : 0 ≤ ov ∧ ov ≤ 300000000000) (hr : ∀ x, 0 ≤ x → x < stI c P → σ 171 (512 * n + x) = f x) (hf : ∀ x, 0 ≤ f x ∧ f x ≤ 200000000000000) : ∀ (m k p : Nat) (v : Int), p + m = P → 0 ≤ v ∧ v ≤ 300000000000000 → m < k → gX11_layHopes_L105 F x1 c36 c63 c77 k ((n : Int) + 1) s acc g v p σ = c77 ((n : Int) + 1) s (acc + ch g * hmP c w f ov g s m p v) (g + 1) σ := by
  have p0 := hfg.1
  intro m
  induction m with
  | zero =>
    intro k p v h1 h2 h3
    obtain ⟨k, rfl⟩ : ∃ n', k = n' + 1 := ⟨k - 1, by omega⟩
    rw [gX11_layHopes_L105, p0, w32_id (a := (p : Int)) (by omega), w32_id (a := (P : Int)) (by omega), if_pos (by omega), w32_id (a := g) (by omega), gd_pos (by omega), h7, w32_id (a := ch g) (by omega)]
    rfl
  | succ m ih =>
    intro k p v h1 h2 h3
    obtain ⟨k, rfl⟩ : ∃ n', k = n' + 1 := ⟨k - 1, by omega⟩
    have e : hmP c w f ov g s (m + 1) p v = hmP c w f ov g s m ((p : Int) + 1) (if 0 < w (6 * g + p) ∧ 0 < dgI c (p : Int).toNat s then (if v < w (6 * g + p) * ov + f (s - stI c (p : Int).toNat) then w (6 * g + p) * ov + f (s - stI c (p : Int).toNat) else v) else v) := rfl
    rw [Int.toNat_natCast] at e
    have a1 := hw (6 * g + p) (by omega) (by omega)
    have pe := pairing_eq (p := p) hc hP h486 hfg h5 hw hg hn hs (by omega) ho hr
    rw [gX11_layHopes_L105, p0, w32_id (a := (p : Int)) (by omega), w32_id (a := (P : Int)) (by omega), if_neg (by omega), show (n : Int) + 1 - 1 = n by omega, pe, Option.bind_some, e, w64_id (a := v) (by omega)]
    unfold gX11_layHopes_L143
    have stay := ih k (p + 1) v (by omega) h2 (by omega)
    by_cases q : 0 < w (6 * g + p) ∧ 0 < dgI c p s
    · have a2 := hf (s - stI c p)
      have a3 : 0 ≤ w (6 * g + p) * ov := Int.mul_nonneg a1.1 ho2.1
      have a4 : w (6 * g + p) * ov ≤ 99 * 300000000000 := Int.le_trans (Int.mul_le_mul_of_nonneg_right a1.2 ho2.1) (Int.mul_le_mul_of_nonneg_left ho2.2 (by decide))
      rw [if_pos q, if_pos q, w64_id (a := w (6 * g + p) * ov + f (s - stI c p)) (by omega)]
      by_cases z : v < w (6 * g + p) * ov + f (s - stI c p)
      · rw [if_neg (by omega), if_pos z]
        exact ih k (p + 1) (w (6 * g + p) * ov + f (s - stI c p)) (by omega) (by omega) (by omega)
      · rw [if_pos (by omega), if_neg z]
        exact stay
    · rw [if_neg q, if_neg q, w64_id (a := -1) (by omega), if_pos (by omega)]
      exact stay
