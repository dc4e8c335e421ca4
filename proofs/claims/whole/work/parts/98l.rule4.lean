-- PURE LAYER: rule (4): readKey and key
theorem DQ.step {b : Int → Int} {L R : Int} {σ τ σ' τ' : St} {x y : Option St} (m : σ (63 + 12 * R) 8 ≤ σ' (63 + 12 * R) 8) (f : frCK R σ σ') (g : frMK R τ τ') (h : DQ b L R σ' τ' x y) : DQ b L R σ τ x y := by
  obtain ⟨s, t, d1, d2, d3, d4, d5, d6⟩ := h
  exact ⟨s, t, d1, d2, d3, f.trans d4, g.trans d5, Int.le_trans m d6⟩
def DK (b : Int → Int) (L R : Int) (σ τ : St) (x y : Option St) : Prop := ∃ σ' τ', x = some σ' ∧ y = some τ' ∧ QR b L R σ' τ' ∧ frCK R σ σ' ∧ frMK R τ τ' ∧ (σ' 57 1 = 0 → σ' (63 + 12 * R) 8 = σ (63 + 12 * R) 8 + 1) ∧ σ (63 + 12 * R) 8 ≤ σ' (63 + 12 * R) 8
theorem DK.step {b : Int → Int} {L R : Int} {σ τ σ' τ' : St} {x y : Option St} (hR : 0 ≤ R) (f : frC σ σ') (g : frM τ τ') (h : DK b L R σ' τ' x y) : DK b L R σ τ x y := by
  obtain ⟨s, t, d1, d2, d3, d4, d5, d6, d7⟩ := h
  exact ⟨s, t, d1, d2, d3, (f.k R).trans d4, (g.k R).trans d5, fun q => by rw [d6 q, f _ _ (by omega)], Int.le_trans (f.m8 hR) d7⟩
/-- after the sign -/
theorem key2 {F : Nat} (hF : 300 ≤ F) {b : Int → Int} {L R : Int} {σ τ : St} (h : QR b L R σ τ) {s : Int} (hs : s = 0 ∨ s = 1) :
    DK b L R σ τ ((gX8_isKey σ (σ 57 5)).bind fun r2 => if w32 r2 ≠ 0 then (gX5_hasKey F σ (63 + 12 * R) (σ 57 5)).bind fun r3 => if w32 r3 = 0 then (gX5_addKey σ (63 + 12 * R) (σ 57 5) s).bind fun r4 => (gX8_advance F r4).bind fun r5 => some r5 else (gX8_fail σ 3).bind fun r6 => some r6 else (gX8_fail σ 2).bind fun r7 => some r7)
      (if w32 (τ 143 10) ≠ 0 then gX11_key_L48 F s τ else (gX11_isKey τ).bind fun r2 => if w32 r2 ≠ 0 then gX11_key_L48 F s τ else (gX11_fails τ 2).bind fun r3 => gX11_key_L48 F s r3) := by
  have hR := h.2.1
  have pf := h.1.2.2.1
  obtain ⟨f, hf⟩ : ∃ f, F = f + 1 := ⟨F - 1, by omega⟩
  have stop : ∀ σ' τ', QR b L R σ' τ' → σ' 57 1 ≠ 0 → gX11_key_L48 F s τ' = some τ' := fun σ' τ' g q => by
    have pg := g.1.2.2.1
    unfold gX11_key_L48
    conv => lhs; arg 2; rw [hf]
    exact keyL50_fault F f s 0 ⟨hR.1, hR.2.1⟩ g.2.1.2.2 (by rw [← pg.1]; exact pg.2.1) (by rw [← pg.1]; exact q)
  rw [isKey_eq h, Option.bind_some, w32_tv, ← pf.1, w32_id (a := σ 57 1) (by have := pf.2.1; omega)]
  by_cases z : σ 57 1 = 0
  · rw [if_neg (show ¬ σ 57 1 ≠ 0 from fun w => w z), (h.isKey z).1, Option.bind_some, w32_tv]
    by_cases k : σ 57 5 < 6
    · rw [tv_pos k, if_pos (by decide), if_pos (by decide)]
      have kt := h.2.2.2 z
      have tk := h.tk
      have h8 := h.2.2.1.1
      obtain ⟨r, r1, r2, r3⟩ := hasKey_L2_eq F σ (k := 63 + 12 * R) (x := σ 57 5) h8 tk (fun i i1 i2 => (kt.2.1 i i1 i2).1) (σ (63 + 12 * R) 8).toNat F 0 (by omega) (by omega) (by omega)
      have kl := keyL50_eq F s h z k (σ (63 + 12 * R) 8).toNat F 0 (by omega) (by omega) (by omega)
      unfold gX5_hasKey gX11_key_L48
      have wr : w32 r = r := by rcases r2 with w | w <;> rw [w] <;> decide
      rw [r1, Option.bind_some, wr]
      by_cases q : r = 0
      · have hn : ¬ ∃ i, 0 ≤ i ∧ i < σ (63 + 12 * R) 8 ∧ σ (63 + 12 * R + 1) i = σ 57 5 := fun w => r3.2 w q
        obtain ⟨σ1, τ1, a1, a2, a3, a4, a5, a6⟩ := add_key h z k hn hs
        obtain ⟨σ2, τ2, c1, c2, c3, c4, c5⟩ := a3.next hF
        rw [if_pos q, a1, Option.bind_some, c1, Option.bind_some, kl.2 hn, a2 F, c2]
        exact ⟨σ2, τ2, rfl, rfl, c3, a4.trans (c4.k R), a5.trans (c5.k R), fun _ => by rw [c4 _ _ (by omega), a6], by rw [c4 _ _ (by omega), a6]; omega⟩
      · obtain ⟨σ1, τ1, c1, c2, c3, c4, c5, c6⟩ := h.fail (x := 3) (by omega)
        rw [if_neg q, kl.1 (r3.1 q), c1, c2]
        exact ⟨σ1, τ1, rfl, rfl, c3, c5.k R, c6.k R, fun q => absurd q c4, c5.m8 hR.1⟩
    · rw [tv_neg k, if_neg (fun w => w rfl), if_neg (fun w => w rfl)]
      obtain ⟨σ1, τ1, c1, c2, c3, c4, c5, c6⟩ := h.fail (x := 2) (by omega)
      rw [c1, c2, Option.bind_some, Option.bind_some, stop σ1 τ1 c3 c4]
      exact ⟨σ1, τ1, rfl, rfl, c3, c5.k R, c6.k R, fun q => absurd q c4, c5.m8 hR.1⟩
  · have t := (pf.2.2 z).2.2
    rw [if_pos (show σ 57 1 ≠ 0 from z), tv_neg (by omega), if_neg (fun w => w rfl), fail_fault h z, Option.bind_some, stop σ τ h z]
    exact ⟨σ, τ, rfl, rfl, h, frCK.refl R σ, frMK.refl R τ, fun q => absurd q z, Int.le_refl _⟩
/-- class's readKey with a fault does nothing -/
theorem readKey_fault {F : Nat} {b : Int → Int} {L R : Int} {σ τ : St} (h : QR b L R σ τ) (z : σ 57 1 ≠ 0) (k : Int) : gX8_readKey F σ k = some σ := by
  have t := (h.1.2.2.1.2.2 z).2.2
  unfold gX8_readKey gX8_readKey_L14 gX8_readKey_L27 gX8_expect gX8_isKey
  rw [t, w32_id (a := 18) (by decide), if_pos (by decide), w32_0, if_pos rfl, w32_id (a := 10) (by decide), if_pos (by decide), fail_fault h z]
  simp only [Option.bind_some]
  rw [t, w32_id (a := 18) (by decide), if_neg (by decide), if_pos (by decide), Option.bind_some, w32_0, if_neg (fun w => w rfl), fail_fault h z]
  rfl
theorem key_both {F : Nat} (hF : 300 ≤ F) {b : Int → Int} {L R : Int} {σ τ : St} (h : QR b L R σ τ) (z : σ 57 1 = 0) : DK b L R σ τ (gX8_readKey F σ (63 + 12 * R)) (gX11_key F τ) := by
  have tk := h.tk
  have w18 : w32 (σ 57 5) = σ 57 5 := w32_id (by omega)
  unfold gX8_readKey gX11_key
  rw [h.isSign z (t := 11) (w := 45) (by omega), Option.bind_some, w32_tv, w18]
  by_cases t : σ 57 5 = 11
  · obtain ⟨σ1, τ1, c1, c2, c3, c4, c5⟩ := h.next hF
    rw [if_neg (fun w => w t), tv_pos t, if_pos (by decide)]
    unfold gX8_readKey_L14 gX8_readKey_L27 gX8_expect gX11_key_L25
    rw [w32_1, if_neg (by decide), w18, w32_id (a := 11) (by decide), if_neg (fun w => w t), c1, c2, Option.bind_some, Option.bind_some, Option.bind_some]
    exact DK.step h.2.1.1 c4 c5 (key2 hF c3 (Or.inr rfl))
  · rw [if_pos t, tv_neg t, if_neg (fun w => w rfl), h.isSign z (t := 10) (w := 43) (by omega), Option.bind_some, w32_tv]
    unfold gX8_readKey_L14 gX8_readKey_L27 gX8_expect gX11_key_L25
    rw [w32_0, if_pos rfl, w18, w32_id (a := 10) (by decide)]
    by_cases u : σ 57 5 = 10
    · obtain ⟨σ1, τ1, c1, c2, c3, c4, c5⟩ := h.next hF
      rw [if_neg (fun w => w u), tv_pos u, if_pos (by decide), c1, c2, Option.bind_some, Option.bind_some, Option.bind_some]
      exact DK.step h.2.1.1 c4 c5 (key2 hF c3 (Or.inl rfl))
    · obtain ⟨σ1, τ1, c1, c2, c3, c4, c5, c6⟩ := h.fail (x := 2) (by omega)
      have pg := c3.1.2.2.1
      rw [if_pos u, tv_neg u, if_neg (fun w => w rfl), c1, c2, Option.bind_some, Option.bind_some, Option.bind_some, nxt_fault F (by rw [← pg.1]; exact pg.2.1) (by rw [← pg.1]; exact c4), Option.bind_some]
      exact DK.step h.2.1.1 c5 c6 (key2 hF c3 (Or.inl rfl))
