-- PURE LAYER: rule (10): the loops over tests and keys
theorem tests_both {F : Nat} (hF : 300 ≤ F) {b : Int → Int} {L R : Int} : ∀ (m n n' : Nat) (x : Int) (σ τ : St), QR b L R σ τ → (σ 57 1 ≠ 0 ∨ 4 - σ (63 + 12 * R) 9 < m) → 0 ≤ x → x + m < 100 → m < n → m < n' → DQ b L R σ τ (gX8_readInto_L87 F (63 + 12 * R) n x σ) (gX11_readRule_L98 F n' τ) := by
  intro m
  induction m with
  | zero =>
    intro n n' x σ τ h hm x0 x1 hn hn'
    obtain ⟨n, rfl⟩ : ∃ k, n = k + 1 := ⟨n - 1, by omega⟩
    obtain ⟨n', rfl⟩ : ∃ k, n' = k + 1 := ⟨n' - 1, by omega⟩
    have h9 := h.2.2.1.2
    have z : σ 57 1 ≠ 0 := by rcases hm with q | q; exact q; omega
    have pf := h.1.2.2.1
    have t := (pf.2.2 z).2.2
    rw [gX8_readInto_L87, gX11_readRule_L98, ← pf.1, w32_id (a := σ 57 1) (by have := pf.2.1; omega), if_pos z, t, w32_id (a := 18) (by decide), if_pos (by decide)]
    exact drop_both hF h
  | succ m ih =>
    intro n n' x σ τ h hm x0 x1 hn hn'
    obtain ⟨n, rfl⟩ : ∃ k, n = k + 1 := ⟨n - 1, by omega⟩
    obtain ⟨n', rfl⟩ : ∃ k, n' = k + 1 := ⟨n' - 1, by omega⟩
    have h9 := h.2.2.1.2
    have pf := h.1.2.2.1
    have tk := h.tk
    rw [gX8_readInto_L87, gX11_readRule_L98, ← pf.1, w32_id (a := σ 57 1) (by have := pf.2.1; omega), w32_id (a := σ 57 5) (by omega), w32_id (a := x) (by omega)]
    by_cases z : σ 57 1 = 0
    · rw [if_neg (show ¬ σ 57 1 ≠ 0 from fun w => w z), h.isName z (t := 8) (by omega), Option.bind_some, w32_tv]
      by_cases t : σ 57 5 = 8
      · rw [if_neg (show ¬ σ 57 5 ≠ 8 from fun w => w t), tv_pos t, if_neg (show ¬ (1 : Int) = 0 by decide), if_neg (show ¬ x ≥ 160 by omega)]
        obtain ⟨σ1, τ1, c1, c2, c3, c4, c5⟩ := h.next hF
        obtain ⟨σ2, τ2, d1, d2, d3, d4, d5, d6, d7⟩ := test_both hF c3
        rw [c1, c2, Option.bind_some, Option.bind_some, d1, d2, Option.bind_some, Option.bind_some]
        refine DQ.step (Int.le_trans (c4.m8 h.2.1.1) d7) ((c4.k R).trans d4) ((c5.k R).trans d5) (ih n n' (x + 1) σ2 τ2 d3 ?_ (by omega) (by omega) (by omega) (by omega))
        by_cases q : σ2 57 1 = 0
        · have e := d6 q
          rw [c4 _ _ (by omega)] at e
          have : 4 - σ (63 + 12 * R) 9 < m + 1 := by rcases hm with q | q; exact absurd z q; omega
          right; omega
        · exact Or.inl q
      · rw [if_pos (show σ 57 5 ≠ 8 from t), tv_neg t, if_pos rfl]
        exact drop_both hF h
    · have t := (pf.2.2 z).2.2
      rw [if_pos (show σ 57 1 ≠ 0 from z), if_pos (show σ 57 5 ≠ 8 by omega)]
      exact drop_both hF h
theorem if_both {F : Nat} (hF : 300 ≤ F) {b : Int → Int} {L R : Int} {σ τ : St} (h : QR b L R σ τ) : DQ b L R σ τ (gX8_readInto_L67 F (63 + 12 * R) σ) (gX11_readRule_L74 F τ) := by
  have pf := h.1.2.2.1
  have tk := h.tk
  unfold gX8_readInto_L67 gX11_readRule_L74
  rw [← pf.1, w32_id (a := σ 57 1) (by have := pf.2.1; omega), w32_id (a := σ 57 5) (by omega)]
  by_cases z : σ 57 1 = 0
  · rw [if_neg (show ¬ σ 57 1 ≠ 0 from fun w => w z), h.isName z (t := 7) (by omega), Option.bind_some, w32_tv]
    by_cases t : σ 57 5 = 7
    · rw [if_neg (show ¬ σ 57 5 ≠ 7 from fun w => w t), tv_pos t, if_neg (show ¬ (1 : Int) = 0 by decide)]
      obtain ⟨σ1, τ1, c1, c2, c3, c4, c5⟩ := h.next hF
      obtain ⟨σ2, τ2, d1, d2, d3, d4, d5, d6, d7⟩ := test_both hF c3
      have h9 := d3.2.2.1.2
      rw [c1, c2, Option.bind_some, Option.bind_some, d1, d2, Option.bind_some, Option.bind_some]
      exact DQ.step (Int.le_trans (c4.m8 h.2.1.1) d7) ((c4.k R).trans d4) ((c5.k R).trans d5) (tests_both hF 5 F F 0 σ2 τ2 d3 (Or.inr (by omega)) (by omega) (by omega) (by omega) (by omega))
    · rw [if_pos (show σ 57 5 ≠ 7 from t), tv_neg t, if_pos rfl]
      exact drop_both hF h
  · have t := (pf.2.2 z).2.2
    rw [if_pos (show σ 57 1 ≠ 0 from z), if_pos (show σ 57 5 ≠ 7 by omega)]
    exact drop_both hF h
theorem keys_both {F : Nat} (hF : 300 ≤ F) {b : Int → Int} {L R : Int} : ∀ (m n n' : Nat) (x : Int) (σ τ : St), QR b L R σ τ → (σ 57 1 ≠ 0 ∨ 6 - σ (63 + 12 * R) 8 < m) → 0 ≤ x → x + m < 100 → m < n → m < n' → DQ b L R σ τ (gX8_readInto_L36 F (63 + 12 * R) n x σ) (gX11_readRule_L40 F n' τ) := by
  intro m
  induction m with
  | zero =>
    intro n n' x σ τ h hm x0 x1 hn hn'
    obtain ⟨n, rfl⟩ : ∃ k, n = k + 1 := ⟨n - 1, by omega⟩
    obtain ⟨n', rfl⟩ : ∃ k, n' = k + 1 := ⟨n' - 1, by omega⟩
    have h8 := h.2.2.1.1
    have z : σ 57 1 ≠ 0 := by rcases hm with q | q; exact q; omega
    have pf := h.1.2.2.1
    have t := (pf.2.2 z).2.2
    rw [gX8_readInto_L36, gX11_readRule_L40, ← pf.1, w32_id (a := σ 57 1) (by have := pf.2.1; omega), if_pos z, t, w32_id (a := 18) (by decide), if_pos (by decide)]
    exact if_both hF h
  | succ m ih =>
    intro n n' x σ τ h hm x0 x1 hn hn'
    obtain ⟨n, rfl⟩ : ∃ k, n = k + 1 := ⟨n - 1, by omega⟩
    obtain ⟨n', rfl⟩ : ∃ k, n' = k + 1 := ⟨n' - 1, by omega⟩
    have h8 := h.2.2.1.1
    have pf := h.1.2.2.1
    have tk := h.tk
    rw [gX8_readInto_L36, gX11_readRule_L40, ← pf.1, w32_id (a := σ 57 1) (by have := pf.2.1; omega), w32_id (a := σ 57 5) (by omega), w32_id (a := x) (by omega)]
    by_cases z : σ 57 1 = 0
    · rw [if_neg (show ¬ σ 57 1 ≠ 0 from fun w => w z), h.isSign z (t := 12) (w := 44) (by omega), Option.bind_some, w32_tv]
      by_cases t : σ 57 5 = 12
      · rw [if_neg (show ¬ σ 57 5 ≠ 12 from fun w => w t), tv_pos t, if_neg (show ¬ (1 : Int) = 0 by decide), if_neg (show ¬ x ≥ 160 by omega)]
        obtain ⟨σ1, τ1, c1, c2, c3, c4, c5⟩ := h.next hF
        have pg := c3.1.2.2.1
        rw [c1, c2, Option.bind_some, Option.bind_some, ← pg.1, w32_id (a := σ1 57 1) (by have := pg.2.1; omega)]
        by_cases q1 : σ1 57 1 = 0
        · obtain ⟨σ2, τ2, d1, d2, d3, d4, d5, d6, d7⟩ := key_both hF c3 q1
          rw [if_neg (show ¬ σ1 57 1 ≠ 0 from fun w => w q1), d1, d2, Option.bind_some, Option.bind_some]
          refine DQ.step (Int.le_trans (c4.m8 h.2.1.1) d7) ((c4.k R).trans d4) ((c5.k R).trans d5) (ih n n' (x + 1) σ2 τ2 d3 ?_ (by omega) (by omega) (by omega) (by omega))
          by_cases q : σ2 57 1 = 0
          · have e := d6 q
            rw [c4 _ _ (by omega)] at e
            have : 6 - σ (63 + 12 * R) 8 < m + 1 := by rcases hm with q | q; exact absurd z q; omega
            right; omega
          · exact Or.inl q
        · rw [if_pos (show σ1 57 1 ≠ 0 from q1), readKey_fault c3 q1, Option.bind_some]
          exact DQ.step (c4.m8 h.2.1.1) (c4.k R) (c5.k R) (ih n n' (x + 1) σ1 τ1 c3 (Or.inl q1) (by omega) (by omega) (by omega) (by omega))
      · rw [if_pos (show σ 57 5 ≠ 12 from t), tv_neg t, if_pos rfl]
        exact if_both hF h
    · have t := (pf.2.2 z).2.2
      rw [if_pos (show σ 57 1 ≠ 0 from z), if_pos (show σ 57 5 ≠ 12 by omega)]
      exact if_both hF h
/-- with a fault nothing more is read -/
theorem into_fault {F : Nat} {b : Int → Int} {L R : Int} {σ τ : St} (h : QR b L R σ τ) (z : σ 57 1 ≠ 0) (k x : Int) (n : Nat) : gX8_readInto_L36 F k (n + 1) x σ = some σ := by
  have t := (h.1.2.2.1.2.2 z).2.2
  rw [gX8_readInto_L36]
  unfold gX8_readInto_L67 gX8_readInto_L118 gX8_readInto_L136 gX8_expect
  rw [t, w32_id (a := 18) (by decide), w32_id (a := 15) (by decide), if_pos (by decide), if_pos (by decide), if_pos (by decide), if_pos (by decide), fail_fault h z, Option.bind_some, Option.bind_some, t, w32_id (a := 18) (by decide), if_neg (by decide), fail_fault h z]
  rfl
/-- the whole reading, from stores where both have begun -/
theorem read_both {F : Nat} (hF : 300 ≤ F) {b : Int → Int} {L R : Int} {σ τ : St} (hC : TC b L σ) (hM : TM b L τ) (hR : 0 ≤ R ∧ R < 6 ∧ τ 143 16 = R) (p1 : σ 57 1 = 0 ∧ τ 143 10 = 0) (p2 : σ 57 4 = 0 ∧ τ 143 12 = 0) (k1 : σ (63 + 12 * R) 8 = 0 ∧ σ (63 + 12 * R) 9 = 0 ∧ σ (63 + 12 * R) 10 = 0) (m1 : τ 150 R = 0 ∧ τ 152 R = 0 ∧ τ 156 R = 0) :
    ∃ σ' τ', ((gX8_advance F σ).bind fun r2 => (gX8_expect F r2 6).bind fun r3 => (gX8_readKey F r3 (63 + 12 * R)).bind fun r4 => gX8_readInto_L36 F (63 + 12 * R) F 0 r4) = some σ' ∧ gX11_readRule F τ = some τ' ∧ QR b L R σ' τ' ∧ frCK R σ σ' ∧ frMK R τ τ' ∧ (σ' 57 1 = 0 → 1 ≤ σ' (63 + 12 * R) 8) := by
  obtain ⟨σ1, τ1, a1, a2, a3, a4, a5⟩ := adv_next hF hC hM (σ := σ) (τ := τ) ⟨by rw [p1.1, p1.2], by omega, fun q => absurd p1.1 q⟩ (fun _ => ⟨by omega, by have := hC.1; omega, by rw [p2.1, p2.2]⟩)
  have h1 : QR b L R σ1 τ1 := by
    refine ⟨a3, by rw [a5 _ _ (by omega)]; exact hR, by rw [a4 _ _ (by omega), a4 _ _ (by omega)]; omega, fun _ => KT.fr ⟨hR.1, hR.2.1⟩ (σ := σ) (τ := τ) ?_ a4 a5⟩
    refine ⟨by omega, fun i i1 i2 => by omega, fun i j i1 i2 i3 => by omega, by omega, fun i i1 i2 => by omega, by omega, by omega⟩
  have n8 : σ1 (63 + 12 * R) 8 = 0 := by rw [a4 _ _ (by omega)]; exact k1.1
  clear k1 m1 p1 p2 hC hM a3
  -- after the first key, or with a fault
  have go : ∀ σ2 τ2, QR b L R σ2 τ2 → frC σ1 σ2 → frM τ1 τ2 → ∃ σ' τ', ((gX8_readKey F σ2 (63 + 12 * R)).bind fun r4 => gX8_readInto_L36 F (63 + 12 * R) F 0 r4) = some σ' ∧ (if w32 (τ2 143 10) ≠ 0 then gX11_readRule_L40 F F τ2 else (gX11_key F τ2).bind fun r2 => gX11_readRule_L40 F F r2) = some τ' ∧ QR b L R σ' τ' ∧ frCK R σ σ' ∧ frMK R τ τ' ∧ (σ' 57 1 = 0 → 1 ≤ σ' (63 + 12 * R) 8) := by
    intro σ2 τ2 h2 f2 g2
    have pg := h2.1.2.2.1
    rw [← pg.1, w32_id (a := σ2 57 1) (by have := pg.2.1; omega)]
    by_cases q : σ2 57 1 = 0
    · obtain ⟨σ3, τ3, d1, d2, d3, d4, d5, d6, d7⟩ := key_both hF h2 q
      have h8 := d3.2.2.1.1
      obtain ⟨σ4, τ4, e1, e2, e3, e4, e5, e6⟩ := keys_both hF (b := b) (L := L) (R := R) 7 F F 0 σ3 τ3 d3 (Or.inr (by omega)) (by omega) (by omega) (by omega) (by omega)
      rw [if_neg (show ¬ σ2 57 1 ≠ 0 from fun w => w q), d1, d2, Option.bind_some, Option.bind_some]
      refine ⟨σ4, τ4, e1, e2, e3, (a4.k R).trans ((f2.k R).trans (d4.trans e4)), (a5.k R).trans ((g2.k R).trans (d5.trans e5)), fun w => ?_⟩
      by_cases v : σ3 57 1 = 0
      · have := d6 v
        have h8' := h2.2.2.1.1
        omega
      · -- a fault stays
        have e := into_fault (F := F) d3 v (63 + 12 * R) 0 (F - 1)
        rw [show F - 1 + 1 = F by omega, e1] at e
        rw [Option.some.inj e] at w
        exact absurd w v
    · rw [if_pos (show σ2 57 1 ≠ 0 from q), readKey_fault h2 q, Option.bind_some]
      obtain ⟨σ4, τ4, e1, e2, e3, e4, e5, e6⟩ := keys_both hF (b := b) (L := L) (R := R) 7 F F 0 σ2 τ2 h2 (Or.inl q) (by omega) (by omega) (by omega) (by omega)
      refine ⟨σ4, τ4, e1, e2, e3, (a4.k R).trans ((f2.k R).trans e4), (a5.k R).trans ((g2.k R).trans e5), fun w => ?_⟩
      have e := into_fault (F := F) h2 q (63 + 12 * R) 0 (F - 1)
      rw [show F - 1 + 1 = F by omega, e1] at e
      rw [Option.some.inj e] at w
      exact absurd w q
  have pf := h1.1.2.2.1
  have tk := h1.tk
  unfold gX11_readRule gX11_readRule_L25 gX8_expect
  rw [a1, a2, Option.bind_some, Option.bind_some, ← pf.1, w32_id (a := σ1 57 1) (by have := pf.2.1; omega), w32_id (a := σ1 57 5) (by omega), w32_id (a := 6) (by decide), bindS, bindS]
  by_cases z : σ1 57 1 = 0
  · rw [if_neg (show ¬ σ1 57 1 ≠ 0 from fun w => w z), h1.isName z (t := 6) (by omega), Option.bind_some, w32_tv]
    by_cases t : σ1 57 5 = 6
    · obtain ⟨σ2, τ2, c1, c2, c3, c4, c5⟩ := h1.next hF
      rw [if_neg (show ¬ σ1 57 5 ≠ 6 from fun w => w t), tv_pos t, if_pos (show (1 : Int) ≠ 0 by decide), c1, c2, Option.bind_some, Option.bind_some]
      exact go σ2 τ2 c3 c4 c5
    · obtain ⟨σ2, τ2, c1, c2, c3, c4, c5, c6⟩ := h1.fail (x := 2) (by omega)
      have pg := c3.1.2.2.1
      rw [if_pos (show σ1 57 5 ≠ 6 from t), tv_neg t, if_neg (show ¬ (0 : Int) ≠ 0 from fun w => w rfl), c1, c2, Option.bind_some, Option.bind_some, nxt_fault F (by rw [← pg.1]; exact pg.2.1) (by rw [← pg.1]; exact c4), Option.bind_some]
      exact go σ2 τ2 c3 c5 c6
  · have t := (pf.2.2 z).2.2
    rw [if_pos (show σ1 57 1 ≠ 0 from z), if_pos (show σ1 57 5 ≠ 6 by omega), fail_fault h1 z, nxt_fault F (by rw [← pf.1]; exact pf.2.1) (by rw [← pf.1]; exact z), Option.bind_some, Option.bind_some]
    exact go σ1 τ1 h1 (frC.refl σ1) (frM.refl τ1)
