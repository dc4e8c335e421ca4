-- PURE LAYER: hope, hopeFor
theorem dgI_all {c : Int → Int} {P p : Nat} (h : CapOK c P) (hp : p < P) : dgI c p (stI c P - 1) = c p := by
  have hc := h p hp
  have pos := stI_pos h P (Nat.le_refl _)
  have p0 := stI_pos h p (by omega)
  have p1 := stI_pos h (p + 1) (by omega)
  have es : stI c (p + 1) = stI c p * (c p + 1) := rfl
  obtain ⟨k, k1, k2⟩ := stI_mono h (P - (p + 1)) (p + 1) (by omega)
  rw [show p + 1 + (P - (p + 1)) = P by omega] at k2
  have em : (stI c P - 1) % stI c (p + 1) = stI c (p + 1) - 1 := by
    have e1 : stI c P - 1 = (stI c (p + 1) - 1) + stI c (p + 1) * (k - 1) := by
      rw [k2, Int.mul_sub, Int.mul_one]; omega
    rw [e1, Int.add_mul_emod_self_left]
    exact Int.emod_eq_of_lt (by omega) (by omega)
  rw [← dgI_mod h (by omega) (Nat.lt_succ_self p) (by omega), em]
  obtain ⟨t1, t2, t3⟩ := dgI_top h hp (s := stI c (p + 1) - 1) (by omega)
  rw [t1]
  have le : c p ≤ (stI c (p + 1) - 1) / stI c p := Int.le_ediv_of_mul_le p0 (by
    rw [es, Int.mul_comm (stI c p) (c p + 1), Int.add_mul]; omega)
  omega
theorem hmP_ge {c w f : Int → Int} {ov g s : Int} : ∀ (m : Nat) (p v : Int), v ≤ hmP c w f ov g s m p v := by
  intro m
  induction m with
  | zero => intro p v; exact Int.le_refl _
  | succ m ih =>
    intro p v
    have e : hmP c w f ov g s (m + 1) p v = hmP c w f ov g s m (p + 1) (if 0 < w (6 * g + p) ∧ 0 < dgI c p.toNat s then (if v < w (6 * g + p) * ov + f (s - stI c p.toNat) then w (6 * g + p) * ov + f (s - stI c p.toNat) else v) else v) := rfl
    rw [e]
    refine Int.le_trans ?_ (ih (p + 1) _)
    split
    · split <;> omega
    · exact Int.le_refl _
def lfI (c w f : Int → Int) (ov g s M : Int) : Nat → Int → Int
  | 0, _ => -4
  | m + 1, p => if 0 < w (6 * g + p) ∧ w (6 * g + p) * ov + f (s - stI c p.toNat) = M then p else lfI c w f ov g s M m (p + 1)
def hfI (c w f : Int → Int) (ov g s : Int) : Nat → Int → Int → Int → Int
  | 0, _, best, _ => best
  | m + 1, p, best, v => if 0 < w (6 * g + p) ∧ (v < w (6 * g + p) * ov + f (s - stI c p.toNat) ∨ v = w (6 * g + p) * ov + f (s - stI c p.toNat) ∧ best = -4) then hfI c w f ov g s m (p + 1) p (w (6 * g + p) * ov + f (s - stI c p.toNat)) else hfI c w f ov g s m (p + 1) best v
theorem hfI_eq {c w f : Int → Int} {ov g s : Int} {P : Nat} (hd : ∀ p : Nat, p < P → 0 < dgI c p s) : ∀ (m : Nat) (p best v : Int), 0 ≤ p → p + m = P → hfI c w f ov g s m p best v = if best ≠ -4 ∧ hmP c w f ov g s m p v = v then best else lfI c w f ov g s (hmP c w f ov g s m p v) m p := by
  intro m
  induction m with
  | zero =>
    intro p best v _ _
    show best = if best ≠ -4 ∧ v = v then best else -4
    by_cases z : best = -4
    · rw [if_neg (fun y => y.1 z), z]
    · rw [if_pos ⟨z, rfl⟩]
  | succ m ih =>
    intro p best v h1 h2
    have d := hd p.toNat (by omega)
    have e1 : hmP c w f ov g s (m + 1) p v = hmP c w f ov g s m (p + 1) (if 0 < w (6 * g + p) ∧ 0 < dgI c p.toNat s then (if v < w (6 * g + p) * ov + f (s - stI c p.toNat) then w (6 * g + p) * ov + f (s - stI c p.toNat) else v) else v) := rfl
    have e2 : ∀ M, lfI c w f ov g s M (m + 1) p = if 0 < w (6 * g + p) ∧ w (6 * g + p) * ov + f (s - stI c p.toNat) = M then p else lfI c w f ov g s M m (p + 1) := fun M => rfl
    have e3 : hfI c w f ov g s (m + 1) p best v = if 0 < w (6 * g + p) ∧ (v < w (6 * g + p) * ov + f (s - stI c p.toNat) ∨ v = w (6 * g + p) * ov + f (s - stI c p.toNat) ∧ best = -4) then hfI c w f ov g s m (p + 1) p (w (6 * g + p) * ov + f (s - stI c p.toNat)) else hfI c w f ov g s m (p + 1) best v := rfl
    rw [e1, e2, e3]
    generalize w (6 * g + p) * ov + f (s - stI c p.toNat) = B
    by_cases q1 : 0 < w (6 * g + p)
    · rw [if_pos (show 0 < w (6 * g + p) ∧ 0 < dgI c p.toNat s from ⟨q1, d⟩)]
      by_cases q2 : v < B
      · have ge := hmP_ge (c := c) (w := w) (f := f) (ov := ov) (g := g) (s := s) m (p + 1) B
        rw [if_pos ⟨q1, Or.inl q2⟩, if_pos q2, ih (p + 1) p B (by omega) (by omega)]
        rw [if_neg (show ¬ (best ≠ -4 ∧ hmP c w f ov g s m (p + 1) B = v) by omega)]
        by_cases q3 : hmP c w f ov g s m (p + 1) B = B
        · rw [if_pos ⟨by omega, q3⟩, if_pos ⟨q1, q3.symm⟩]
        · rw [if_neg (fun z => q3 z.2), if_neg (fun z => q3 z.2.symm)]
      · rw [if_neg q2]
        have ge := hmP_ge (c := c) (w := w) (f := f) (ov := ov) (g := g) (s := s) m (p + 1) v
        by_cases q3 : v = B ∧ best = -4
        · rw [if_pos ⟨q1, Or.inr q3⟩, ih (p + 1) p B (by omega) (by omega), ← q3.1]
          rw [if_neg (show ¬ (best ≠ -4 ∧ hmP c w f ov g s m (p + 1) v = v) from fun z => z.1 q3.2)]
          by_cases q4 : hmP c w f ov g s m (p + 1) v = v
          · rw [if_pos ⟨by omega, q4⟩, if_pos ⟨q1, q4.symm⟩]
          · rw [if_neg (fun z => q4 z.2), if_neg (fun z => q4 z.2.symm)]
        · rw [if_neg (show ¬ (0 < w (6 * g + p) ∧ (v < B ∨ v = B ∧ best = -4)) by omega), ih (p + 1) best v (by omega) (by omega)]
          by_cases q4 : best ≠ -4 ∧ hmP c w f ov g s m (p + 1) v = v
          · rw [if_pos q4, if_pos q4]
          · rw [if_neg q4, if_neg q4, if_neg (show ¬ (0 < w (6 * g + p) ∧ B = hmP c w f ov g s m (p + 1) v) by omega)]
    · rw [if_neg (show ¬ (0 < w (6 * g + p) ∧ 0 < dgI c p.toNat s) from fun z => q1 z.1), if_neg (fun z => q1 z.1), ih (p + 1) best v (by omega) (by omega), if_neg (show ¬ (0 < w (6 * g + p) ∧ B = hmP c w f ov g s m (p + 1) v) from fun z => q1 z.1)]
theorem first_20 {F : Nat} {σ : St} {g M : Int} {n : Nat} {c f : Int → Int} {P : Nat} {ov : Int} (hc : CapOK c P) (hP : P ≤ 6) (h324 : stI c P ≤ 324) (hsh : ShI σ 52 c P) (h5 : σ 1 5 = (P : Int)) (hw : WOK (σ 6)) (hg : 0 ≤ g ∧ g < 9) (hn : n ≤ 5) (ho : σ 51 n = ov) (ho2 : 0 ≤ ov ∧ ov ≤ 300000000000) (hr : ∀ p : Nat, p < P → σ 56 (324 * n + (stI c P - 1 - stI c p)) = f (stI c P - 1 - stI c p)) (hf : ∀ x, 0 ≤ f x ∧ f x ≤ 200000000000000) (hM : 0 ≤ M ∧ M ≤ 300000000000000) : ∀ (m k p : Nat), p + m = P → m < k → gX1_firstPost_L20 F σ g ((n : Int) + 1) k (stI c P - 1) M p = some (lfI c (σ 6) f ov g (stI c P - 1) M m p) := by
  have pos := stI_pos hc P (Nat.le_refl _)
  intro m
  induction m with
  | zero =>
    intro k p h1 h3
    obtain ⟨k, rfl⟩ : ∃ n', k = n' + 1 := ⟨k - 1, by omega⟩
    rw [gX1_firstPost_L20, h5, w32_id (a := (p : Int)) (by omega), w32_id (a := (P : Int)) (by omega), if_pos (by omega)]
    rfl
  | succ m ih =>
    intro k p h1 h3
    obtain ⟨k, rfl⟩ : ∃ n', k = n' + 1 := ⟨k - 1, by omega⟩
    have e : lfI c (σ 6) f ov g (stI c P - 1) M (m + 1) p = if 0 < σ 6 (6 * g + p) ∧ σ 6 (6 * g + p) * ov + f (stI c P - 1 - stI c (p : Int).toNat) = M then (p : Int) else lfI c (σ 6) f ov g (stI c P - 1) M m ((p : Int) + 1) := rfl
    rw [Int.toNat_natCast] at e
    have a1 := hw (6 * g + p) (by omega) (by omega)
    have e6 : σ (1 + 5) (6 * g + p) = σ 6 (6 * g + p) := rfl
    have hcp := hc p (by omega)
    have dg := dgI_all hc (p := p) (by omega)
    have a2 := hf (stI c P - 1 - stI c p)
    have a3 : 0 ≤ σ 6 (6 * g + p) * ov := Int.mul_nonneg a1.1 ho2.1
    have a4 : σ 6 (6 * g + p) * ov ≤ 99 * 300000000000 := Int.le_trans (Int.mul_le_mul_of_nonneg_right a1.2 ho2.1) (Int.mul_le_mul_of_nonneg_left ho2.2 (by decide))
    rw [gX1_firstPost_L20, h5, w32_id (a := (p : Int)) (by omega), w32_id (a := (P : Int)) (by omega), if_neg (by omega), worthAt_eq hg (by omega), Option.bind_some, e6, w32_id (a := σ 6 (6 * g + p)) (by omega), byPost_eq (f := f) hc hP h324 hsh hw hg hn (s := stI c P - 1) (by omega) (by omega) (by omega) ho (hr p (by omega)), Option.bind_some, w64_id (a := M) (by omega), w64_id (a := σ 6 (6 * g + p) * ov + f (stI c P - 1 - stI c p)) (by omega), e]
    unfold gX1_firstPost_L63
    have stay : gX1_firstPost_L20 F σ g ((n : Int) + 1) k (stI c P - 1) M ((p : Int) + 1) = some (lfI c (σ 6) f ov g (stI c P - 1) M m ((p : Int) + 1)) := ih k (p + 1) (by omega) (by omega)
    rw [stay]
    by_cases q1 : 0 < σ 6 (6 * g + p)
    · rw [if_neg (by omega)]
      by_cases q3 : σ 6 (6 * g + p) * ov + f (stI c P - 1 - stI c p) = M
      · rw [if_neg (fun z => z q3), if_pos ⟨q1, q3⟩]
      · rw [if_pos q3, if_neg (fun z => q3 z.2)]
    · rw [if_pos (by omega), if_neg (fun z => q1 z.1)]
theorem hopeM_64 {F : Nat} {g ov : Int} {n : Nat} {c f w : Int → Int} {P : Nat} {σ : St} (hc : CapOK c P) (hP : P ≤ 6) (h486 : stI c P ≤ 486) (hfg : FgM σ c P) (h5 : σ 148 = w) (hw : WOK w) (hg : 0 ≤ g ∧ g < 9) (hn : n ≤ 5) (ho : σ 172 n = ov) (ho2 : 0 ≤ ov ∧ ov ≤ 300000000000) (hr : ∀ x, 0 ≤ x → x < stI c P → σ 171 (512 * n + x) = f x) (hf : ∀ x, 0 ≤ f x ∧ f x ≤ 200000000000000) : ∀ (m k p : Nat) (best v : Int), p + m = P → 0 ≤ v ∧ v ≤ 300000000000000 → (best = -4 ∨ 0 ≤ best ∧ best < 6) → m < k → gX11_hopeFor_L64 F g ((n : Int) + 1) k best v p σ = some (hfI c w f ov g (stI c P - 1) m p best v, σ) := by
  have p0 := hfg.1
  have pos := stI_pos hc P (Nat.le_refl _)
  intro m
  induction m with
  | zero =>
    intro k p best v h1 h2 h4 h3
    obtain ⟨k, rfl⟩ : ∃ n', k = n' + 1 := ⟨k - 1, by omega⟩
    rw [gX11_hopeFor_L64, p0, w32_id (a := (p : Int)) (by omega), w32_id (a := (P : Int)) (by omega), if_pos (by omega)]
    rfl
  | succ m ih =>
    intro k p best v h1 h2 h4 h3
    obtain ⟨k, rfl⟩ : ∃ n', k = n' + 1 := ⟨k - 1, by omega⟩
    have e3 : hfI c w f ov g (stI c P - 1) (m + 1) p best v = if 0 < w (6 * g + p) ∧ (v < w (6 * g + p) * ov + f (stI c P - 1 - stI c (p : Int).toNat) ∨ v = w (6 * g + p) * ov + f (stI c P - 1 - stI c (p : Int).toNat) ∧ best = -4) then hfI c w f ov g (stI c P - 1) m ((p : Int) + 1) p (w (6 * g + p) * ov + f (stI c P - 1 - stI c (p : Int).toNat)) else hfI c w f ov g (stI c P - 1) m ((p : Int) + 1) best v := rfl
    rw [Int.toNat_natCast] at e3
    have a1 := hw (6 * g + p) (by omega) (by omega)
    have hcp := hc p (by omega)
    have dg := dgI_all hc (p := p) (by omega)
    have a2 := hf (stI c P - 1 - stI c p)
    have a3 : 0 ≤ w (6 * g + p) * ov := Int.mul_nonneg a1.1 ho2.1
    have a4 : w (6 * g + p) * ov ≤ 99 * 300000000000 := Int.le_trans (Int.mul_le_mul_of_nonneg_right a1.2 ho2.1) (Int.mul_le_mul_of_nonneg_left ho2.2 (by decide))
    have ew : gX11_whole σ = some (stI c P - 1) := by
      unfold gX11_whole
      rw [hfg.2.1]
    rw [gX11_hopeFor_L64, p0, w32_id (a := (p : Int)) (by omega), w32_id (a := (P : Int)) (by omega), if_neg (by omega), ew, Option.bind_some, show (n : Int) + 1 - 1 = n by omega, pairing_eq (p := p) hc hP h486 hfg h5 hw hg hn (s := stI c P - 1) (by omega) (by omega) ho hr, Option.bind_some, w64_id (a := v) (by omega), w32_id (a := best) (by omega), e3]
    unfold gX11_hopeFor_L111 gX11_hopeFor_L118
    have stay := ih k (p + 1) best v (by omega) h2 h4 (by omega)
    have stay' : gX11_hopeFor_L64 F g ((n : Int) + 1) k best v ((p : Int) + 1) σ = some (hfI c w f ov g (stI c P - 1) m ((p : Int) + 1) best v, σ) := stay
    by_cases q1 : 0 < w (6 * g + p)
    · have move := ih k (p + 1) p (w (6 * g + p) * ov + f (stI c P - 1 - stI c p)) (by omega) (by omega) (by omega) (by omega)
      have move' : gX11_hopeFor_L64 F g ((n : Int) + 1) k p (w (6 * g + p) * ov + f (stI c P - 1 - stI c p)) ((p : Int) + 1) σ = some (hfI c w f ov g (stI c P - 1) m ((p : Int) + 1) p (w (6 * g + p) * ov + f (stI c P - 1 - stI c p)), σ) := move
      rw [if_pos (show 0 < w (6 * g + p) ∧ 0 < dgI c p (stI c P - 1) by omega), w64_id (a := w (6 * g + p) * ov + f (stI c P - 1 - stI c p)) (by omega), stay', move']
      by_cases q2 : v < w (6 * g + p) * ov + f (stI c P - 1 - stI c p)
      · rw [if_pos (by omega), if_pos ⟨q1, Or.inl q2⟩]
      · rw [if_neg (by omega)]
        by_cases q3 : w (6 * g + p) * ov + f (stI c P - 1 - stI c p) = v
        · rw [if_neg (fun z => z q3)]
          by_cases q4 : best = -4
          · rw [if_neg (fun z => z q4), if_pos ⟨q1, Or.inr ⟨q3.symm, q4⟩⟩]
          · rw [if_pos q4, if_neg (by omega)]
        · rw [if_pos q3, if_neg (by omega)]
    · rw [if_neg (show ¬ (0 < w (6 * g + p) ∧ 0 < dgI c p (stI c P - 1)) from fun z => q1 z.1), w64_id (a := -1) (by omega), stay', if_neg (by omega), if_pos (by omega), if_neg (fun z => q1 z.1)]
