-- PURE LAYER: the pairs, the reference
theorem upf_upf (f : Int → Int) (j u v : Int) : upf (upf f j u) j v = upf f j v := by
  funext b
  unfold upf
  split <;> rfl
theorem pairs_24 {F : Nat} {x1 x2 x3 g s v : Int} {c f w : Int → Int} {P : Nat} {c6 : Int → Int → St → Option (Int × St)} {σ : St} (hc : CapOK c P) (hP : P ≤ 6) (h486 : stI c P ≤ 486) (hfg : FgM σ c P) (h5 : σ 148 = w) (hw : WOK w) (hg : 0 ≤ g ∧ g < 9) (hs : 0 ≤ s ∧ s < stI c P) (hr : ∀ x, 0 ≤ x → x < stI c P → σ 169 (512 * (g + 1) + x) = f x) (hv : σ 169 (512 * g + s) = v) (hf : ∀ x, 0 ≤ f x ∧ f x ≤ 2000) (hv2 : 0 ≤ v ∧ v ≤ 2099) (hn : σ 170 g = -4) : ∀ (m n p : Nat), p + m = P → m + 1 < n → gX11_layPairs_L24 F x1 x2 x3 c6 n s g p σ = if lpI c w f v g s m p = -4 then c6 s (g + 1) σ else c6 (s - stI c (lpI c w f v g s m p).toNat) (g + 1) (up σ 170 g (lpI c w f v g s m p)) := by
  have p0 := hfg.1
  have L135 : gX11_layPairs_L135 F x1 x2 x3 c6 s g σ = c6 s (g + 1) σ := by
    unfold gX11_layPairs_L135 gX11_layPairs_L165
    rw [w32_id (a := g) (by omega), gd_pos (by omega), hn, if_neg (fun z => z (by decide)), Int.sub_zero]
  intro m
  induction m with
  | zero =>
    intro n p h1 h3
    obtain ⟨n, rfl⟩ : ∃ n', n = n' + 1 := ⟨n - 1, by omega⟩
    rw [gX11_layPairs_L24, p0, w32_id (a := (p : Int)) (by omega), w32_id (a := (P : Int)) (by omega), if_pos (by omega), L135, if_pos (show lpI c w f v g s 0 p = -4 from rfl)]
  | succ m ih =>
    intro n p h1 h3
    obtain ⟨n, rfl⟩ : ∃ n', n = n' + 1 := ⟨n - 1, by omega⟩
    have e : lpI c w f v g s (m + 1) p = if 0 < w (6 * g + p) ∧ 0 < dgI c (p : Int).toNat s ∧ w (6 * g + p) + f (s - stI c (p : Int).toNat) = v then (p : Int) else lpI c w f v g s m ((p : Int) + 1) := rfl
    rw [Int.toNat_natCast] at e
    have a1 := hw (6 * g + p) (by omega) (by omega)
    have st := (hfg.2.2 p (by omega)).1
    have sp := stI_pos hc p (by omega)
    have stay := ih n (p + 1) (by omega) (by omega)
    rw [show ((p + 1 : Nat) : Int) = (p : Int) + 1 by omega] at stay
    rw [gX11_layPairs_L24, p0, h5, w32_id (a := (p : Int)) (by omega), w32_id (a := (P : Int)) (by omega), if_neg (by omega), w32_id (a := g) (by omega), gd_pos (by omega), hn, if_neg (fun z => z (by decide)), w32_id (a := 6 * g + (p : Int)) (by omega), gd_pos (by omega), w32_id (a := w (6 * g + p)) (by omega), hasRoom_eq hc hP h486 hfg hs (by omega), Option.bind_some, tv_if0, e]
    unfold gX11_layPairs_L129
    rw [stay]
    by_cases q1 : 0 < w (6 * g + p)
    · rw [if_neg (by omega)]
      by_cases q2 : 0 < dgI c p s
      · obtain ⟨l1, l2⟩ := less_in hc hs (by omega) q2
        have a2 := hf (s - stI c p)
        have rr := hr (s - stI c p) l1 l2
        rw [if_pos q2, gd_pos (by omega), st, w32_id (a := 512 * (g + 1) + s - stI c p) (by omega), gd_pos (by omega), w32_id (a := 512 * g + s) (by omega), gd_pos (by omega), hv, show 512 * (g + 1) + s - stI c p = 512 * (g + 1) + (s - stI c p) by omega, rr, w32_id (a := v) (by omega), w32_id (a := w (6 * g + p) + f (s - stI c p)) (by omega)]
        by_cases q3 : w (6 * g + p) + f (s - stI c p) = v
        · have cp : (if 0 < w (6 * g + p) ∧ 0 < dgI c p s ∧ w (6 * g + p) + f (s - stI c p) = v then (p : Int) else lpI c w f v g s m ((p : Int) + 1)) = p := if_pos ⟨q1, q2, q3⟩
          rw [if_neg (fun z => z q3), gd_pos (by omega), cp, if_neg (by omega), Int.toNat_natCast]
          -- the loop ends at once: the guest has a post
          obtain ⟨n, rfl⟩ : ∃ n', n = n' + 1 := ⟨n - 1, by omega⟩
          have u0 : up σ 170 g p 143 0 = (P : Int) := by rw [up_at, if_neg (by omega)]; exact p0
          have ug : up σ 170 g p 170 g = (p : Int) := up_self _ _ _ _
          have u8 : up σ 170 g p 168 p = stI c p := by rw [up_at, if_neg (by omega)]; exact st
          have M : gX11_layPairs_L135 F x1 x2 x3 c6 s g (up σ 170 g p) = c6 (s - stI c p) (g + 1) (up σ 170 g p) := by
            unfold gX11_layPairs_L135 gX11_layPairs_L165
            rw [w32_id (a := g) (by omega), gd_pos (by omega), ug, w32_id (a := (p : Int)) (by omega), if_pos (by omega), gd_pos (by omega), gd_pos (by omega), u8]
          rw [gX11_layPairs_L24, u0, w32_id (a := (p : Int) + 1) (by omega), w32_id (a := (P : Int)) (by omega), w32_id (a := g) (by omega), ug, w32_id (a := (p : Int)) (by omega)]
          by_cases z : (p : Int) + 1 ≥ P
          · rw [if_pos z, M]
          · rw [if_neg z, gd_pos (by omega), if_pos (by omega), M]
        · have cn : (if 0 < w (6 * g + p) ∧ 0 < dgI c p s ∧ w (6 * g + p) + f (s - stI c p) = v then (p : Int) else lpI c w f v g s m ((p : Int) + 1)) = lpI c w f v g s m ((p : Int) + 1) := if_neg (fun z => q3 z.2.2)
          rw [if_pos q3, cn]
      · have cn : (if 0 < w (6 * g + p) ∧ 0 < dgI c p s ∧ w (6 * g + p) + f (s - stI c p) = v then (p : Int) else lpI c w f v g s m ((p : Int) + 1)) = lpI c w f v g s m ((p : Int) + 1) := if_neg (fun z => q2 z.2.1)
        rw [if_neg q2, cn]
    · have cn : (if 0 < w (6 * g + p) ∧ 0 < dgI c p s ∧ w (6 * g + p) + f (s - stI c p) = v then (p : Int) else lpI c w f v g s m ((p : Int) + 1)) = lpI c w f v g s m ((p : Int) + 1) := if_neg (fun z => q1 z.1)
      rw [if_pos (by omega), cn]
theorem pairs_6 {F : Nat} (hF : 1000 ≤ F) {x1 x3 : Int} {to : Nat} {c w : Int → Int} {P : Nat} (hc : CapOK c P) (hP : P ≤ 6) (h486 : stI c P ≤ 486) (hw : WOK w) (hto : to ≤ 9) : ∀ (m n g : Nat) (s : Int) (σ : St), g + m = to → 0 ≤ s → s < stI c P → FgM σ c P → σ 148 = w → (∀ x : Nat, g ≤ x → x ≤ to → ∀ s, 0 ≤ s → s < stI c P → σ 169 (512 * x + s) = dpI c w P (to - x) x s) → m < n →
    ∃ σ', gX11_layPairs_L6 F x1 to x3 n s g σ = some ((prI c w P m g s (σ 170)).1, σ') ∧ σ' 170 = (prI c w P m g s (σ 170)).2 ∧ ∀ a b, a ≠ 170 → σ' a b = σ a b := by
  intro m
  induction m with
  | zero =>
    intro n g s σ h1 h2 h3 h4 h6 h7 h8
    obtain ⟨n, rfl⟩ : ∃ n', n = n' + 1 := ⟨n - 1, by omega⟩
    exact ⟨σ, by rw [gX11_layPairs_L6, w32_id (a := (g : Int)) (by omega), w32_id (a := (to : Int)) (by omega), if_pos (by omega)]; rfl, rfl, fun _ _ _ => rfl⟩
  | succ m ih =>
    intro n g s σ h1 h2 h3 h4 h6 h7 h8
    obtain ⟨n, rfl⟩ : ∃ n', n = n' + 1 := ⟨n - 1, by omega⟩
    have hdp : ∀ y, 0 ≤ dpI c w P m ((g : Int) + 1) y ∧ dpI c w P m ((g : Int) + 1) y ≤ 2000 := fun y => by
      have := dpI_rng (c := c) hw hP m ((g : Int) + 1) y (by omega) (by omega)
      omega
    have hv2 := dpI_rng (c := c) hw hP (m + 1) (g : Int) s (by omega) (by omega)
    have u4 : ∀ a, a ≠ 170 → up σ 170 g (-4) a = σ a := fun a q => up_cell q
    have lp := pairs_24 (F := F) (x1 := x1) (x2 := to) (x3 := x3) (c6 := gX11_layPairs_L6 F x1 to x3 n) (σ := up σ 170 g (-4)) (g := g) (s := s) (v := dpI c w P (m + 1) g s) (f := dpI c w P m ((g : Int) + 1)) hc hP h486 (h4.frame (by rw [u4 143 (by omega)]) (by rw [u4 143 (by omega)]) (u4 167 (by omega)) (u4 168 (by omega))) (by rw [u4 148 (by omega)]; exact h6) hw (by omega) ⟨h2, h3⟩ (fun x y1 y2 => by
      rw [u4 169 (by omega)]
      have := h7 (g + 1) (by omega) (by omega) x y1 y2
      rw [show to - (g + 1) = m by omega] at this
      exact this) (by rw [u4 169 (by omega)]; have := h7 g (by omega) (by omega) s h2 h3; rw [show to - g = m + 1 by omega] at this; exact this) hdp (by omega) (up_self _ _ _ _) P F 0 (by omega) (by omega)
    have lp' : gX11_layPairs_L24 F x1 to x3 (gX11_layPairs_L6 F x1 to x3 n) F s g 0 (up σ 170 g (-4)) = if lpD c w P m g s = -4 then gX11_layPairs_L6 F x1 to x3 n s ((g : Int) + 1) (up σ 170 g (-4)) else gX11_layPairs_L6 F x1 to x3 n (s - stI c (lpD c w P m g s).toNat) ((g : Int) + 1) (up (up σ 170 g (-4)) 170 g (lpD c w P m g s)) := lp
    have li := lpI_in (c := c) (w := w) (f := dpI c w P m ((g : Int) + 1)) (v := dpI c w P (m + 1) g s) (g := g) (s := s) P 0 (by omega)
    have li' : lpD c w P m g s = -4 ∨ 0 ≤ lpD c w P m g s ∧ lpD c w P m g s < 0 + P ∧ 0 < dgI c (lpD c w P m g s).toNat s := li
    have ep : prI c w P (m + 1) g s (σ 170) = prI c w P m ((g : Int) + 1) (if lpD c w P m g s = -4 then s else s - stI c (lpD c w P m g s).toNat) (upf (σ 170) g (lpD c w P m g s)) := rfl
    clear lp li
    generalize lpD c w P m g s = p at *
    -- the store that goes on
    have go : ∀ τ : St, τ 170 = upf (σ 170) g p → (∀ a, a ≠ 170 → τ a = σ a) → ∃ σ', gX11_layPairs_L6 F x1 to x3 n (if p = -4 then s else s - stI c p.toNat) ((g : Int) + 1) τ = some ((prI c w P (m + 1) g s (σ 170)).1, σ') ∧ σ' 170 = (prI c w P (m + 1) g s (σ 170)).2 ∧ ∀ a b, a ≠ 170 → σ' a b = σ a b := by
      intro τ t1 t2
      have hs' : 0 ≤ (if p = -4 then s else s - stI c p.toNat) ∧ (if p = -4 then s else s - stI c p.toNat) < stI c P := by
        rcases li' with q | q
        · rw [if_pos q]; exact ⟨h2, h3⟩
        · rw [if_neg (by omega)]
          exact less_in hc ⟨h2, h3⟩ (by omega) q.2.2
      obtain ⟨σ', d1, d2, d3⟩ := ih n (g + 1) (if p = -4 then s else s - stI c p.toNat) τ (by omega) hs'.1 hs'.2 (h4.frame (by rw [t2 143 (by omega)]) (by rw [t2 143 (by omega)]) (t2 167 (by omega)) (t2 168 (by omega))) (by rw [t2 148 (by omega)]; exact h6) (fun x y1 y2 s y3 y4 => by rw [t2 169 (by omega)]; exact h7 x (by omega) y2 s y3 y4) (by omega)
      rw [t1, show ((g + 1 : Nat) : Int) = (g : Int) + 1 by omega] at d1 d2
      exact ⟨σ', by rw [ep]; exact d1, by rw [ep]; exact d2, fun a b y => by rw [d3 a b y, t2 a y]⟩
    rw [gX11_layPairs_L6, w32_id (a := (g : Int)) (by omega), w32_id (a := (to : Int)) (by omega), if_neg (by omega), gd_pos (by omega), lp']
    by_cases q : p = -4
    · rw [if_pos q]
      have := go (up σ 170 g (-4)) (by rw [up_fn, q]) u4
      rw [if_pos q] at this
      exact this
    · rw [if_neg q]
      have := go (up (up σ 170 g (-4)) 170 g p) (by rw [up_fn, up_fn, upf_upf]) (fun a y => by rw [up_cell y, u4 a y])
      rw [if_neg q] at this
      exact this
