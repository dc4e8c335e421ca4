-- PURE LAYER: the pairs of the greatest sum
def lpI (c w f : Int → Int) (v g s : Int) : Nat → Int → Int
  | 0, _ => -4
  | m + 1, p => if 0 < w (6 * g + p) ∧ 0 < dgI c p.toNat s ∧ w (6 * g + p) + f (s - stI c p.toNat) = v then p else lpI c w f v g s m (p + 1)
theorem lpI_in {c w f : Int → Int} {v g s : Int} : ∀ (m : Nat) (p : Int), 0 ≤ p → lpI c w f v g s m p = -4 ∨ p ≤ lpI c w f v g s m p ∧ lpI c w f v g s m p < p + m ∧ 0 < dgI c (lpI c w f v g s m p).toNat s := by
  intro m
  induction m with
  | zero => intro p _; exact Or.inl rfl
  | succ m ih =>
    intro p hp
    have e : lpI c w f v g s (m + 1) p = if 0 < w (6 * g + p) ∧ 0 < dgI c p.toNat s ∧ w (6 * g + p) + f (s - stI c p.toNat) = v then p else lpI c w f v g s m (p + 1) := rfl
    rw [e]
    split
    · rename_i q; exact Or.inr ⟨by omega, by omega, q.2.1⟩
    · rcases ih (p + 1) (by omega) with h | h
      · exact Or.inl h
      · exact Or.inr ⟨by omega, by omega, h.2.2⟩
def lpD (c w : Int → Int) (P m : Nat) (g s : Int) : Int := lpI c w (dpI c w P m (g + 1)) (dpI c w P (m + 1) g s) g s P 0
def prI (c w : Int → Int) (P : Nat) : Nat → Int → Int → (Int → Int) → Int × (Int → Int)
  | 0, _, s, po => (s, po)
  | m + 1, g, s, po => prI c w P m (g + 1) (if lpD c w P m g s = -4 then s else s - stI c (lpD c w P m g s).toNat) (upf po g (lpD c w P m g s))
theorem prI_in {c w : Int → Int} {P : Nat} (hc : CapOK c P) : ∀ (m : Nat) (g s : Int) (po : Int → Int), 0 ≤ s → s < stI c P → 0 ≤ (prI c w P m g s po).1 ∧ (prI c w P m g s po).1 < stI c P := by
  intro m
  induction m with
  | zero => intro g s po h1 h2; exact ⟨h1, h2⟩
  | succ m ih =>
    intro g s po h1 h2
    have li := lpI_in (c := c) (w := w) (f := dpI c w P m (g + 1)) (v := dpI c w P (m + 1) g s) (g := g) (s := s) P 0 (by omega)
    have li' : lpD c w P m g s = -4 ∨ 0 ≤ lpD c w P m g s ∧ lpD c w P m g s < 0 + P ∧ 0 < dgI c (lpD c w P m g s).toNat s := li
    have ep : prI c w P (m + 1) g s po = prI c w P m (g + 1) (if lpD c w P m g s = -4 then s else s - stI c (lpD c w P m g s).toNat) (upf po g (lpD c w P m g s)) := rfl
    rw [ep]
    rcases li' with q | q
    · rw [if_pos q]; exact ih _ _ _ h1 h2
    · rw [if_neg (by omega)]
      have := less_in hc ⟨h1, h2⟩ (p := (lpD c w P m g s).toNat) (by omega) q.2.2
      exact ih _ _ _ this.1 this.2
theorem prI_ind {c w : Int → Int} {P : Nat} : ∀ (m : Nat) (g s : Int) (po po' : Int → Int), (prI c w P m g s po).1 = (prI c w P m g s po').1 ∧ ∀ x, (g ≤ x ∧ x < g + m ∨ po x = po' x) → (prI c w P m g s po).2 x = (prI c w P m g s po').2 x := by
  intro m
  induction m with
  | zero => intro g s po po'; exact ⟨rfl, fun x h => by rcases h with h | h; omega; exact h⟩
  | succ m ih =>
    intro g s po po'
    have i := ih (g + 1) (if lpD c w P m g s = -4 then s else s - stI c (lpD c w P m g s).toNat) (upf po g (lpD c w P m g s)) (upf po' g (lpD c w P m g s))
    refine ⟨i.1, fun x h => i.2 x ?_⟩
    by_cases z : x = g
    · right; rw [z, upf_self, upf_self]
    · rw [upf_ne z, upf_ne z]
      rcases h with h | h
      · left; omega
      · right; exact h
theorem prI_rng {c w : Int → Int} {P : Nat} : ∀ (m : Nat) (g s : Int) (po : Int → Int) (x : Int), (po x = -4 ∨ 0 ≤ po x ∧ po x < P ∨ g ≤ x ∧ x < g + m) → (prI c w P m g s po).2 x = -4 ∨ 0 ≤ (prI c w P m g s po).2 x ∧ (prI c w P m g s po).2 x < P := by
  intro m
  induction m with
  | zero => intro g s po x h; rcases h with h | h | h; exact Or.inl h; exact Or.inr h; omega
  | succ m ih =>
    intro g s po x h
    have li := lpI_in (c := c) (w := w) (f := dpI c w P m (g + 1)) (v := dpI c w P (m + 1) g s) (g := g) (s := s) P 0 (by omega)
    have li' : lpD c w P m g s = -4 ∨ 0 ≤ lpD c w P m g s ∧ lpD c w P m g s < 0 + P ∧ 0 < dgI c (lpD c w P m g s).toNat s := li
    refine ih (g + 1) _ (upf po g (lpD c w P m g s)) x ?_
    by_cases z : x = g
    · rw [z, upf_self]
      rcases li' with q | q
      · exact Or.inl q
      · exact Or.inr (Or.inl (by omega))
    · rw [upf_ne z]
      rcases h with h | h | h
      · exact Or.inl h
      · exact Or.inr (Or.inl h)
      · exact Or.inr (Or.inr (by omega))
theorem least_14 {F : Nat} {σ : St} {x1 g s v : Int} {c f : Int → Int} {P : Nat} (hc : CapOK c P) (hP : P ≤ 6) (h486 : stI c P ≤ 486) (hsh : ShI σ 45 c P) (h5 : σ x1 5 = (P : Int)) (hw : WOK (σ (x1 + 5))) (hg : 0 ≤ g ∧ g < 9) (hs : 0 ≤ s ∧ s < stI c P) (hr : ∀ x, 0 ≤ x → x < stI c P → σ 49 (486 * (g + 1) + x) = f x) (hv : σ 49 (486 * g + s) = v) (hf : ∀ x, 0 ≤ f x ∧ f x ≤ 2000) (hv2 : 0 ≤ v ∧ v ≤ 2099) : ∀ (m n p : Nat), p + m = P → m < n → gX3_leastPost_L14 F σ x1 g s n (486 * (g + 1) + s) p = some (lpI c (σ (x1 + 5)) f v g s m p) := by
  intro m
  induction m with
  | zero =>
    intro n p h1 h3
    obtain ⟨n, rfl⟩ : ∃ n', n = n' + 1 := ⟨n - 1, by omega⟩
    rw [gX3_leastPost_L14, h5, w32_id (a := (p : Int)) (by omega), w32_id (a := (P : Int)) (by omega), if_pos (by omega)]
    rfl
  | succ m ih =>
    intro n p h1 h3
    obtain ⟨n, rfl⟩ : ∃ n', n = n' + 1 := ⟨n - 1, by omega⟩
    have e : lpI c (σ (x1 + 5)) f v g s (m + 1) p = if 0 < σ (x1 + 5) (6 * g + p) ∧ 0 < dgI c (p : Int).toNat s ∧ σ (x1 + 5) (6 * g + p) + f (s - stI c (p : Int).toNat) = v then (p : Int) else lpI c (σ (x1 + 5)) f v g s m ((p : Int) + 1) := rfl
    rw [Int.toNat_natCast] at e
    have a1 := hw (6 * g + p) (by omega) (by omega)
    have st := hsh.1 p (by omega)
    have sp := stI_pos hc p (by omega)
    have st' : σ (45 + 1) (p : Int) = stI c p := st
    rw [gX3_leastPost_L14, h5, w32_id (a := (p : Int)) (by omega), w32_id (a := (P : Int)) (by omega), if_neg (by omega), show g * 6 + (p : Int) = 6 * g + p by omega, w32_id (a := 6 * g + (p : Int)) (by omega), gd_pos (by omega), w32_id (a := σ (x1 + 5) (6 * g + p)) (by omega), isOpen_eq hc hP h486 hsh hs (by omega), Option.bind_some, tv_if0, e]
    unfold gX3_leastPost_L94
    have stay : gX3_leastPost_L14 F σ x1 g s n (486 * (g + 1) + s) ((p : Int) + 1) = some (lpI c (σ (x1 + 5)) f v g s m ((p : Int) + 1)) := ih n (p + 1) (by omega) (by omega)
    rw [stay]
    by_cases q1 : 0 < σ (x1 + 5) (6 * g + p)
    · rw [if_neg (by omega)]
      by_cases q2 : 0 < dgI c p s
      · obtain ⟨l1, l2⟩ := less_in hc hs (by omega) q2
        have a2 := hf (s - stI c p)
        have rr := hr (s - stI c p) l1 l2
        rw [if_pos q2, gd_pos (by omega), st', w32_id (a := 486 * (g + 1) + s - stI c p) (by omega), gd_pos (by omega), show g * 486 + s = 486 * g + s by omega, w32_id (a := 486 * g + s) (by omega), gd_pos (by omega), hv, show 486 * (g + 1) + s - stI c p = 486 * (g + 1) + (s - stI c p) by omega, rr, w32_id (a := v) (by omega), w32_id (a := σ (x1 + 5) (6 * g + p) + f (s - stI c p)) (by omega)]
        by_cases q3 : σ (x1 + 5) (6 * g + p) + f (s - stI c p) = v
        · rw [if_neg (fun z => z q3), if_pos ⟨q1, q2, q3⟩]
        · rw [if_pos q3, if_neg (fun z => q3 z.2.2)]
      · rw [if_neg q2, if_neg (fun z => q2 z.2.1)]
    · rw [if_pos (by omega), if_neg (fun z => q1 z.1)]
theorem pair_7 {F : Nat} (hF : 1000 ≤ F) {x1 x2 x4 : Int} {to : Nat} {c w : Int → Int} {P : Nat} (hc : CapOK c P) (hP : P ≤ 6) (h486 : stI c P ≤ 486) (hw : WOK w) (hx : x1 = 1 ∨ x1 = 27) (hto : to ≤ 9) : ∀ (m n g : Nat) (s : Int) (σ : St), g + m = to → 0 ≤ s → s < stI c P → ShI σ 45 c P → σ x1 5 = (P : Int) → σ (x1 + 5) = w → (∀ x : Nat, g ≤ x → x ≤ to → ∀ s, 0 ≤ s → s < stI c P → σ 49 (486 * x + s) = dpI c w P (to - x) x s) → m < n →
    ∃ σ', gX3_pair_L7 F x1 x2 to x4 n s g σ = some ((prI c w P m g s (σ 44)).1, σ') ∧ σ' 44 = (prI c w P m g s (σ 44)).2 ∧ ∀ a b, a ≠ 44 → σ' a b = σ a b := by
  intro m
  induction m with
  | zero =>
    intro n g s σ h1 h2 h3 h4 h5 h6 h7 h8
    obtain ⟨n, rfl⟩ : ∃ n', n = n' + 1 := ⟨n - 1, by omega⟩
    exact ⟨σ, by rw [gX3_pair_L7, w32_id (a := (g : Int)) (by omega), w32_id (a := (to : Int)) (by omega), if_pos (by omega)]; rfl, rfl, fun _ _ _ => rfl⟩
  | succ m ih =>
    intro n g s σ h1 h2 h3 h4 h5 h6 h7 h8
    obtain ⟨n, rfl⟩ : ∃ n', n = n' + 1 := ⟨n - 1, by omega⟩
    have hdp : ∀ y, 0 ≤ dpI c w P m ((g : Int) + 1) y ∧ dpI c w P m ((g : Int) + 1) y ≤ 2000 := fun y => by
      have := dpI_rng (c := c) hw hP m ((g : Int) + 1) y (by omega) (by omega)
      omega
    have hv2 := dpI_rng (c := c) hw hP (m + 1) (g : Int) s (by omega) (by omega)
    have lp := least_14 (F := F) (σ := σ) (x1 := x1) (g := g) (s := s) (v := dpI c w P (m + 1) g s) (f := dpI c w P m ((g : Int) + 1)) hc hP h486 h4 h5 (by rw [h6]; exact hw) (by omega) ⟨h2, h3⟩ (fun x y1 y2 => by
      have := h7 (g + 1) (by omega) (by omega) x y1 y2
      rw [show to - (g + 1) = m by omega] at this
      exact this) (by have := h7 g (by omega) (by omega) s h2 h3; rw [show to - g = m + 1 by omega] at this; exact this) hdp (by omega) P F 0 (by omega) (by omega)
    rw [h6] at lp
    have lp' : gX3_leastPost F σ x1 g s = some (lpD c w P m g s) := by
      unfold gX3_leastPost
      rw [show ((g : Int) + 1) * 486 + s = 486 * ((g : Int) + 1) + s by omega]
      exact lp
    have li := lpI_in (c := c) (w := w) (f := dpI c w P m ((g : Int) + 1)) (v := dpI c w P (m + 1) g s) (g := g) (s := s) P 0 (by omega)
    have li' : lpD c w P m g s = -4 ∨ 0 ≤ lpD c w P m g s ∧ lpD c w P m g s < 0 + P ∧ 0 < dgI c (lpD c w P m g s).toNat s := li
    have ep : prI c w P (m + 1) g s (σ 44) = prI c w P m ((g : Int) + 1) (if lpD c w P m g s = -4 then s else s - stI c (lpD c w P m g s).toNat) (upf (σ 44) g (lpD c w P m g s)) := rfl
    generalize lpD c w P m g s = p at *
    have uc : ∀ a, a ≠ 44 → up σ 44 g p a = σ a := fun a q => up_cell q
    obtain ⟨s', hs', hs1, hs2⟩ : ∃ s', s' = (if p = -4 then s else s - stI c p.toNat) ∧ 0 ≤ s' ∧ s' < stI c P := by
      refine ⟨_, rfl, ?_⟩
      rcases li' with q | q
      · rw [if_pos q]; exact ⟨h2, h3⟩
      · rw [if_neg (by omega)]
        exact less_in hc ⟨h2, h3⟩ (by omega) q.2.2
    obtain ⟨σ', d1, d2, d3⟩ := ih n (g + 1) s' (up σ 44 g p) (by omega) hs1 hs2 (by
      unfold ShI
      rw [uc (45 + 1) (by omega), uc 45 (by omega), uc (45 + 2) (by omega), uc (45 + 3) (by omega)]
      exact h4) (by rw [uc x1 (by omega)]; exact h5) (by rw [uc (x1 + 5) (by omega)]; exact h6) (fun x y1 y2 s y3 y4 => by rw [uc 49 (by omega)]; exact h7 x (by omega) y2 s y3 y4) (by omega)
    rw [up_fn, show ((g + 1 : Nat) : Int) = (g : Int) + 1 by omega] at d1 d2
    refine ⟨σ', ?_, by rw [d2, ep, hs'], fun a b y => by rw [d3 a b y, uc a y]⟩
    rw [gX3_pair_L7, w32_id (a := (g : Int)) (by omega), w32_id (a := (to : Int)) (by omega), if_neg (by omega), lp', Option.bind_some, gd_pos (by omega), w32_id (a := p) (by omega), ep, ← hs', ← d1]
    unfold gX3_pair_L55
    rcases li' with q | q
    · rw [if_pos q, hs', if_pos q]
    · have st := h4.1 p.toNat (by omega)
      rw [Int.toNat_of_nonneg q.1] at st
      have st' : σ 46 p = stI c p.toNat := st
      rw [if_neg (by omega), gd_pos (by omega), hs', if_neg (by omega), uc (45 + 1) (by omega)]
      show gX3_pair_L7 F x1 x2 to x4 n (s - σ 46 p) _ _ = _
      rw [st']
