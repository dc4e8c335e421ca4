-- PURE LAYER: the greatest sums, the reference
theorem FgM.frame {σ σ' : St} {c : Int → Int} {P : Nat} (h : FgM σ c P) (h0 : σ' 143 0 = σ 143 0) (h40 : σ' 143 40 = σ 143 40) (h7 : σ' 167 = σ 167) (h8 : σ' 168 = σ 168) : FgM σ' c P := by
  unfold FgM at h ⊢
  rw [h0, h40, h7, h8]
  exact h
theorem layBest_70 {F : Nat} {x1 x2 g s : Int} {c f w : Int → Int} {P : Nat} {c33 : Int → St → Option St} {c41 : Int → Int → St → Option St} {σ : St} (hc : CapOK c P) (hP : P ≤ 6) (h486 : stI c P ≤ 486) (hfg : FgM σ c P) (h5 : σ 148 = w) (hw : WOK w) (hg : 0 ≤ g ∧ g < 9) (hs : 0 ≤ s ∧ s < stI c P) (hr : ∀ x, 0 ≤ x → x < stI c P → σ 169 (512 * (g + 1) + x) = f x) (hf : ∀ x, 0 ≤ f x ∧ f x ≤ 2000) : ∀ (m n p : Nat) (v : Int), p + m = P → 0 ≤ v ∧ v ≤ 2099 → m < n → gX11_layBest_L70 F x1 x2 c33 c41 n g s v p σ = c41 g (s + 1) (up σ 169 (512 * g + s) (gmP c w f g s m p v)) := by
  have p0 := hfg.1
  intro m
  induction m with
  | zero =>
    intro n p v h1 h2 h3
    obtain ⟨n, rfl⟩ : ∃ n', n = n' + 1 := ⟨n - 1, by omega⟩
    rw [gX11_layBest_L70, p0, w32_id (a := (p : Int)) (by omega), w32_id (a := (P : Int)) (by omega), if_pos (by omega), w32_id (a := 512 * g + s) (by omega), gd_pos (by omega)]
    rfl
  | succ m ih =>
    intro n p v h1 h2 h3
    obtain ⟨n, rfl⟩ : ∃ n', n = n' + 1 := ⟨n - 1, by omega⟩
    have e : gmP c w f g s (m + 1) p v = gmP c w f g s m ((p : Int) + 1) (if 0 < w (6 * g + p) ∧ 0 < dgI c (p : Int).toNat s then (if v < w (6 * g + p) + f (s - stI c (p : Int).toNat) then w (6 * g + p) + f (s - stI c (p : Int).toNat) else v) else v) := rfl
    rw [Int.toNat_natCast] at e
    have a1 := hw (6 * g + p) (by omega) (by omega)
    have st := (hfg.2.2 p (by omega)).1
    have sp := stI_pos hc p (by omega)
    rw [gX11_layBest_L70, p0, h5, w32_id (a := (p : Int)) (by omega), w32_id (a := (P : Int)) (by omega), if_neg (by omega), w32_id (a := 6 * g + (p : Int)) (by omega), gd_pos (by omega), w32_id (a := w (6 * g + p)) (by omega), hasRoom_eq hc hP h486 hfg hs (by omega), Option.bind_some, tv_if0, e]
    unfold gX11_layBest_L151 gX11_layBest_L153
    have stay := ih n (p + 1) v (by omega) h2 (by omega)
    by_cases q1 : 0 < w (6 * g + p)
    · rw [if_neg (by omega)]
      by_cases q2 : 0 < dgI c p s
      · obtain ⟨l1, l2⟩ := less_in hc hs (by omega) q2
        have a2 := hf (s - stI c p)
        have rr := hr (s - stI c p) l1 l2
        rw [if_pos q2, gd_pos (by omega), st, w32_id (a := 512 * (g + 1) + s - stI c p) (by omega), gd_pos (by omega), show 512 * (g + 1) + s - stI c p = 512 * (g + 1) + (s - stI c p) by omega, rr, w32_id (a := v) (by omega), w32_id (a := w (6 * g + p) + f (s - stI c p)) (by omega), if_pos (show 0 < w (6 * g + p) ∧ 0 < dgI c p s from ⟨q1, q2⟩)]
        by_cases q3 : v < w (6 * g + p) + f (s - stI c p)
        · rw [if_neg (by omega), if_pos q3]
          exact ih n (p + 1) (w (6 * g + p) + f (s - stI c p)) (by omega) (by omega) (by omega)
        · rw [if_pos (by omega), if_neg q3]
          exact stay
      · rw [if_neg q2, if_neg (fun z => q2 z.2)]
        exact stay
    · rw [if_pos (by omega), if_neg (fun z => q1 z.1)]
      exact stay
theorem layBest_41 {F : Nat} (hF : 1000 ≤ F) {x1 x2 g : Int} {c f w : Int → Int} {P : Nat} {c33 : Int → St → Option St} (hc : CapOK c P) (hP : P ≤ 6) (h486 : stI c P ≤ 486) (hg : 0 ≤ g ∧ g < 9) (hw : WOK w) (hf : ∀ x, 0 ≤ f x ∧ f x ≤ 2000) : ∀ (m n : Nat) (i : Int) (σ : St), 0 ≤ i → i + m = stI c P → FgM σ c P → σ 148 = w → (∀ x, 0 ≤ x → x < stI c P → σ 169 (512 * (g + 1) + x) = f x) → m < n →
    ∃ σ', gX11_layBest_L41 F x1 x2 c33 n g i σ = c33 (g + -1) σ' ∧ ∀ a b, σ' a b = if a = 169 ∧ 512 * g + i ≤ b ∧ b < 512 * g + stI c P then gmP c w f g (b - 512 * g) P 0 (f (b - 512 * g)) else σ a b := by
  intro m
  induction m with
  | zero =>
    intro n i σ h1 h2 h3 h5 h6 h7
    obtain ⟨n, rfl⟩ : ∃ n', n = n' + 1 := ⟨n - 1, by omega⟩
    refine ⟨σ, by rw [gX11_layBest_L41, h3.2.1, w32_id (a := i) (by omega), w32_id (a := stI c P) (by omega), if_pos (by omega)], fun a b => ?_⟩
    rw [if_neg (by omega)]
  | succ m ih =>
    intro n i σ h1 h2 h3 h5 h6 h7
    obtain ⟨n, rfl⟩ : ∃ n', n = n' + 1 := ⟨n - 1, by omega⟩
    have fi := hf i
    have gf := layBest_70 (F := F) (x1 := x1) (x2 := x2) (c33 := c33) (c41 := gX11_layBest_L41 F x1 x2 c33 n) hc hP h486 h3 h5 hw hg (s := i) ⟨h1, by omega⟩ h6 hf P F 0 (f i) (by omega) (by omega) (by omega)
    have u : ∀ a b v, ¬ (a = 169 ∧ b = 512 * g + i) → up σ 169 (512 * g + i) v a b = σ a b := fun a b v q => by rw [up_at, if_neg q]
    have uc : ∀ a v, a ≠ 169 → up σ 169 (512 * g + i) v a = σ a := fun a v q => by funext b; exact u a b v (by omega)
    obtain ⟨σ', d1, d2⟩ := ih n (i + 1) (up σ 169 (512 * g + i) (gmP c w f g i P 0 (f i))) (by omega) (by omega) (h3.frame (u 143 0 _ (by omega)) (u 143 40 _ (by omega)) (uc 167 _ (by omega)) (uc 168 _ (by omega))) (by rw [uc 148 _ (by omega)]; exact h5) (fun x y1 y2 => by rw [u 169 _ _ (by omega)]; exact h6 x y1 y2) (by omega)
    refine ⟨σ', ?_, fun a b => ?_⟩
    · rw [gX11_layBest_L41, h3.2.1, w32_id (a := i) (by omega), w32_id (a := stI c P) (by omega), if_neg (by omega), w32_id (a := 512 * (g + 1) + i) (by omega), gd_pos (by omega), h6 i h1 (by omega)]
      exact gf.trans d1
    · rw [d2]
      by_cases q : a = 169 ∧ b = 512 * g + i
      · obtain ⟨rfl, rfl⟩ := q
        rw [if_neg (by omega), up_self, if_pos (by omega), show 512 * g + i - 512 * g = i by omega]
      · have k1 : (a = 169 ∧ 512 * g + (i + 1) ≤ b ∧ b < 512 * g + stI c P) = (a = 169 ∧ 512 * g + i ≤ b ∧ b < 512 * g + stI c P) := propext (by omega)
        rw [u a b _ q]
        simp only [k1]
theorem layBest_33 {F : Nat} (hF : 1000 ≤ F) {fr to : Nat} {c w : Int → Int} {P : Nat} (hc : CapOK c P) (hP : P ≤ 6) (h486 : stI c P ≤ 486) (hw : WOK w) (hto : to ≤ 9) : ∀ (m n : Nat) (σ : St), fr + m ≤ to → FgM σ c P → σ 148 = w → (∀ x : Nat, fr + m ≤ x → x ≤ to → ∀ s, 0 ≤ s → s < stI c P → σ 169 (512 * x + s) = dpI c w P (to - x) x s) → m < n →
    ∃ σ', gX11_layBest_L33 F fr to n ((fr : Int) + m - 1) σ = some σ' ∧ (∀ x : Nat, fr ≤ x → x ≤ to → ∀ s, 0 ≤ s → s < stI c P → σ' 169 (512 * x + s) = dpI c w P (to - x) x s) ∧ ∀ a b, a ≠ 169 → σ' a b = σ a b := by
  intro m
  induction m with
  | zero =>
    intro n σ h1 h3 h5 h6 h7
    obtain ⟨n, rfl⟩ : ∃ n', n = n' + 1 := ⟨n - 1, by omega⟩
    exact ⟨σ, by rw [gX11_layBest_L33, w32_id (a := (fr : Int) + ((0 : Nat) : Int) - 1) (by omega), w32_id (a := (fr : Int)) (by omega), if_pos (by omega)], h6, fun _ _ _ => rfl⟩
  | succ m ih =>
    intro n σ h1 h3 h5 h6 h7
    obtain ⟨n, rfl⟩ : ∃ n', n = n' + 1 := ⟨n - 1, by omega⟩
    have eg : (fr : Int) + ((m + 1 : Nat) : Int) - 1 = ((fr + m : Nat) : Int) := by omega
    have hdp : ∀ s, 0 ≤ dpI c w P (to - (fr + m + 1)) ((fr + m + 1 : Nat) : Int) s ∧ dpI c w P (to - (fr + m + 1)) ((fr + m + 1 : Nat) : Int) s ≤ 2000 := fun s => by
      have := dpI_rng (c := c) hw hP (to - (fr + m + 1)) ((fr + m + 1 : Nat) : Int) s (by omega) (by omega)
      omega
    have pos := stI_pos hc P (Nat.le_refl _)
    obtain ⟨σ1, d1, d2⟩ := layBest_41 (F := F) hF (x1 := fr) (x2 := to) (g := ((fr + m : Nat) : Int)) (c33 := gX11_layBest_L33 F fr to n) hc hP h486 (by omega) hw hdp (stI c P).toNat F 0 σ (by omega) (by omega) h3 h5 (fun x y1 y2 => by
      have := h6 (fr + m + 1) (by omega) (by omega) x y1 y2
      rw [show ((fr + m : Nat) : Int) + 1 = ((fr + m + 1 : Nat) : Int) by omega]
      exact this) (by omega)
    have uc : ∀ a, a ≠ 169 → σ1 a = σ a := fun a q => by funext b; rw [d2, if_neg (by omega)]
    obtain ⟨σ', e1, e2, e3⟩ := ih n σ1 (by omega) (h3.frame (by rw [uc 143 (by omega)]) (by rw [uc 143 (by omega)]) (uc 167 (by omega)) (uc 168 (by omega))) (by rw [uc 148 (by omega)]; exact h5) (fun x y1 y2 s y3 y4 => by
      by_cases z : x = fr + m
      · rw [d2, if_pos (by omega), z, show 512 * ((fr + m : Nat) : Int) + s - 512 * ((fr + m : Nat) : Int) = s by omega]
        have es : to - (fr + m) = (to - (fr + m + 1)) + 1 := by omega
        rw [es]
        show _ = gmP c w (dpI c w P (to - (fr + m + 1)) (((fr + m : Nat) : Int) + 1)) ((fr + m : Nat) : Int) s P 0 (dpI c w P (to - (fr + m + 1)) (((fr + m : Nat) : Int) + 1) s)
        rw [show ((fr + m : Nat) : Int) + 1 = ((fr + m + 1 : Nat) : Int) by omega]
      · rw [d2, if_neg (by omega)]
        exact h6 x (by omega) y2 s y3 y4) (by omega)
    refine ⟨σ', ?_, e2, fun a b y => by rw [e3 a b y, uc a y]⟩
    rw [gX11_layBest_L33, eg, w32_id (a := ((fr + m : Nat) : Int)) (by omega), w32_id (a := (fr : Int)) (by omega), if_neg (by omega), d1, show ((fr + m : Nat) : Int) + -1 = (fr : Int) + (m : Int) - 1 by omega]
    exact e1
theorem layBest_2 {F : Nat} (hF : 1000 ≤ F) {fr to : Nat} {c : Int → Int} {P : Nat} (h486 : stI c P ≤ 486) (hto : to ≤ 9) : ∀ (m n : Nat) (i : Int) (σ : St), 0 ≤ i → i + m = stI c P → σ 143 40 = stI c P → m < n → ∃ σ', gX11_layBest_L2 F fr to n i σ = gX11_layBest_L33 F fr to F ((to : Int) - 1) σ' ∧ ∀ a b, σ' a b = if a = 169 ∧ 512 * to + i ≤ b ∧ b < 512 * to + stI c P then 0 else σ a b := by
  intro m
  induction m with
  | zero =>
    intro n i σ h1 h2 h3 h7
    obtain ⟨n, rfl⟩ : ∃ n', n = n' + 1 := ⟨n - 1, by omega⟩
    refine ⟨σ, by rw [gX11_layBest_L2, h3, w32_id (a := i) (by omega), w32_id (a := stI c P) (by omega), if_pos (by omega)], fun a b => by rw [if_neg (by omega)]⟩
  | succ m ih =>
    intro n i σ h1 h2 h3 h7
    obtain ⟨n, rfl⟩ : ∃ n', n = n' + 1 := ⟨n - 1, by omega⟩
    obtain ⟨σ', d1, d2⟩ := ih n (i + 1) (up σ 169 (512 * to + i) 0) (by omega) (by omega) (by rw [up_at, if_neg (by omega)]; exact h3) (by omega)
    refine ⟨σ', ?_, fun a b => ?_⟩
    · rw [gX11_layBest_L2, h3, w32_id (a := i) (by omega), w32_id (a := stI c P) (by omega), if_neg (by omega), w32_id (a := 512 * (to : Int) + i) (by omega), gd_pos (by omega)]
      exact d1
    · rw [d2, up_at]
      by_cases q : a = 169 ∧ b = 512 * (to : Int) + i
      · rw [if_neg (by omega), if_pos q, if_pos (by omega)]
      · have k1 : (a = 169 ∧ 512 * (to : Int) + (i + 1) ≤ b ∧ b < 512 * (to : Int) + stI c P) = (a = 169 ∧ 512 * (to : Int) + i ≤ b ∧ b < 512 * (to : Int) + stI c P) := propext (by omega)
        simp only [if_neg q, k1]
theorem layBest_eq {F : Nat} (hF : 1000 ≤ F) {σ : St} {fr to : Nat} {c w : Int → Int} {P : Nat} (hc : CapOK c P) (hP : P ≤ 6) (h486 : stI c P ≤ 486) (hw : WOK w) (hft : fr ≤ to) (hto : to ≤ 9) (h3 : FgM σ c P) (h5 : σ 148 = w) :
    ∃ σ', gX11_layBest F σ fr to = some σ' ∧ (∀ x : Nat, fr ≤ x → x ≤ to → ∀ s, 0 ≤ s → s < stI c P → σ' 169 (512 * x + s) = dpI c w P (to - x) x s) ∧ ∀ a b, a ≠ 169 → σ' a b = σ a b := by
  have pos := stI_pos hc P (Nat.le_refl _)
  obtain ⟨σ1, d1, d2⟩ := layBest_2 (F := F) hF (fr := fr) (to := to) h486 hto (stI c P).toNat F 0 σ (by omega) (by omega) h3.2.1 (by omega)
  have uc : ∀ a, a ≠ 169 → σ1 a = σ a := fun a q => by funext b; rw [d2, if_neg (by omega)]
  obtain ⟨σ', e1, e2, e3⟩ := layBest_33 (F := F) hF (fr := fr) (to := to) hc hP h486 hw hto (to - fr) F σ1 (by omega) (h3.frame (by rw [uc 143 (by omega)]) (by rw [uc 143 (by omega)]) (uc 167 (by omega)) (uc 168 (by omega))) (by rw [uc 148 (by omega)]; exact h5) (fun x y1 y2 s y3 y4 => by
      have ex : x = to := by omega
      rw [ex, d2, if_pos (by omega), Nat.sub_self]; rfl) (by omega)
  refine ⟨σ', ?_, e2, fun a b y => by rw [e3 a b y, uc a y]⟩
  unfold gX11_layBest
  rw [d1, ← e1]
  congr 1
  omega
