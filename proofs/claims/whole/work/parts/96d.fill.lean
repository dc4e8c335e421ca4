-- PURE LAYER: the greatest sums, guest by guest
def gmP (c w f : Int → Int) (g s : Int) : Nat → Int → Int → Int
  | 0, _, v => v
  | m + 1, p, v => gmP c w f g s m (p + 1) (if 0 < w (6 * g + p) ∧ 0 < dgI c p.toNat s then (if v < w (6 * g + p) + f (s - stI c p.toNat) then w (6 * g + p) + f (s - stI c p.toNat) else v) else v)
def dpI (c w : Int → Int) (P : Nat) : Nat → Int → Int → Int
  | 0, _, _ => 0
  | m + 1, g, s => gmP c w (dpI c w P m (g + 1)) g s P 0 (dpI c w P m (g + 1) s)
def WOK (w : Int → Int) : Prop := ∀ j, 0 ≤ j → j < 54 → 0 ≤ w j ∧ w j ≤ 99
theorem gmP_rng {c w f : Int → Int} {g s B : Int} (hw : WOK w) (hg : 0 ≤ g ∧ g < 9) (hf : ∀ x, 0 ≤ f x ∧ f x ≤ B) : ∀ (m : Nat) (p v : Int), 0 ≤ p → p + m ≤ 6 → 0 ≤ v ∧ v ≤ B + 99 → 0 ≤ gmP c w f g s m p v ∧ gmP c w f g s m p v ≤ B + 99 := by
  intro m
  induction m with
  | zero => intro p v _ _ h; exact h
  | succ m ih =>
    intro p v h1 h2 h3
    have e : gmP c w f g s (m + 1) p v = gmP c w f g s m (p + 1) (if 0 < w (6 * g + p) ∧ 0 < dgI c p.toNat s then (if v < w (6 * g + p) + f (s - stI c p.toNat) then w (6 * g + p) + f (s - stI c p.toNat) else v) else v) := rfl
    have a1 := hw (6 * g + p) (by omega) (by omega)
    have a2 := hf (s - stI c p.toNat)
    rw [e]
    refine ih (p + 1) _ (by omega) (by omega) ?_
    split
    · split <;> omega
    · exact h3
theorem dpI_rng {c w : Int → Int} {P : Nat} (hw : WOK w) (hP : P ≤ 6) : ∀ (m : Nat) (g s : Int), 0 ≤ g → g + m ≤ 9 → 0 ≤ dpI c w P m g s ∧ dpI c w P m g s ≤ 99 * m := by
  intro m
  induction m with
  | zero => intro g s _ _; exact ⟨Int.le_refl 0, by show (0 : Int) ≤ 99 * ((0 : Nat) : Int); decide⟩
  | succ m ih =>
    intro g s h1 h2
    have := gmP_rng (c := c) (f := dpI c w P m (g + 1)) (g := g) (s := s) (B := 99 * m) hw (by omega) (fun x => ih (g + 1) x (by omega) (by omega)) P 0 (dpI c w P m (g + 1) s) (by omega) (by omega) (by have := ih (g + 1) s (by omega) (by omega); omega)
    show 0 ≤ gmP c w (dpI c w P m (g + 1)) g s P 0 (dpI c w P m (g + 1) s) ∧ gmP c w (dpI c w P m (g + 1)) g s P 0 (dpI c w P m (g + 1) s) ≤ 99 * ((m + 1 : Nat) : Int)
    omega
/-- a post that has room: one room less is a way again -/
theorem less_in {c : Int → Int} {P p : Nat} {s : Int} (hc : CapOK c P) (hs : 0 ≤ s ∧ s < stI c P) (hp : p < P) (hd : 0 < dgI c p s) : 0 ≤ s - stI c p ∧ s - stI c p < stI c P := by
  have a := (frI_less hc P s p (Nat.le_refl _) hs.1 hp hd).1
  have b := stI_pos hc p (by omega)
  omega
theorem from_23 {F : Nat} {σ : St} {x1 g s : Int} {c f : Int → Int} {P : Nat} (hc : CapOK c P) (hP : P ≤ 6) (h486 : stI c P ≤ 486) (hsh : ShI σ 45 c P) (h5 : σ x1 5 = (P : Int)) (hw : WOK (σ (x1 + 5))) (hg : 0 ≤ g ∧ g < 9) (hs : 0 ≤ s ∧ s < stI c P) (hr : ∀ x, 0 ≤ x → x < stI c P → σ 49 (486 * (g + 1) + x) = f x) (hf : ∀ x, 0 ≤ f x ∧ f x ≤ 2000) : ∀ (m n p : Nat) (v : Int), p + m = P → 0 ≤ v ∧ v ≤ 2099 → m < n → gX3_greatestFrom_L23 F σ x1 g s n (486 * (g + 1) + s) v p = some (gmP c (σ (x1 + 5)) f g s m p v) := by
  intro m
  induction m with
  | zero =>
    intro n p v h1 h2 h3
    obtain ⟨n, rfl⟩ : ∃ n', n = n' + 1 := ⟨n - 1, by omega⟩
    rw [gX3_greatestFrom_L23, h5, w32_id (a := (p : Int)) (by omega), w32_id (a := (P : Int)) (by omega), if_pos (by omega)]
    rfl
  | succ m ih =>
    intro n p v h1 h2 h3
    obtain ⟨n, rfl⟩ : ∃ n', n = n' + 1 := ⟨n - 1, by omega⟩
    have e : gmP c (σ (x1 + 5)) f g s (m + 1) p v = gmP c (σ (x1 + 5)) f g s m ((p : Int) + 1) (if 0 < σ (x1 + 5) (6 * g + p) ∧ 0 < dgI c (p : Int).toNat s then (if v < σ (x1 + 5) (6 * g + p) + f (s - stI c (p : Int).toNat) then σ (x1 + 5) (6 * g + p) + f (s - stI c (p : Int).toNat) else v) else v) := rfl
    rw [Int.toNat_natCast] at e
    have a1 := hw (6 * g + p) (by omega) (by omega)
    have st := hsh.1 p (by omega)
    have sp := stI_pos hc p (by omega)
    have st' : σ (45 + 1) (p : Int) = stI c p := st
    rw [gX3_greatestFrom_L23, h5, w32_id (a := (p : Int)) (by omega), w32_id (a := (P : Int)) (by omega), if_neg (by omega), show g * 6 + (p : Int) = 6 * g + p by omega, w32_id (a := 6 * g + (p : Int)) (by omega), gd_pos (by omega), w32_id (a := σ (x1 + 5) (6 * g + p)) (by omega), isOpen_eq hc hP h486 hsh hs (by omega), Option.bind_some, tv_if0, e]
    unfold gX3_greatestFrom_L92
    have stay := ih n (p + 1) v (by omega) h2 (by omega)
    by_cases q1 : 0 < σ (x1 + 5) (6 * g + p)
    · rw [if_neg (by omega)]
      by_cases q2 : 0 < dgI c p s
      · obtain ⟨l1, l2⟩ := less_in hc hs (by omega) q2
        have a2 := hf (s - stI c p)
        have rr := hr (s - stI c p) l1 l2
        rw [if_pos q2, gd_pos (by omega), st', w32_id (a := 486 * (g + 1) + s - stI c p) (by omega), gd_pos (by omega), show 486 * (g + 1) + s - stI c p = 486 * (g + 1) + (s - stI c p) by omega, rr, w32_id (a := v) (by omega), w32_id (a := σ (x1 + 5) (6 * g + p) + f (s - stI c p)) (by omega), if_pos (show 0 < σ (x1 + 5) (6 * g + p) ∧ 0 < dgI c p s from ⟨q1, q2⟩)]
        exact ih n (p + 1) (if v < σ (x1 + 5) (6 * g + p) + f (s - stI c p) then σ (x1 + 5) (6 * g + p) + f (s - stI c p) else v) (by omega) (by split <;> omega) (by omega)
      · rw [if_neg q2, if_neg (fun z => q2 z.2)]
        exact stay
    · rw [if_pos (by omega), if_neg (fun z => q1 z.1)]
      exact stay
theorem fill_49 {F : Nat} (hF : 1000 ≤ F) {x1 x2 x3 g : Int} {c f w : Int → Int} {P : Nat} {c40 : Int → St → Option St} (hc : CapOK c P) (hP : P ≤ 6) (h486 : stI c P ≤ 486) (hg : 0 ≤ g ∧ g < 9) (hw : WOK w) (hx : x1 = 1 ∨ x1 = 27) (hf : ∀ x, 0 ≤ f x ∧ f x ≤ 2000) : ∀ (m n : Nat) (i : Int) (σ : St), 0 ≤ i → i + m = stI c P → ShI σ 45 c P → σ x1 5 = (P : Int) → σ (x1 + 5) = w → (∀ x, 0 ≤ x → x < stI c P → σ 49 (486 * (g + 1) + x) = f x) → m < n →
    ∃ σ', gX3_fill_L49 F x1 x2 x3 c40 n g i σ = c40 (g + -1) σ' ∧ ∀ a b, σ' a b = if a = 49 ∧ 486 * g + i ≤ b ∧ b < 486 * g + stI c P then gmP c w f g (b - 486 * g) P 0 (f (b - 486 * g)) else σ a b := by
  intro m
  induction m with
  | zero =>
    intro n i σ h1 h2 h3 h4 h5 h6 h7
    obtain ⟨n, rfl⟩ : ∃ n', n = n' + 1 := ⟨n - 1, by omega⟩
    refine ⟨σ, by rw [gX3_fill_L49, h3.2.1, w32_id (a := i) (by omega), w32_id (a := stI c P) (by omega), if_pos (by omega)], fun a b => ?_⟩
    rw [if_neg (by omega)]
  | succ m ih =>
    intro n i σ h1 h2 h3 h4 h5 h6 h7
    obtain ⟨n, rfl⟩ : ∃ n', n = n' + 1 := ⟨n - 1, by omega⟩
    have fi := hf i
    have gf := from_23 (F := F) hc hP h486 h3 h4 (by rw [h5]; exact hw) hg (s := i) ⟨h1, by omega⟩ h6 hf P F 0 (f i) (by omega) (by omega) (by omega)
    rw [h5] at gf
    have gf' : gX3_greatestFrom F σ x1 g i = some (gmP c w f g i P 0 (f i)) := by
      unfold gX3_greatestFrom
      rw [show (g + 1) * 486 + i = 486 * (g + 1) + i by omega, w32_id (a := 486 * (g + 1) + i) (by omega), gd_pos (by omega), h6 i h1 (by omega)]
      exact gf
    have u : ∀ a b v, ¬ (a = 49 ∧ b = 486 * g + i) → up σ 49 (486 * g + i) v a b = σ a b := fun a b v q => by rw [up_at, if_neg q]
    have uc : ∀ a v, a ≠ 49 → up σ 49 (486 * g + i) v a = σ a := fun a v q => by funext b; exact u a b v (by omega)
    obtain ⟨σ', d1, d2⟩ := ih n (i + 1) (up σ 49 (486 * g + i) (gmP c w f g i P 0 (f i))) (by omega) (by omega) (by
      unfold ShI
      rw [uc (45 + 1) _ (by omega), uc 45 _ (by omega), uc (45 + 2) _ (by omega), uc (45 + 3) _ (by omega)]
      exact h3) (by rw [uc x1 _ (by omega)]; exact h4) (by rw [uc (x1 + 5) _ (by omega)]; exact h5) (fun x y1 y2 => by rw [u 49 _ _ (by omega)]; exact h6 x y1 y2) (by omega)
    refine ⟨σ', ?_, fun a b => ?_⟩
    · rw [gX3_fill_L49, h3.2.1, w32_id (a := i) (by omega), w32_id (a := stI c P) (by omega), if_neg (by omega), gf', Option.bind_some, show g * 486 + i = 486 * g + i by omega, w32_id (a := 486 * g + i) (by omega), gd_pos (by omega)]
      exact d1
    · rw [d2]
      by_cases q : a = 49 ∧ b = 486 * g + i
      · obtain ⟨rfl, rfl⟩ := q
        rw [if_neg (by omega), up_self, if_pos (by omega), show 486 * g + i - 486 * g = i by omega]
      · have k1 : (a = 49 ∧ 486 * g + (i + 1) ≤ b ∧ b < 486 * g + stI c P) = (a = 49 ∧ 486 * g + i ≤ b ∧ b < 486 * g + stI c P) := propext (by omega)
        rw [u a b _ q]
        simp only [k1]
theorem fill_40 {F : Nat} (hF : 1000 ≤ F) {x1 : Int} {fr to : Nat} {c w : Int → Int} {P : Nat} (hc : CapOK c P) (hP : P ≤ 6) (h486 : stI c P ≤ 486) (hw : WOK w) (hx : x1 = 1 ∨ x1 = 27) (hto : to ≤ 9) : ∀ (m n : Nat) (σ : St), fr + m ≤ to → ShI σ 45 c P → σ x1 5 = (P : Int) → σ (x1 + 5) = w → (∀ x : Nat, fr + m ≤ x → x ≤ to → ∀ s, 0 ≤ s → s < stI c P → σ 49 (486 * x + s) = dpI c w P (to - x) x s) → m < n →
    ∃ σ', gX3_fill_L40 F x1 fr to n ((fr : Int) + m - 1) σ = some σ' ∧ (∀ x : Nat, fr ≤ x → x ≤ to → ∀ s, 0 ≤ s → s < stI c P → σ' 49 (486 * x + s) = dpI c w P (to - x) x s) ∧ ∀ a b, a ≠ 49 → σ' a b = σ a b := by
  intro m
  induction m with
  | zero =>
    intro n σ h1 h3 h4 h5 h6 h7
    obtain ⟨n, rfl⟩ : ∃ n', n = n' + 1 := ⟨n - 1, by omega⟩
    exact ⟨σ, by rw [gX3_fill_L40, w32_id (a := (fr : Int) + ((0 : Nat) : Int) - 1) (by omega), w32_id (a := (fr : Int)) (by omega), if_pos (by omega)], h6, fun _ _ _ => rfl⟩
  | succ m ih =>
    intro n σ h1 h3 h4 h5 h6 h7
    obtain ⟨n, rfl⟩ : ∃ n', n = n' + 1 := ⟨n - 1, by omega⟩
    have eg : (fr : Int) + ((m + 1 : Nat) : Int) - 1 = ((fr + m : Nat) : Int) := by omega
    have hdp : ∀ s, 0 ≤ dpI c w P (to - (fr + m + 1)) ((fr + m + 1 : Nat) : Int) s ∧ dpI c w P (to - (fr + m + 1)) ((fr + m + 1 : Nat) : Int) s ≤ 2000 := fun s => by
      have := dpI_rng (c := c) hw hP (to - (fr + m + 1)) ((fr + m + 1 : Nat) : Int) s (by omega) (by omega)
      omega
    have pos := stI_pos hc P (Nat.le_refl _)
    obtain ⟨σ1, d1, d2⟩ := fill_49 (F := F) hF (x1 := x1) (x2 := fr) (x3 := to) (g := ((fr + m : Nat) : Int)) (c40 := gX3_fill_L40 F x1 fr to n) hc hP h486 (by omega) hw hx hdp (stI c P).toNat F 0 σ (by omega) (by omega) h3 h4 h5 (fun x y1 y2 => by
      have := h6 (fr + m + 1) (by omega) (by omega) x y1 y2
      rw [show ((fr + m : Nat) : Int) + 1 = ((fr + m + 1 : Nat) : Int) by omega]
      exact this) (by omega)
    have uc : ∀ a, a ≠ 49 → σ1 a = σ a := fun a q => by funext b; rw [d2, if_neg (by omega)]
    obtain ⟨σ', e1, e2, e3⟩ := ih n σ1 (by omega) (by
      unfold ShI
      rw [uc (45 + 1) (by omega), uc 45 (by omega), uc (45 + 2) (by omega), uc (45 + 3) (by omega)]
      exact h3) (by rw [uc x1 (by omega)]; exact h4) (by rw [uc (x1 + 5) (by omega)]; exact h5) (fun x y1 y2 s y3 y4 => by
      by_cases z : x = fr + m
      · rw [d2, if_pos (by omega), z, show 486 * ((fr + m : Nat) : Int) + s - 486 * ((fr + m : Nat) : Int) = s by omega]
        have es : to - (fr + m) = (to - (fr + m + 1)) + 1 := by omega
        rw [es]
        show _ = gmP c w (dpI c w P (to - (fr + m + 1)) (((fr + m : Nat) : Int) + 1)) ((fr + m : Nat) : Int) s P 0 (dpI c w P (to - (fr + m + 1)) (((fr + m : Nat) : Int) + 1) s)
        rw [show ((fr + m : Nat) : Int) + 1 = ((fr + m + 1 : Nat) : Int) by omega]
      · rw [d2, if_neg (by omega)]
        exact h6 x (by omega) y2 s y3 y4) (by omega)
    refine ⟨σ', ?_, e2, fun a b y => by rw [e3 a b y, uc a y]⟩
    rw [gX3_fill_L40, eg, w32_id (a := ((fr + m : Nat) : Int)) (by omega), w32_id (a := (fr : Int)) (by omega), if_neg (by omega), d1, show ((fr + m : Nat) : Int) + -1 = (fr : Int) + (m : Int) - 1 by omega]
    exact e1
theorem fill_3 {F : Nat} (hF : 1000 ≤ F) {x1 : Int} {fr to : Nat} {c : Int → Int} {P : Nat} (h486 : stI c P ≤ 486) (hto : to ≤ 9) : ∀ (m n : Nat) (i : Int) (σ : St), 0 ≤ i → i + m = stI c P → σ 45 3 = stI c P → m < n → ∃ σ', gX3_fill_L3 F x1 fr to n i σ = gX3_fill_L40 F x1 fr to F ((to : Int) - 1) σ' ∧ ∀ a b, σ' a b = if a = 49 ∧ 486 * to + i ≤ b ∧ b < 486 * to + stI c P then 0 else σ a b := by
  intro m
  induction m with
  | zero =>
    intro n i σ h1 h2 h3 h7
    obtain ⟨n, rfl⟩ : ∃ n', n = n' + 1 := ⟨n - 1, by omega⟩
    refine ⟨σ, by rw [gX3_fill_L3, h3, w32_id (a := i) (by omega), w32_id (a := stI c P) (by omega), if_pos (by omega)], fun a b => by rw [if_neg (by omega)]⟩
  | succ m ih =>
    intro n i σ h1 h2 h3 h7
    obtain ⟨n, rfl⟩ : ∃ n', n = n' + 1 := ⟨n - 1, by omega⟩
    obtain ⟨σ', d1, d2⟩ := ih n (i + 1) (up σ 49 (486 * to + i) 0) (by omega) (by omega) (by rw [up_at, if_neg (by omega)]; exact h3) (by omega)
    refine ⟨σ', ?_, fun a b => ?_⟩
    · rw [gX3_fill_L3, h3, w32_id (a := i) (by omega), w32_id (a := stI c P) (by omega), if_neg (by omega), show (to : Int) * 486 + i = 486 * to + i by omega, w32_id (a := 486 * (to : Int) + i) (by omega), gd_pos (by omega)]
      exact d1
    · rw [d2, up_at]
      by_cases q : a = 49 ∧ b = 486 * (to : Int) + i
      · rw [if_neg (by omega), if_pos q, if_pos (by omega)]
      · have k1 : (a = 49 ∧ 486 * (to : Int) + (i + 1) ≤ b ∧ b < 486 * (to : Int) + stI c P) = (a = 49 ∧ 486 * (to : Int) + i ≤ b ∧ b < 486 * (to : Int) + stI c P) := propext (by omega)
        simp only [if_neg q, k1]
theorem fill_eq {F : Nat} (hF : 1000 ≤ F) {σ : St} {x1 : Int} {fr to : Nat} {c w : Int → Int} {P : Nat} (hc : CapOK c P) (hP : P ≤ 6) (h486 : stI c P ≤ 486) (hw : WOK w) (hx : x1 = 1 ∨ x1 = 27) (hft : fr ≤ to) (hto : to ≤ 9) (h3 : ShI σ 45 c P) (h4 : σ x1 5 = (P : Int)) (h5 : σ (x1 + 5) = w) :
    ∃ σ', gX3_fill F σ x1 fr to = some σ' ∧ (∀ x : Nat, fr ≤ x → x ≤ to → ∀ s, 0 ≤ s → s < stI c P → σ' 49 (486 * x + s) = dpI c w P (to - x) x s) ∧ ∀ a b, a ≠ 49 → σ' a b = σ a b := by
  have pos := stI_pos hc P (Nat.le_refl _)
  obtain ⟨σ1, d1, d2⟩ := fill_3 (F := F) hF (x1 := x1) (fr := fr) (to := to) h486 hto (stI c P).toNat F 0 σ (by omega) (by omega) h3.2.1 (by omega)
  have uc : ∀ a, a ≠ 49 → σ1 a = σ a := fun a q => by funext b; rw [d2, if_neg (by omega)]
  obtain ⟨σ', e1, e2, e3⟩ := fill_40 (F := F) hF (fr := fr) (to := to) hc hP h486 hw hx hto (to - fr) F σ1 (by omega) (by
      unfold ShI
      rw [uc (45 + 1) (by omega), uc 45 (by omega), uc (45 + 2) (by omega), uc (45 + 3) (by omega)]
      exact h3) (by rw [uc x1 (by omega)]; exact h4) (by rw [uc (x1 + 5) (by omega)]; exact h5) (fun x y1 y2 s y3 y4 => by
      have ex : x = to := by omega
      rw [ex, d2, if_pos (by omega), Nat.sub_self]; rfl) (by omega)
  refine ⟨σ', ?_, e2, fun a b y => by rw [e3 a b y, uc a y]⟩
  unfold gX3_fill
  rw [d1, ← e1]
  congr 1
  omega
