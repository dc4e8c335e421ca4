-- PURE LAYER: batches
def btI (c w : Int → Int) (P G b : Nat) : Nat → Nat → Int → Int → (Int → Int) → Int × (Int → Int)
  | 0, _, _, sum, po => (sum, po)
  | n + 1, fr, s, sum, po => if G ≤ fr then (sum, po) else btI c w P G b n (fr + b) (prI c w P (min (fr + b) G - fr) fr s po).1 (sum + dpI c w P (min (fr + b) G - fr) fr s) (prI c w P (min (fr + b) G - fr) fr s po).2
theorem btI_ind {c w : Int → Int} {P G b : Nat} (hb : 1 ≤ b) : ∀ (n fr : Nat) (s sum : Int) (po po' : Int → Int), G ≤ fr + n → (∀ x : Int, 0 ≤ x → x < fr → x < G → po x = po' x) → (btI c w P G b n fr s sum po).1 = (btI c w P G b n fr s sum po').1 ∧ ∀ x : Int, 0 ≤ x → x < G → (btI c w P G b n fr s sum po).2 x = (btI c w P G b n fr s sum po').2 x := by
  intro n
  induction n with
  | zero => intro fr s sum po po' h1 h2; exact ⟨rfl, fun x y1 y2 => h2 x y1 (by omega) y2⟩
  | succ n ih =>
    intro fr s sum po po' h1 h2
    have e : ∀ po, btI c w P G b (n + 1) fr s sum po = if G ≤ fr then (sum, po) else btI c w P G b n (fr + b) (prI c w P (min (fr + b) G - fr) fr s po).1 (sum + dpI c w P (min (fr + b) G - fr) fr s) (prI c w P (min (fr + b) G - fr) fr s po).2 := fun po => rfl
    rw [e, e]
    by_cases z : G ≤ fr
    · rw [if_pos z, if_pos z]
      exact ⟨rfl, fun x y1 y2 => h2 x y1 (by omega) y2⟩
    · rw [if_neg z, if_neg z]
      obtain ⟨i1, i2⟩ := prI_ind (c := c) (w := w) (P := P) (min (fr + b) G - fr) fr s po po'
      rw [← i1]
      refine ih (fr + b) _ _ _ _ (by omega) (fun x y1 y2 y3 => i2 x ?_)
      by_cases q : (fr : Int) ≤ x
      · left; omega
      · right; exact h2 x y1 (by omega) y3
theorem btI_rng {c w : Int → Int} {P G b : Nat} (hb : 1 ≤ b) : ∀ (n fr : Nat) (s sum : Int) (po : Int → Int), G ≤ fr + n → (∀ x : Int, 0 ≤ x → x < fr → x < G → po x = -4 ∨ 0 ≤ po x ∧ po x < P) → ∀ x : Int, 0 ≤ x → x < G → (btI c w P G b n fr s sum po).2 x = -4 ∨ 0 ≤ (btI c w P G b n fr s sum po).2 x ∧ (btI c w P G b n fr s sum po).2 x < P := by
  intro n
  induction n with
  | zero => intro fr s sum po h1 h2 x y1 y2; exact h2 x y1 (by omega) y2
  | succ n ih =>
    intro fr s sum po h1 h2
    have e : btI c w P G b (n + 1) fr s sum po = if G ≤ fr then (sum, po) else btI c w P G b n (fr + b) (prI c w P (min (fr + b) G - fr) fr s po).1 (sum + dpI c w P (min (fr + b) G - fr) fr s) (prI c w P (min (fr + b) G - fr) fr s po).2 := rfl
    rw [e]
    by_cases z : G ≤ fr
    · rw [if_pos z]
      exact fun x y1 y2 => h2 x y1 (by omega) y2
    · rw [if_neg z]
      refine ih (fr + b) _ _ _ (by omega) (fun x y1 y2 y3 => prI_rng _ _ _ _ x ?_)
      by_cases q : (fr : Int) ≤ x
      · right; right; omega
      · rcases h2 x y1 (by omega) y3 with h | h
        · exact Or.inl h
        · exact Or.inr (Or.inl h)
theorem make_64 {F : Nat} (hF : 1000 ≤ F) {x1 : Int} {b G : Nat} {c w : Int → Int} {P : Nat} (hc : CapOK c P) (hP : P ≤ 6) (h486 : stI c P ≤ 486) (hw : WOK w) (hx : x1 = 1 ∨ x1 = 27) (hG : G ≤ 9) (hb : 1 ≤ b ∧ b ≤ 9) : ∀ (m n fr : Nat) (s : Int) (σ : St), G ≤ fr + m → fr ≤ 20 → 0 ≤ s → s < stI c P → ShI σ 45 c P → σ x1 5 = (P : Int) → σ x1 6 = (G : Int) → σ (x1 + 5) = w → m < n →
    ∃ σ', gX3_make_L64 F x1 b n s fr σ = some σ' ∧ σ' 43 1 = (btI c w P G b m fr s (σ 43 1) (σ 44)).1 ∧ σ' 44 = (btI c w P G b m fr s (σ 43 1) (σ 44)).2 ∧ ∀ a b, ¬ (a = 43 ∧ b = 1) → a ≠ 44 → a ≠ 49 → σ' a b = σ a b := by
  intro m
  induction m with
  | zero =>
    intro n fr s σ h1 h1' h2 h3 h4 h5 h6 h7 h8
    obtain ⟨n, rfl⟩ : ∃ n', n = n' + 1 := ⟨n - 1, by omega⟩
    exact ⟨σ, by rw [gX3_make_L64, h6, w32_id (a := (fr : Int)) (by omega), w32_id (a := (G : Int)) (by omega), if_pos (by omega)], rfl, rfl, fun _ _ _ _ _ => rfl⟩
  | succ m ih =>
    intro n fr s σ h1 h1' h2 h3 h4 h5 h6 h7 h8
    obtain ⟨n, rfl⟩ : ∃ n', n = n' + 1 := ⟨n - 1, by omega⟩
    have e : btI c w P G b (m + 1) fr s (σ 43 1) (σ 44) = if G ≤ fr then (σ 43 1, σ 44) else btI c w P G b m (fr + b) (prI c w P (min (fr + b) G - fr) fr s (σ 44)).1 (σ 43 1 + dpI c w P (min (fr + b) G - fr) fr s) (prI c w P (min (fr + b) G - fr) fr s (σ 44)).2 := rfl
    rw [e]
    by_cases z : G ≤ fr
    · rw [if_pos z]
      exact ⟨σ, by rw [gX3_make_L64, h6, w32_id (a := (fr : Int)) (by omega), w32_id (a := (G : Int)) (by omega), if_pos (by omega)], rfl, rfl, fun _ _ _ _ _ => rfl⟩
    · rw [if_neg z]
      have eto : (if w32 (σ x1 6) < w32 ((fr : Int) + (b : Int)) then σ x1 6 else (fr : Int) + (b : Int)) = ((min (fr + b) G : Nat) : Int) := by
        rw [h6, w32_id (a := (G : Int)) (by omega), w32_id (a := (fr : Int) + (b : Int)) (by omega)]
        split <;> omega
      obtain ⟨σ1, a1, a2, a3⟩ := fill_eq (F := F) hF (σ := σ) (x1 := x1) (fr := fr) (to := min (fr + b) G) hc hP h486 hw hx (by omega) (by omega) h4 h5 h7
      have ac : ∀ a, a ≠ 49 → σ1 a = σ a := fun a q => by funext y; exact a3 a y q
      have row := a2 fr (by omega) (by omega) s h2 h3
      have uc : ∀ a v, a ≠ 43 → up σ1 43 1 v a = σ1 a := fun a v q => up_cell q
      obtain ⟨σ2, b1', b2, b3⟩ := pair_7 (F := F) hF (x1 := x1) (x2 := fr) (x4 := s) (to := min (fr + b) G) hc hP h486 hw hx (by omega) (min (fr + b) G - fr) F fr s (up σ1 43 1 (σ1 43 1 + σ1 49 (486 * fr + s))) (by omega) h2 h3 (by
        unfold ShI
        rw [uc (45 + 1) _ (by omega), uc 45 _ (by omega), uc (45 + 2) _ (by omega), uc (45 + 3) _ (by omega), ac (45 + 1) (by omega), ac 45 (by omega), ac (45 + 2) (by omega), ac (45 + 3) (by omega)]
        exact h4) (by rw [uc x1 _ (by omega), ac x1 (by omega)]; exact h5) (by rw [uc (x1 + 5) _ (by omega), ac (x1 + 5) (by omega)]; exact h7) (fun x y1 y2 y y3 y4 => by rw [uc 49 _ (by omega)]; exact a2 x y1 y2 y y3 y4) (by omega)
      rw [uc 44 _ (by omega), ac 44 (by omega)] at b1' b2
      have bc : ∀ a, a ≠ 43 → a ≠ 44 → a ≠ 49 → σ2 a = σ a := fun a y1 y2 y3 => by funext y; rw [b3 a y y2, uc a _ y1, ac a y3]
      have b43 : ∀ y, σ2 43 y = if y = 1 then σ 43 1 + dpI c w P (min (fr + b) G - fr) fr s else σ 43 y := fun y => by
        rw [b3 43 y (by omega), up_at, ac 43 (by omega), row]
        by_cases q : y = 1
        · rw [if_pos ⟨rfl, q⟩, if_pos q]
        · rw [if_neg (fun w => q w.2), if_neg q]
      have pin := prI_in (c := c) (w := w) hc (min (fr + b) G - fr) fr s (σ 44) h2 h3
      obtain ⟨σ', d1, d2, d3, d4⟩ := ih n (fr + b) (prI c w P (min (fr + b) G - fr) fr s (σ 44)).1 σ2 (by omega) (by omega) pin.1 pin.2 (by
        unfold ShI
        rw [bc (45 + 1) (by omega) (by omega) (by omega), bc 45 (by omega) (by omega) (by omega), bc (45 + 2) (by omega) (by omega) (by omega), bc (45 + 3) (by omega) (by omega) (by omega)]
        exact h4) (by rw [bc x1 (by omega) (by omega) (by omega)]; exact h5) (by rw [bc x1 (by omega) (by omega) (by omega)]; exact h6) (by rw [bc (x1 + 5) (by omega) (by omega) (by omega)]; exact h7) (by omega)
      rw [b43 1, if_pos rfl, b2] at d2 d3
      refine ⟨σ', ?_, d2, d3, fun a y y1 y2 y3 => ?_⟩
      · rw [gX3_make_L64]
        have ng : ¬ w32 (fr : Int) ≥ w32 (σ x1 6) := by rw [h6, w32_id (a := (fr : Int)) (by omega), w32_id (a := (G : Int)) (by omega)]; omega
        rw [if_neg ng, eto, a1, Option.bind_some, show (fr : Int) * 486 + s = 486 * fr + s by omega, w32_id (a := 486 * (fr : Int) + s) (by omega), gd_pos (by omega)]
        unfold gX3_pair
        rw [b1', Option.bind_some]
        exact d1
      · rw [d4 a y y1 y2 y3]
        by_cases q : a = 43
        · rw [q, b43 y, if_neg (by omega)]
        · rw [bc a q y2 y3]
theorem batch_52 {F : Nat} (hF : 1000 ≤ F) {x2 : Int} {b G : Nat} {c w : Int → Int} {P : Nat} (hc : CapOK c P) (hP : P ≤ 6) (h486 : stI c P ≤ 486) (hw : WOK w) (hG : G ≤ 9) (hb : 1 ≤ b ∧ b ≤ 9) : ∀ (m n fr : Nat) (s sum : Int) (σ : St), G ≤ fr + m → fr ≤ 20 → 0 ≤ s → s < stI c P → FgM σ c P → σ 143 4 = (G : Int) → σ 148 = w → m < n →
    ∃ σ', gX11_batch_L52 F b x2 n s sum fr σ = (if w32 x2 ≠ 0 then gd (0 ≤ w32 (x2 - 10) ∧ w32 (x2 - 10) < 9) (some (σ' 170 (w32 (x2 - 10)), σ')) else some ((btI c w P G b m fr s sum (σ 170)).1, σ')) ∧ σ' 170 = (btI c w P G b m fr s sum (σ 170)).2 ∧ ∀ a b, a ≠ 169 → a ≠ 170 → σ' a b = σ a b := by
  intro m
  induction m with
  | zero =>
    intro n fr s sum σ h1 h1' h2 h3 h4 h6 h7 h8
    obtain ⟨n, rfl⟩ : ∃ n', n = n' + 1 := ⟨n - 1, by omega⟩
    exact ⟨σ, by rw [gX11_batch_L52, h6, w32_id (a := (fr : Int)) (by omega), w32_id (a := (G : Int)) (by omega), if_pos (by omega)]; rfl, rfl, fun _ _ _ _ => rfl⟩
  | succ m ih =>
    intro n fr s sum σ h1 h1' h2 h3 h4 h6 h7 h8
    obtain ⟨n, rfl⟩ : ∃ n', n = n' + 1 := ⟨n - 1, by omega⟩
    have e : btI c w P G b (m + 1) fr s sum (σ 170) = if G ≤ fr then (sum, σ 170) else btI c w P G b m (fr + b) (prI c w P (min (fr + b) G - fr) fr s (σ 170)).1 (sum + dpI c w P (min (fr + b) G - fr) fr s) (prI c w P (min (fr + b) G - fr) fr s (σ 170)).2 := rfl
    rw [e]
    by_cases z : G ≤ fr
    · refine ⟨σ, ?_, by rw [if_pos z], fun _ _ _ _ => rfl⟩
      have zz : (if G ≤ fr then (sum, σ 170) else btI c w P G b m (fr + b) (prI c w P (min (fr + b) G - fr) fr s (σ 170)).1 (sum + dpI c w P (min (fr + b) G - fr) fr s) (prI c w P (min (fr + b) G - fr) fr s (σ 170)).2) = (sum, σ 170) := if_pos z
      rw [gX11_batch_L52, h6, w32_id (a := (fr : Int)) (by omega), w32_id (a := (G : Int)) (by omega), if_pos (by omega), zz]
    · have zz : (if G ≤ fr then (sum, σ 170) else btI c w P G b m (fr + b) (prI c w P (min (fr + b) G - fr) fr s (σ 170)).1 (sum + dpI c w P (min (fr + b) G - fr) fr s) (prI c w P (min (fr + b) G - fr) fr s (σ 170)).2) = btI c w P G b m (fr + b) (prI c w P (min (fr + b) G - fr) fr s (σ 170)).1 (sum + dpI c w P (min (fr + b) G - fr) fr s) (prI c w P (min (fr + b) G - fr) fr s (σ 170)).2 := if_neg z
      rw [zz]
      obtain ⟨σ1, a1, a2, a3⟩ := layBest_eq (F := F) hF (σ := σ) (fr := fr) (to := min (fr + b) G) hc hP h486 hw (by omega) (by omega) h4 h7
      have ac : ∀ a, a ≠ 169 → σ1 a = σ a := fun a q => by funext y; exact a3 a y q
      have row := a2 fr (by omega) (by omega) s h2 h3
      obtain ⟨σ2, b1', b2, b3⟩ := pairs_6 (F := F) hF (x1 := fr) (x3 := s) (to := min (fr + b) G) hc hP h486 hw (by omega) (min (fr + b) G - fr) F fr s σ1 (by omega) h2 h3 (h4.frame (by rw [ac 143 (by omega)]) (by rw [ac 143 (by omega)]) (ac 167 (by omega)) (ac 168 (by omega))) (by rw [ac 148 (by omega)]; exact h7) (fun x y1 y2 y y3 y4 => a2 x y1 y2 y y3 y4) (by omega)
      rw [ac 170 (by omega)] at b1' b2
      have bc : ∀ a, a ≠ 169 → a ≠ 170 → σ2 a = σ a := fun a y1 y2 => by funext y; rw [b3 a y y2, ac a y1]
      have pin := prI_in (c := c) (w := w) hc (min (fr + b) G - fr) fr s (σ 170) h2 h3
      obtain ⟨σ', d1, d2, d3⟩ := ih n (fr + b) (prI c w P (min (fr + b) G - fr) fr s (σ 170)).1 (sum + dpI c w P (min (fr + b) G - fr) fr s) σ2 (by omega) (by omega) pin.1 pin.2 (h4.frame (by rw [bc 143 (by omega) (by omega)]) (by rw [bc 143 (by omega) (by omega)]) (bc 167 (by omega) (by omega)) (bc 168 (by omega) (by omega))) (by rw [bc 143 (by omega) (by omega)]; exact h6) (by rw [bc 148 (by omega) (by omega)]; exact h7) (by omega)
      rw [b2] at d1 d2
      have L83 : gX11_batch_L83 F b x2 (gX11_batch_L52 F b x2 n) s sum fr ((min (fr + b) G : Nat) : Int) σ = gX11_batch_L52 F b x2 n (prI c w P (min (fr + b) G - fr) fr s (σ 170)).1 (sum + dpI c w P (min (fr + b) G - fr) fr s) ((fr : Int) + b) σ2 := by
        unfold gX11_batch_L83
        rw [a1, Option.bind_some, w32_id (a := 512 * (fr : Int) + s) (by omega), gd_pos (by omega), row]
        unfold gX11_layPairs
        rw [b1', Option.bind_some]
      refine ⟨σ', ?_, d2, fun a y y1 y2 => by rw [d3 a y y1 y2, bc a y1 y2]⟩
      rw [← d1, gX11_batch_L52, h6, w32_id (a := (fr : Int)) (by omega), w32_id (a := (G : Int)) (by omega), if_neg (by omega), w32_id (a := (fr : Int) + (b : Int)) (by omega)]
      by_cases q : (fr : Int) + b ≥ G
      · rw [if_pos q, show (G : Int) = ((min (fr + b) G : Nat) : Int) by omega, L83]; rfl
      · rw [if_neg q]
        have : gX11_batch_L83 F b x2 (gX11_batch_L52 F b x2 n) s sum fr ((fr : Int) + b) σ = gX11_batch_L83 F b x2 (gX11_batch_L52 F b x2 n) s sum fr ((min (fr + b) G : Nat) : Int) σ := by
          congr 1
          omega
        rw [this, L83]; rfl
