-- PURE LAYER: hopes, the class
def hvI (c w ch : Int → Int) (P G : Nat) (C : Int) (n : Nat) (s g : Int) : Int := ch g * hmP c w (hpI c w ch P G C n) (ovI C n) g s P 0 (hpI c w ch P G C n s)
theorem hfill_53 {F : Nat} (hF : 1000 ≤ F) {x2 s C : Int} {n : Nat} {c : Int → Int} {P G : Nat} {c18 : Int → Int → St → Option St} {σ : St} (hc : CapOK c P) (hP : P ≤ 6) (hG : G ≤ 9) (h324 : stI c P ≤ 324) (hsh : ShI σ 52 c P) (h5 : σ 1 5 = (P : Int)) (h6 : σ 1 6 = (G : Int)) (hw : WOK (σ 6)) (hch : ChOK (σ 5) G) (hC : C = sumN (σ 5) G 0) (hC2 : 0 ≤ C ∧ C ≤ 81) (hn : n ≤ 5) (hs : 0 ≤ s ∧ s < stI c P) (hfr : frI c P (stI c P - 1) - frI c P s ≤ 6 - ((n + 1 : Nat) : Int)) (ho : σ 51 n = ovI C n) (hr : HRow σ c (σ 6) (σ 5) P G C n) : ∀ (m k : Nat) (acc i : Int), 0 ≤ i → i + m = G → m < k → gX1_fill_L53 F ((n : Int) + 1) c18 k x2 s acc i σ = c18 x2 (s + 1) (up σ 56 (324 * ((n : Int) + 1) + s) (acc + sumN (hvI c (σ 6) (σ 5) P G C n s) m i)) := by
  intro m
  induction m with
  | zero =>
    intro k acc i h1 h2 h3
    obtain ⟨k, rfl⟩ : ∃ n', k = n' + 1 := ⟨k - 1, by omega⟩
    rw [gX1_fill_L53, h6, w32_id (a := i) (by omega), w32_id (a := (G : Int)) (by omega), if_pos (by omega), show ((n : Int) + 1) * 324 + s = 324 * ((n : Int) + 1) + s by omega, w32_id (a := 324 * ((n : Int) + 1) + s) (by omega), gd_pos (by omega)]
    unfold gX1_fill_L110
    rw [show acc + sumN (hvI c (σ 6) (σ 5) P G C n s) 0 i = acc from Int.add_zero acc]
  | succ m ih =>
    intro k acc i h1 h2 h3
    obtain ⟨k, rfl⟩ : ∃ n', k = n' + 1 := ⟨k - 1, by omega⟩
    have ob := oB_at (n := n) (by omega)
    have or := ovI_rng hC2 n
    have hf : ∀ x, 0 ≤ hpI c (σ 6) (σ 5) P G C n x ∧ hpI c (σ 6) (σ 5) P G C n x ≤ 200000000000000 := fun x => by
      have := hpI_rng (c := c) hw hP hG hch hC hC2 n x
      omega
    have fs := hf s
    have r0 := hr s hs.1 hs.2 (by omega)
    have gf := gfor_19 (F := F) (σ := σ) (g := i) (s := s) (n := n) (f := hpI c (σ 6) (σ 5) P G C n) hc hP h324 hsh h5 hw (by omega) hn hs ho (by omega) (fun p hp hd => by
      obtain ⟨l1, l2⟩ := less_in hc hs hp hd
      have fl := (frI_less hc P s p (Nat.le_refl _) hs.1 hp hd).2
      exact hr _ l1 l2 (by omega)) hf P F 0 (hpI c (σ 6) (σ 5) P G C n s) (by omega) (by omega) (by omega)
    have gf' : gX1_greatestFor F σ i ((n : Int) + 1) s = some (hmP c (σ 6) (hpI c (σ 6) (σ 5) P G C n) (ovI C n) i s P 0 (hpI c (σ 6) (σ 5) P G C n s)) := by
      unfold gX1_greatestFor
      rw [show ((n : Int) + 1 - 1) * 324 + s = 324 * n + s by omega, w32_id (a := 324 * (n : Int) + s) (by omega), gd_pos (by omega), r0]
      exact gf
    have chi := hch i h1 (by omega)
    have e5 : σ (1 + 4) i = σ 5 i := rfl
    have e : sumN (hvI c (σ 6) (σ 5) P G C n s) (m + 1) i = hvI c (σ 6) (σ 5) P G C n s i + sumN (hvI c (σ 6) (σ 5) P G C n s) m (i + 1) := rfl
    rw [gX1_fill_L53, h6, w32_id (a := i) (by omega), w32_id (a := (G : Int)) (by omega), if_neg (by omega), gd_pos (by omega), gf', Option.bind_some, e5, w32_id (a := σ 5 i) (by omega), ih k _ (i + 1) (by omega) (by omega) (by omega), e, Int.add_assoc]
    rfl
theorem hfill_18 {F : Nat} (hF : 1000 ≤ F) {C : Int} {n : Nat} {c w ch : Int → Int} {P G : Nat} (hc : CapOK c P) (hP : P ≤ 6) (hG : G ≤ 9) (h324 : stI c P ≤ 324) (hw : WOK w) (hch : ChOK ch G) (hC : C = sumN ch G 0) (hC2 : 0 ≤ C ∧ C ≤ 81) (hn : n ≤ 5) : ∀ (m k : Nat) (i : Int) (σ : St), 0 ≤ i → i + m = stI c P → ShI σ 52 c P → σ 1 5 = (P : Int) → σ 1 6 = (G : Int) → σ 6 = w → σ 5 = ch → σ 51 n = ovI C n → HRow σ c w ch P G C n → m < k →
    ∃ σ', gX1_fill_L18 F ((n : Int) + 1) k (frI c P (stI c P - 1)) i σ = some σ' ∧ ∀ a b, σ' a b = if a = 56 ∧ 324 * ((n : Int) + 1) + i ≤ b ∧ b < 324 * ((n : Int) + 1) + stI c P ∧ frI c P (stI c P - 1) - frI c P (b - 324 * ((n : Int) + 1)) ≤ 6 - ((n + 1 : Nat) : Int) then hpI c w ch P G C (n + 1) (b - 324 * ((n : Int) + 1)) else σ a b := by
  have pos := stI_pos hc P (Nat.le_refl _)
  have fa := frI_rng hc P (stI c P - 1) (Nat.le_refl _) (by omega) (by omega)
  intro m
  induction m with
  | zero =>
    intro k i σ h1 h2 h3 h4 h5 h6 h7 h8 h9 h10
    obtain ⟨k, rfl⟩ : ∃ n', k = n' + 1 := ⟨k - 1, by omega⟩
    refine ⟨σ, by rw [gX1_fill_L18, h3.2.1, w32_id (a := i) (by omega), w32_id (a := stI c P) (by omega), if_pos (by omega)], fun a b => by rw [if_neg (by omega)]⟩
  | succ m ih =>
    intro k i σ h1 h2 h3 h4 h5 h6 h7 h8 h9 h10
    obtain ⟨k, rfl⟩ : ∃ n', k = n' + 1 := ⟨k - 1, by omega⟩
    have fi := frI_rng hc P i (Nat.le_refl _) h1 (by omega)
    have s55 : σ (52 + 3) i = frI c P i := (h3.2.2 i h1 (by omega)).2
    have hd : gX1_fill_L18 F ((n : Int) + 1) (k + 1) (frI c P (stI c P - 1)) i σ = if frI c P (stI c P - 1) - frI c P i > 5 - n then gX1_fill_L18 F ((n : Int) + 1) k (frI c P (stI c P - 1)) (i + 1) σ else gX1_fill_L53 F ((n : Int) + 1) (gX1_fill_L18 F ((n : Int) + 1) k) F (frI c P (stI c P - 1)) i 0 0 σ := by
      rw [gX1_fill_L18, h3.2.1, w32_id (a := i) (by omega), w32_id (a := stI c P) (by omega), if_neg (by omega), gd_pos (by omega), s55, w32_id (a := frI c P (stI c P - 1) - frI c P i) (by omega), w32_id (a := 6 - ((n : Int) + 1)) (by omega), show (6 : Int) - ((n : Int) + 1) = 5 - n by omega]
      rfl
    rw [hd]
    by_cases z : frI c P (stI c P - 1) - frI c P i > 5 - n
    · rw [if_pos z]
      obtain ⟨σ', d1, d2⟩ := ih k (i + 1) σ (by omega) (by omega) h3 h4 h5 h6 h7 h8 h9 (by omega)
      refine ⟨σ', d1, fun a b => ?_⟩
      rw [d2]
      by_cases q : b = 324 * ((n : Int) + 1) + i
      · rw [if_neg (by omega), if_neg (fun y => by
          have y4 := y.2.2.2
          rw [q, show 324 * ((n : Int) + 1) + i - 324 * ((n : Int) + 1) = i by omega] at y4
          omega)]
      · have k1 : (a = 56 ∧ 324 * ((n : Int) + 1) + (i + 1) ≤ b ∧ b < 324 * ((n : Int) + 1) + stI c P ∧ frI c P (stI c P - 1) - frI c P (b - 324 * ((n : Int) + 1)) ≤ 6 - ((n + 1 : Nat) : Int)) = (a = 56 ∧ 324 * ((n : Int) + 1) + i ≤ b ∧ b < 324 * ((n : Int) + 1) + stI c P ∧ frI c P (stI c P - 1) - frI c P (b - 324 * ((n : Int) + 1)) ≤ 6 - ((n + 1 : Nat) : Int)) := propext (by omega)
        simp only [k1]
    · rw [if_neg z]
      have f53 := hfill_53 (F := F) hF (x2 := frI c P (stI c P - 1)) (s := i) (C := C) (n := n) (c18 := gX1_fill_L18 F ((n : Int) + 1) k) (σ := σ) hc hP hG h324 h3 h4 h5 (by rw [h6]; exact hw) (by rw [h7]; exact hch) (by rw [h7]; exact hC) hC2 hn ⟨h1, by omega⟩ (by omega) h8 (by rw [h6, h7]; exact h9) G F 0 0 (by omega) (by omega) (by omega)
      rw [h6, h7, Int.zero_add] at f53
      have ev : sumN (hvI c w ch P G C n i) G 0 = hpI c w ch P G C (n + 1) i := rfl
      rw [ev] at f53
      have u : ∀ a b v, ¬ (a = 56 ∧ b = 324 * ((n : Int) + 1) + i) → up σ 56 (324 * ((n : Int) + 1) + i) v a b = σ a b := fun a b v q => by rw [up_at, if_neg q]
      have uc : ∀ a v, a ≠ 56 → up σ 56 (324 * ((n : Int) + 1) + i) v a = σ a := fun a v q => up_cell q
      obtain ⟨σ', d1, d2⟩ := ih k (i + 1) (up σ 56 (324 * ((n : Int) + 1) + i) (hpI c w ch P G C (n + 1) i)) (by omega) (by omega) (by
        unfold ShI
        rw [uc (52 + 1) _ (by omega), uc 52 _ (by omega), uc (52 + 2) _ (by omega), uc (52 + 3) _ (by omega)]
        exact h3) (by rw [uc 1 _ (by omega)]; exact h4) (by rw [uc 1 _ (by omega)]; exact h5) (by rw [uc 6 _ (by omega)]; exact h6) (by rw [uc 5 _ (by omega)]; exact h7) (by rw [uc 51 _ (by omega)]; exact h8) (fun x y1 y2 y3 => by rw [u 56 _ _ (by omega)]; exact h9 x y1 y2 y3) (by omega)
      refine ⟨σ', by rw [f53]; exact d1, fun a b => ?_⟩
      rw [d2]
      by_cases q : a = 56 ∧ b = 324 * ((n : Int) + 1) + i
      · obtain ⟨rfl, rfl⟩ := q
        have ei : 324 * ((n : Int) + 1) + i - 324 * ((n : Int) + 1) = i := by omega
        rw [if_neg (by omega), up_self, ei, if_pos (by omega)]
      · have k1 : (a = 56 ∧ 324 * ((n : Int) + 1) + (i + 1) ≤ b ∧ b < 324 * ((n : Int) + 1) + stI c P ∧ frI c P (stI c P - 1) - frI c P (b - 324 * ((n : Int) + 1)) ≤ 6 - ((n + 1 : Nat) : Int)) = (a = 56 ∧ 324 * ((n : Int) + 1) + i ≤ b ∧ b < 324 * ((n : Int) + 1) + stI c P ∧ frI c P (stI c P - 1) - frI c P (b - 324 * ((n : Int) + 1)) ≤ 6 - ((n + 1 : Nat) : Int)) := propext (by omega)
        rw [u a b _ q]
        simp only [k1]
theorem bring_90 {F : Nat} (hF : 1000 ≤ F) {C : Int} {c w ch : Int → Int} {P G : Nat} (hc : CapOK c P) (hP : P ≤ 6) (hG : G ≤ 9) (h324 : stI c P ≤ 324) (hw : WOK w) (hch : ChOK ch G) (hC : C = sumN ch G 0) (hC2 : 0 ≤ C ∧ C ≤ 81) : ∀ (m k j : Nat) (σ : St), j + m = 6 → ShI σ 52 c P → σ 1 5 = (P : Int) → σ 1 6 = (G : Int) → σ 6 = w → σ 5 = ch → σ 50 1 = C → (∀ i : Nat, i ≤ j → σ 51 i = ovI C i ∧ HRow σ c w ch P G C i) → m < k →
    ∃ σ', gX1_bringUp_L90 F k ((j : Int) + 1) σ = some σ' ∧ (∀ i : Nat, i ≤ 6 → σ' 51 i = ovI C i ∧ HRow σ' c w ch P G C i) ∧ ∀ a b, a ≠ 51 → ¬ (a = 56 ∧ 324 ≤ b) → σ' a b = σ a b := by
  have pos := stI_pos hc P (Nat.le_refl _)
  intro m
  induction m with
  | zero =>
    intro k j σ h1 h3 h4 h5 h6 h7 h8 h9 h10
    obtain ⟨k, rfl⟩ : ∃ n', k = n' + 1 := ⟨k - 1, by omega⟩
    exact ⟨σ, by rw [gX1_bringUp_L90, w32_id (a := (j : Int) + 1) (by omega), if_pos (by omega)], fun i hi => h9 i (by omega), fun _ _ _ _ => rfl⟩
  | succ m ih =>
    intro k j σ h1 h3 h4 h5 h6 h7 h8 h9 h10
    obtain ⟨k, rfl⟩ : ∃ n', k = n' + 1 := ⟨k - 1, by omega⟩
    obtain ⟨o1, o2⟩ := h9 j (by omega)
    have u : ∀ a b v, ¬ (a = 51 ∧ b = (j : Int) + 1) → up σ 51 ((j : Int) + 1) v a b = σ a b := fun a b v q => by rw [up_at, if_neg q]
    have uc : ∀ a v, a ≠ 51 → up σ 51 ((j : Int) + 1) v a = σ a := fun a v q => up_cell q
    have sh1 : ShI (up σ 51 ((j : Int) + 1) (ovI C j * C)) 52 c P := by
      unfold ShI
      rw [uc (52 + 1) _ (by omega), uc 52 _ (by omega), uc (52 + 2) _ (by omega), uc (52 + 3) _ (by omega)]
      exact h3
    obtain ⟨σ1, d1, d2⟩ := hfill_18 (F := F) hF (C := C) (n := j) (w := w) (ch := ch) hc hP hG h324 hw hch hC hC2 (by omega) (stI c P).toNat F 0 (up σ 51 ((j : Int) + 1) (ovI C j * C)) (by omega) (by omega) sh1 (by rw [uc 1 _ (by omega)]; exact h4) (by rw [uc 1 _ (by omega)]; exact h5) (by rw [uc 6 _ (by omega)]; exact h6) (by rw [uc 5 _ (by omega)]; exact h7) (by rw [u 51 j _ (by omega)]; exact o1) (fun x y1 y2 y3 => by rw [uc 56 _ (by omega)]; exact o2 x y1 y2 y3) (by omega)
    have vo : ∀ a b, ¬ (a = 56 ∧ 324 * ((j : Int) + 1) ≤ b) → σ1 a b = up σ 51 ((j : Int) + 1) (ovI C j * C) a b := fun a b q => by rw [d2, if_neg (by omega)]
    have vc : ∀ a, a ≠ 51 → a ≠ 56 → σ1 a = σ a := fun a q1 q2 => by funext b; rw [vo a b (by omega), uc a _ q1]
    have fl : gX1_fill F (up σ 51 ((j : Int) + 1) (ovI C j * C)) ((j : Int) + 1) = some σ1 := by
      have a1 : up σ 51 ((j : Int) + 1) (ovI C j * C) 52 3 = stI c P := sh1.2.1
      have a2 : up σ 51 ((j : Int) + 1) (ovI C j * C) (52 + 3) (stI c P - 1) = frI c P (stI c P - 1) := (sh1.2.2 (stI c P - 1) (by omega) (by omega)).2
      unfold gX1_fill gX4_allFree
      rw [Option.bind_some, a1, w32_id (a := stI c P - 1) (by omega), gd_pos (by omega), a2]
      exact d1
    obtain ⟨σ', e1, e2, e3⟩ := ih k (j + 1) σ1 (by omega) (by
      unfold ShI
      rw [vc (52 + 1) (by omega) (by omega), vc 52 (by omega) (by omega), vc (52 + 2) (by omega) (by omega), vc (52 + 3) (by omega) (by omega)]
      exact h3) (by rw [vc 1 (by omega) (by omega)]; exact h4) (by rw [vc 1 (by omega) (by omega)]; exact h5) (by rw [vc 6 (by omega) (by omega)]; exact h6) (by rw [vc 5 (by omega) (by omega)]; exact h7) (by rw [vc 50 (by omega) (by omega)]; exact h8) (fun i hi => by
      by_cases z : i = j + 1
      · subst z
        refine ⟨?_, fun x y1 y2 y3 => ?_⟩
        · rw [vo 51 _ (by omega), show ((j + 1 : Nat) : Int) = (j : Int) + 1 by omega, up_self]; rfl
        · have ex : 324 * ((j + 1 : Nat) : Int) + x = 324 * ((j : Int) + 1) + x := by omega
          have ei : 324 * ((j : Int) + 1) + x - 324 * ((j : Int) + 1) = x := by omega
          rw [ex, d2, ei, if_pos (by omega)]
      · obtain ⟨w1, w2⟩ := h9 i (by omega)
        refine ⟨by rw [vo 51 _ (by omega), u 51 _ _ (by omega)]; exact w1, fun x y1 y2 y3 => ?_⟩
        rw [vo 56 _ (by omega), uc 56 _ (by omega)]
        exact w2 x y1 y2 y3) (by omega)
    have hCw : w32 C = C := w32_id (by omega)
    refine ⟨σ', ?_, e2, fun a b y1 y2 => ?_⟩
    · rw [gX1_bringUp_L90, w32_id (a := (j : Int) + 1) (by omega), if_neg (by omega), show (j : Int) + 1 - 1 = j by omega, w32_id (a := (j : Int)) (by omega), gd_pos (by omega), gd_pos (by omega), o1, h8, hCw, fl, Option.bind_some]
      exact e1
    · rw [e3 a b y1 y2, vo a b (by omega), uc a _ y1]
theorem bring_46 {F : Nat} (hF : 1000 ≤ F) {ch : Int → Int} {G : Nat} (hG : G ≤ 9) : ∀ (m k : Nat) (i : Int) (σ : St), 0 ≤ i → i + m = G → σ 1 6 = (G : Int) → σ 5 = ch → m < k → ∃ σ', gX1_bringUp_L46 F k i σ = gX1_bringUp_L90 F F 1 (up σ' 51 0 1) ∧ σ' 50 1 = σ 50 1 + sumN ch m i ∧ ∀ a b, ¬ (a = 50 ∧ b = 1) → σ' a b = σ a b := by
  intro m
  induction m with
  | zero =>
    intro k i σ h1 h2 h3 h4 h5
    obtain ⟨k, rfl⟩ : ∃ n', k = n' + 1 := ⟨k - 1, by omega⟩
    exact ⟨σ, by rw [gX1_bringUp_L46, h3, w32_id (a := i) (by omega), w32_id (a := (G : Int)) (by omega), if_pos (by omega), gd_pos (by omega)], (Int.add_zero _).symm, fun _ _ _ => rfl⟩
  | succ m ih =>
    intro k i σ h1 h2 h3 h4 h5
    obtain ⟨k, rfl⟩ : ∃ n', k = n' + 1 := ⟨k - 1, by omega⟩
    have u : ∀ a b v, ¬ (a = 50 ∧ b = 1) → up σ 50 1 v a b = σ a b := fun a b v q => by rw [up_at, if_neg q]
    have e5 : σ (1 + 4) i = ch i := by rw [← h4]; rfl
    obtain ⟨σ', d1, d2, d3⟩ := ih k (i + 1) (up σ 50 1 (σ 50 1 + ch i)) (by omega) (by omega) (by rw [u 1 6 _ (by omega)]; exact h3) (by funext b; rw [u 5 b _ (by omega), h4]) (by omega)
    refine ⟨σ', ?_, ?_, fun a b y => by rw [d3 a b y, u a b _ y]⟩
    · rw [gX1_bringUp_L46, h3, w32_id (a := i) (by omega), w32_id (a := (G : Int)) (by omega), if_neg (by omega), gd_pos (by omega), e5]; exact d1
    · rw [d2, up_self, Int.add_assoc]; rfl
