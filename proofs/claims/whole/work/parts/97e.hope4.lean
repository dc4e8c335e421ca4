-- PURE LAYER: hopes, the reference
theorem lay_77 {F : Nat} (hF : 1000 ≤ F) {x1 s C : Int} {n : Nat} {c w ch : Int → Int} {P G : Nat} {c36 : Int → St → Option St} {c63 : Int → Int → St → Option St} {σ : St} (hc : CapOK c P) (hP : P ≤ 6) (hG : G ≤ 9) (h486 : stI c P ≤ 486) (hfg : FgM σ c P) (h4 : σ 143 4 = (G : Int)) (h5 : σ 148 = w) (h7 : σ 147 = ch) (hch : ChOK ch G) (hC : C = sumN ch G 0) (hC2 : 0 ≤ C ∧ C ≤ 81) (hw : WOK w) (hn : n ≤ 5) (hs : 0 ≤ s ∧ s < stI c P) (ho : σ 172 n = ovI C n) (hr : ∀ x, 0 ≤ x → x < stI c P → σ 171 (512 * n + x) = hpI c w ch P G C n x) : ∀ (m k : Nat) (acc i : Int), 0 ≤ i → i + m = G → m < k → gX11_layHopes_L77 F x1 c36 c63 k ((n : Int) + 1) s acc i σ = c63 ((n : Int) + 1) (s + 1) (up σ 171 (512 * ((n : Int) + 1) + s) (acc + sumN (hvI c w ch P G C n s) m i)) := by
  intro m
  induction m with
  | zero =>
    intro k acc i h1 h2 h3
    obtain ⟨k, rfl⟩ : ∃ n', k = n' + 1 := ⟨k - 1, by omega⟩
    rw [gX11_layHopes_L77, h4, w32_id (a := i) (by omega), w32_id (a := (G : Int)) (by omega), if_pos (by omega), w32_id (a := 512 * ((n : Int) + 1) + s) (by omega), gd_pos (by omega), show acc + sumN (hvI c w ch P G C n s) 0 i = acc from Int.add_zero acc]
  | succ m ih =>
    intro k acc i h1 h2 h3
    obtain ⟨k, rfl⟩ : ∃ n', k = n' + 1 := ⟨k - 1, by omega⟩
    have ob := oB_at (n := n) (by omega)
    have or := ovI_rng hC2 n
    have hf : ∀ x, 0 ≤ hpI c w ch P G C n x ∧ hpI c w ch P G C n x ≤ 200000000000000 := fun x => by
      have := hpI_rng (c := c) hw hP hG hch hC hC2 n x
      omega
    have fs := hf s
    have gf := lay_105 (F := F) (x1 := x1) (g := i) (s := s) (acc := acc) (n := n) (f := hpI c w ch P G C n) (c36 := c36) (c63 := c63) (c77 := gX11_layHopes_L77 F x1 c36 c63 k) hc hP h486 hfg h5 h7 (hch i h1 (by omega)) hw (by omega) hn hs ho (by omega) hr hf P F 0 (hpI c w ch P G C n s) (by omega) (by omega) (by omega)
    have e : sumN (hvI c w ch P G C n s) (m + 1) i = hvI c w ch P G C n s i + sumN (hvI c w ch P G C n s) m (i + 1) := rfl
    rw [gX11_layHopes_L77, h4, w32_id (a := i) (by omega), w32_id (a := (G : Int)) (by omega), if_neg (by omega), show 512 * ((n : Int) + 1 - 1) + s = 512 * n + s by omega, w32_id (a := 512 * (n : Int) + s) (by omega), gd_pos (by omega), hr s hs.1 hs.2, e, ← Int.add_assoc]
    refine gf.trans ?_
    rw [ih k _ (i + 1) (by omega) (by omega) (by omega)]
    rfl
theorem lay_63 {F : Nat} (hF : 1000 ≤ F) {x1 C : Int} {n : Nat} {c w ch : Int → Int} {P G : Nat} {c36 : Int → St → Option St} (hc : CapOK c P) (hP : P ≤ 6) (hG : G ≤ 9) (h486 : stI c P ≤ 486) (hch : ChOK ch G) (hC : C = sumN ch G 0) (hC2 : 0 ≤ C ∧ C ≤ 81) (hw : WOK w) (hn : n ≤ 5) : ∀ (m k : Nat) (i : Int) (σ : St), 0 ≤ i → i + m = stI c P → FgM σ c P → σ 143 4 = (G : Int) → σ 148 = w → σ 147 = ch → σ 172 n = ovI C n → (∀ x, 0 ≤ x → x < stI c P → σ 171 (512 * n + x) = hpI c w ch P G C n x) → m < k →
    ∃ σ', gX11_layHopes_L63 F x1 c36 k ((n : Int) + 1) i σ = c36 ((n : Int) + 1 + 1) σ' ∧ ∀ a b, σ' a b = if a = 171 ∧ 512 * ((n : Int) + 1) + i ≤ b ∧ b < 512 * ((n : Int) + 1) + stI c P then hpI c w ch P G C (n + 1) (b - 512 * ((n : Int) + 1)) else σ a b := by
  intro m
  induction m with
  | zero =>
    intro k i σ h1 h2 h3 h4 h5 h6 h7 h8 h9
    obtain ⟨k, rfl⟩ : ∃ n', k = n' + 1 := ⟨k - 1, by omega⟩
    exact ⟨σ, by rw [gX11_layHopes_L63, h3.2.1, w32_id (a := i) (by omega), w32_id (a := stI c P) (by omega), if_pos (by omega)], fun a b => by rw [if_neg (by omega)]⟩
  | succ m ih =>
    intro k i σ h1 h2 h3 h4 h5 h6 h7 h8 h9
    obtain ⟨k, rfl⟩ : ∃ n', k = n' + 1 := ⟨k - 1, by omega⟩
    have f77 := lay_77 (F := F) hF (x1 := x1) (s := i) (C := C) (n := n) (c36 := c36) (c63 := gX11_layHopes_L63 F x1 c36 k) (σ := σ) hc hP hG h486 h3 h4 h5 h6 hch hC hC2 hw hn ⟨h1, by omega⟩ h7 h8 G F 0 0 (by omega) (by omega) (by omega)
    rw [Int.zero_add] at f77
    have ev : sumN (hvI c w ch P G C n i) G 0 = hpI c w ch P G C (n + 1) i := rfl
    rw [ev] at f77
    have u : ∀ a b v, ¬ (a = 171 ∧ b = 512 * ((n : Int) + 1) + i) → up σ 171 (512 * ((n : Int) + 1) + i) v a b = σ a b := fun a b v q => by rw [up_at, if_neg q]
    have uc : ∀ a v, a ≠ 171 → up σ 171 (512 * ((n : Int) + 1) + i) v a = σ a := fun a v q => up_cell q
    obtain ⟨σ', d1, d2⟩ := ih k (i + 1) (up σ 171 (512 * ((n : Int) + 1) + i) (hpI c w ch P G C (n + 1) i)) (by omega) (by omega) (h3.frame (by rw [uc 143 _ (by omega)]) (by rw [uc 143 _ (by omega)]) (uc 167 _ (by omega)) (uc 168 _ (by omega))) (by rw [uc 143 _ (by omega)]; exact h4) (by rw [uc 148 _ (by omega)]; exact h5) (by rw [uc 147 _ (by omega)]; exact h6) (by rw [uc 172 _ (by omega)]; exact h7) (fun x y1 y2 => by rw [u 171 _ _ (by omega)]; exact h8 x y1 y2) (by omega)
    refine ⟨σ', ?_, fun a b => ?_⟩
    · rw [gX11_layHopes_L63, h3.2.1, w32_id (a := i) (by omega), w32_id (a := stI c P) (by omega), if_neg (by omega)]
      exact f77.trans d1
    · rw [d2]
      by_cases q : a = 171 ∧ b = 512 * ((n : Int) + 1) + i
      · obtain ⟨rfl, rfl⟩ := q
        have ei : 512 * ((n : Int) + 1) + i - 512 * ((n : Int) + 1) = i := by omega
        rw [if_neg (by omega), up_self, ei, if_pos (by omega)]
      · have k1 : (a = 171 ∧ 512 * ((n : Int) + 1) + (i + 1) ≤ b ∧ b < 512 * ((n : Int) + 1) + stI c P) = (a = 171 ∧ 512 * ((n : Int) + 1) + i ≤ b ∧ b < 512 * ((n : Int) + 1) + stI c P) := propext (by omega)
        rw [u a b _ q]
        simp only [k1]
theorem chanceSum_4 {F : Nat} {ch : Int → Int} {G : Nat} {σ : St} (hG : G ≤ 9) (h3 : σ 143 4 = (G : Int)) (h4 : σ 147 = ch) : ∀ (m k : Nat) (s i : Int), 0 ≤ i → i + m = G → m < k → gX11_chanceSum_L4 F σ k s i = some (s + sumN ch m i) := by
  intro m
  induction m with
  | zero =>
    intro k s i h1 h2 h5
    obtain ⟨k, rfl⟩ : ∃ n', k = n' + 1 := ⟨k - 1, by omega⟩
    rw [gX11_chanceSum_L4, h3, w32_id (a := i) (by omega), w32_id (a := (G : Int)) (by omega), if_pos (by omega), show s + sumN ch 0 i = s from Int.add_zero s]
  | succ m ih =>
    intro k s i h1 h2 h5
    obtain ⟨k, rfl⟩ : ∃ n', k = n' + 1 := ⟨k - 1, by omega⟩
    rw [gX11_chanceSum_L4, h3, w32_id (a := i) (by omega), w32_id (a := (G : Int)) (by omega), if_neg (by omega), gd_pos (by omega), h4, ih k _ (i + 1) (by omega) (by omega) (by omega), Int.add_assoc]
    rfl
theorem chanceSum_eq {F : Nat} (hF : 1000 ≤ F) {ch : Int → Int} {G : Nat} {σ : St} (hG : G ≤ 9) (h3 : σ 143 4 = (G : Int)) (h4 : σ 147 = ch) : gX11_chanceSum F σ = some (sumN ch G 0) := by
  unfold gX11_chanceSum
  rw [chanceSum_4 hG h3 h4 G F 0 0 (by omega) (by omega) (by omega), Int.zero_add]
theorem lay_36 {F : Nat} (hF : 1000 ≤ F) {C : Int} {N : Nat} {c w ch : Int → Int} {P G : Nat} (hc : CapOK c P) (hP : P ≤ 6) (hG : G ≤ 9) (h486 : stI c P ≤ 486) (hch : ChOK ch G) (hC : C = sumN ch G 0) (hC2 : 0 ≤ C ∧ C ≤ 81) (hw : WOK w) (hN : N ≤ 6) : ∀ (m k j : Nat) (σ : St), j + m = N → FgM σ c P → σ 143 4 = (G : Int) → σ 148 = w → σ 147 = ch → (∀ i : Nat, i ≤ j → σ 172 i = ovI C i ∧ ∀ x, 0 ≤ x → x < stI c P → σ 171 (512 * i + x) = hpI c w ch P G C i x) → m < k →
    ∃ σ', gX11_layHopes_L36 F N k ((j : Int) + 1) σ = some σ' ∧ (∀ i : Nat, i ≤ N → σ' 172 i = ovI C i ∧ ∀ x, 0 ≤ x → x < stI c P → σ' 171 (512 * i + x) = hpI c w ch P G C i x) ∧ ∀ a b, a ≠ 171 → a ≠ 172 → σ' a b = σ a b := by
  have pos := stI_pos hc P (Nat.le_refl _)
  intro m
  induction m with
  | zero =>
    intro k j σ h1 h3 h4 h5 h6 h7 h9
    obtain ⟨k, rfl⟩ : ∃ n', k = n' + 1 := ⟨k - 1, by omega⟩
    exact ⟨σ, by rw [gX11_layHopes_L36, w32_id (a := (j : Int) + 1) (by omega), w32_id (a := (N : Int)) (by omega), if_pos (by omega)], fun i hi => h7 i (by omega), fun _ _ _ _ => rfl⟩
  | succ m ih =>
    intro k j σ h1 h3 h4 h5 h6 h7 h9
    obtain ⟨k, rfl⟩ : ∃ n', k = n' + 1 := ⟨k - 1, by omega⟩
    obtain ⟨o1, o2⟩ := h7 j (by omega)
    have u : ∀ a b v, ¬ (a = 172 ∧ b = (j : Int) + 1) → up σ 172 ((j : Int) + 1) v a b = σ a b := fun a b v q => by rw [up_at, if_neg q]
    have uc : ∀ a v, a ≠ 172 → up σ 172 ((j : Int) + 1) v a = σ a := fun a v q => up_cell q
    obtain ⟨σ1, d1, d2⟩ := lay_63 (F := F) hF (x1 := N) (C := C) (n := j) (c36 := gX11_layHopes_L36 F N k) (w := w) (ch := ch) hc hP hG h486 hch hC hC2 hw (by omega) (stI c P).toNat F 0 (up σ 172 ((j : Int) + 1) (ovI C j * C)) (by omega) (by omega) (h3.frame (by rw [uc 143 _ (by omega)]) (by rw [uc 143 _ (by omega)]) (uc 167 _ (by omega)) (uc 168 _ (by omega))) (by rw [uc 143 _ (by omega)]; exact h4) (by rw [uc 148 _ (by omega)]; exact h5) (by rw [uc 147 _ (by omega)]; exact h6) (by rw [u 172 j _ (by omega)]; exact o1) (fun x y1 y2 => by rw [uc 171 _ (by omega)]; exact o2 x y1 y2) (by omega)
    have vo : ∀ a b, ¬ (a = 171 ∧ 512 * ((j : Int) + 1) ≤ b) → σ1 a b = up σ 172 ((j : Int) + 1) (ovI C j * C) a b := fun a b q => by rw [d2, if_neg (by omega)]
    have vc : ∀ a, a ≠ 171 → a ≠ 172 → σ1 a = σ a := fun a q1 q2 => by funext b; rw [vo a b (by omega), uc a _ q2]
    obtain ⟨σ', e1, e2, e3⟩ := ih k (j + 1) σ1 (by omega) (h3.frame (by rw [vc 143 (by omega) (by omega)]) (by rw [vc 143 (by omega) (by omega)]) (vc 167 (by omega) (by omega)) (vc 168 (by omega) (by omega))) (by rw [vc 143 (by omega) (by omega)]; exact h4) (by rw [vc 148 (by omega) (by omega)]; exact h5) (by rw [vc 147 (by omega) (by omega)]; exact h6) (fun i hi => by
      by_cases z : i = j + 1
      · subst z
        refine ⟨?_, fun x y1 y2 => ?_⟩
        · rw [vo 172 _ (by omega), show ((j + 1 : Nat) : Int) = (j : Int) + 1 by omega, up_self]; rfl
        · have ex : 512 * ((j + 1 : Nat) : Int) + x = 512 * ((j : Int) + 1) + x := by omega
          have ei : 512 * ((j : Int) + 1) + x - 512 * ((j : Int) + 1) = x := by omega
          rw [ex, d2, ei, if_pos (by omega)]
      · obtain ⟨w1, w2⟩ := h7 i (by omega)
        refine ⟨by rw [vo 172 _ (by omega), u 172 _ _ (by omega)]; exact w1, fun x y1 y2 => ?_⟩
        rw [vo 171 _ (by omega), uc 171 _ (by omega)]
        exact w2 x y1 y2) (by omega)
    have hCw : w32 C = C := w32_id (by omega)
    refine ⟨σ', ?_, e2, fun a b y1 y2 => by rw [e3 a b y1 y2, vc a y1 y2]⟩
    rw [gX11_layHopes_L36, w32_id (a := (j : Int) + 1) (by omega), w32_id (a := (N : Int)) (by omega), if_neg (by omega), show (j : Int) + 1 - 1 = j by omega, w32_id (a := (j : Int)) (by omega), gd_pos (by omega), chanceSum_eq hF hG h4 h6, Option.bind_some, gd_pos (by omega), ← hC, o1, hCw]
    exact d1.trans e1
theorem lay_13 {F : Nat} {x1 S : Int} (hS : S ≤ 486) : ∀ (m k : Nat) (i : Int) (σ : St), 0 ≤ i → i + m = S → σ 143 40 = S → m < k → ∃ σ', gX11_layHopes_L13 F x1 k i σ = gX11_layHopes_L36 F x1 F 1 σ' ∧ ∀ a b, σ' a b = if a = 171 ∧ i ≤ b ∧ b < S then 0 else σ a b := by
  intro m
  induction m with
  | zero =>
    intro k i σ h1 h2 h3 h4
    obtain ⟨k, rfl⟩ : ∃ n', k = n' + 1 := ⟨k - 1, by omega⟩
    exact ⟨σ, by rw [gX11_layHopes_L13, h3, w32_id (a := i) (by omega), w32_id (a := S) (by omega), if_pos (by omega)], fun a b => by rw [if_neg (by omega)]⟩
  | succ m ih =>
    intro k i σ h1 h2 h3 h4
    obtain ⟨k, rfl⟩ : ∃ n', k = n' + 1 := ⟨k - 1, by omega⟩
    obtain ⟨σ', d1, d2⟩ := ih k (i + 1) (up σ 171 i 0) (by omega) (by omega) (by rw [up_at, if_neg (by omega)]; exact h3) (by omega)
    refine ⟨σ', by rw [gX11_layHopes_L13, h3, w32_id (a := i) (by omega), w32_id (a := S) (by omega), if_neg (by omega), gd_pos (by omega)]; exact d1, fun a b => ?_⟩
    rw [d2, up_at]
    by_cases q : a = 171 ∧ b = i
    · rw [if_neg (by omega), if_pos q, if_pos (by omega)]
    · have k1 : (a = 171 ∧ i + 1 ≤ b ∧ b < S) = (a = 171 ∧ i ≤ b ∧ b < S) := propext (by omega)
      simp only [if_neg q, k1]
/-- the reference's hopes, from a store that has the board of σ -/
theorem layHopes_eq {F n : Nat} (hF : 1000 ≤ F) {σ s : St} {N : Nat} (hB : InvB n σ) (hN : N ≤ 6) (hs : ∀ a b, supB a b → s a b = σ a b) : ∃ τ, gX11_layHopes F s N = some τ ∧ FgM τ (σ 2) (σ 1 5).toNat ∧ τ 148 = σ 6 ∧ (∀ i : Nat, i ≤ N → τ 172 i = ovI (chS σ) i ∧ ∀ x, 0 ≤ x → x < stI (σ 2) (σ 1 5).toNat → τ 171 (512 * i + x) = hpI (σ 2) (σ 6) (σ 5) (σ 1 5).toNat (σ 1 6).toNat (chS σ) i x) ∧ ∀ a b, ¬ (a = 143 ∧ b = 40) → ¬ (167 ≤ a ∧ a ≤ 168) → ¬ (171 ≤ a ∧ a ≤ 172) → τ a b = s a b := by
  obtain ⟨⟨p1, p2, p3⟩, ⟨g1, g2, g3⟩, v1, ⟨c1, c2, c3, c4, c5⟩, -⟩ := id hB
  obtain ⟨hc, hP, h324, hw⟩ := hB.caps
  obtain ⟨hch, hC1, hC2⟩ := hB.chs
  have pos := stI_pos hc (σ 1 5).toNat (Nat.le_refl _)
  obtain ⟨τ0, a1, a2, a3, a4, a5⟩ := hB.figs hF hs
  have a147 : τ0 147 = σ 5 := by funext y; rw [a5 147 y (by omega) (by omega) (by omega), hs 147 y (by unfold supB; omega), c4]
  have uc : ∀ a, a ≠ 172 → up τ0 172 0 1 a = τ0 a := fun a z => up_cell z
  obtain ⟨τ1, b1', b2⟩ := lay_13 (F := F) (x1 := N) (S := stI (σ 2) (σ 1 5).toNat) (by omega) (stI (σ 2) (σ 1 5).toNat).toNat F 0 (up τ0 172 0 1) (by omega) (by omega) (by rw [uc 143 (by omega)]; exact a2.2.1) (by omega)
  have bc : ∀ a, a ≠ 171 → τ1 a = up τ0 172 0 1 a := fun a z => by funext y; rw [b2, if_neg (by omega)]
  have cc : ∀ a, a ≠ 171 → a ≠ 172 → τ1 a = τ0 a := fun a y1 y2 => by rw [bc a y1, uc a y2]
  obtain ⟨τ, d1, d2, d3⟩ := lay_36 (F := F) hF (C := chS σ) (N := N) (w := σ 6) (ch := σ 5) (G := (σ 1 6).toNat) hc hP (by omega) (by omega) hch rfl ⟨hC1, hC2⟩ hw hN N F 0 τ1 (by omega) (a2.frame (by rw [cc 143 (by omega) (by omega)]) (by rw [cc 143 (by omega) (by omega)]) (cc 167 (by omega) (by omega)) (cc 168 (by omega) (by omega))) (by rw [cc 143 (by omega) (by omega), a3]; omega) (by rw [cc 148 (by omega) (by omega)]; exact a4) (by rw [cc 147 (by omega) (by omega)]; exact a147) (fun i hi => by
    have i0 : i = 0 := by omega
    subst i0
    refine ⟨by rw [bc 172 (by omega)]; exact up_self _ _ _ _, fun x y1 y2 => ?_⟩
    have ex : 512 * ((0 : Nat) : Int) + x = x := by omega
    rw [ex, b2, if_pos ⟨rfl, y1, y2⟩]; rfl) (by omega)
  have dc : ∀ a, a ≠ 171 → a ≠ 172 → τ a = τ0 a := fun a y1 y2 => by funext y; rw [d3 a y y1 y2, cc a y1 y2]
  refine ⟨τ, ?_, a2.frame (by rw [dc 143 (by omega) (by omega)]) (by rw [dc 143 (by omega) (by omega)]) (dc 167 (by omega) (by omega)) (dc 168 (by omega) (by omega)), by rw [dc 148 (by omega) (by omega)]; exact a4, d2, fun a y y1 y2 y3 => by rw [dc a (by omega) (by omega), a5 a y y1 (by omega) (by omega)]⟩
  unfold gX11_layHopes
  rw [a1, Option.bind_some, gd_pos (by omega), b1']
  exact d1
