-- PURE LAYER: rooms, on both sides
def ShI (σ : St) (k : Int) (c : Int → Int) (p : Nat) : Prop :=
  (∀ q : Nat, q < p → σ (k + 1) q = stI c q) ∧ σ k 3 = stI c p ∧ ∀ s, 0 ≤ s → s < stI c p → σ (k + 2) s = ((opN c p s : Nat) : Int) ∧ σ (k + 3) s = frI c p s
theorem shape_21 {F : Nat} (hF : 1000 ≤ F) {k x1 x2 : Int} {c : Int → Int} {P : Nat} (hc : CapOK c P) (hP : P ≤ 6) (h486 : stI c P ≤ 486) (hx : x2 = -4 ∨ 0 ≤ x2 ∧ x2 < 6) (hk : ¬ (k ≤ x1 ∧ x1 ≤ k + 3) ∧ ¬ (k ≤ x1 + 1 ∧ x1 + 1 ≤ k + 3)) : ∀ (m n p : Nat) (σ : St), p + m = P → ShI σ k c p → σ x1 5 = (P : Int) → (∀ q : Nat, q < P → σ (x1 + 1) q + (if (q : Int) = x2 then 1 else 0) = c q) → m < n →
    ∃ σ', gX4_shape_L21 F k x1 x2 n p σ = some σ' ∧ ShI σ' k c P ∧ ∀ a b, ¬ (a = k ∧ b = 3) → ¬ (k + 1 ≤ a ∧ a ≤ k + 3) → σ' a b = σ a b := by
  intro m
  induction m with
  | zero =>
    intro n p σ h1 h2 h3 h4 h5
    obtain ⟨n, rfl⟩ : ∃ n', n = n' + 1 := ⟨n - 1, by omega⟩
    have ep : p = P := by omega
    subst ep
    refine ⟨σ, by rw [gX4_shape_L21, h3, w32_id (a := (p : Int)) (by omega), if_pos (by omega)], h2, fun _ _ _ _ => rfl⟩
  | succ m ih =>
    intro n p σ h1 h2 h3 h4 h5
    obtain ⟨n, rfl⟩ : ∃ n', n = n' + 1 := ⟨n - 1, by omega⟩
    obtain ⟨a1, a2, a3⟩ := h2
    have hcp := hc p (by omega)
    have T0 := stI_pos hc p (by omega)
    have es : stI c (p + 1) = stI c p * (c p + 1) := rfl
    have le1 := stI_le hc (p := p + 1) (q := P) (by omega) (by omega)
    have u : ∀ a b, ¬ (a = k + 1 ∧ b = (p : Int)) → up σ (k + 1) p (σ k 3) a b = σ a b := fun a b q => by rw [up_at, if_neg q]
    have ux : up σ (k + 1) p (σ k 3) (x1 + 1) p = σ (x1 + 1) p := u _ _ (by omega)
    obtain ⟨σ1, e1, f1⟩ := shape_61 (F := F) hF (k := k) (x1 := x1) (x2 := x2) (c21 := gX4_shape_L21 F k x1 x2 n) (p := p) (C := c p) (T := stI c p) (by omega) (by omega) ⟨T0, by omega⟩ (c p).toNat F 1 (up σ (k + 1) p (σ k 3)) (by omega) (by omega) (by rw [up_self, a2]) (by omega)
    have fo : ∀ a b, ¬ (a = k ∧ b = 3) → ¬ (k + 1 ≤ a ∧ a ≤ k + 3) → up σ1 k 3 (stI c p * (c p + 1)) a b = σ a b := fun a b y1 y2 => by rw [up_at, if_neg y1, f1, if_neg (by omega), if_neg (by omega), u a b (by omega)]
    have sh : ShI (up σ1 k 3 (stI c p * (c p + 1))) k c (p + 1) := by
      refine ⟨fun q hq => ?_, by rw [up_self, es], fun s y1 y2 => ?_⟩
      · rw [up_at, if_neg (by omega), f1, if_neg (by omega), if_neg (by omega)]
        by_cases z : q = p
        · rw [z, up_self, a2]
        · rw [u _ _ (by omega)]; exact a1 q (by omega)
      · rw [es] at y2
        have m0 : 0 ≤ s % stI c p := Int.emod_nonneg _ (by omega)
        have ml := Int.emod_lt_of_pos s T0
        obtain ⟨b1', b2⟩ := a3 (s % stI c p) m0 ml
        have e2 : opN c (p + 1) s = if s / stI c p = 0 then opN c p (s % stI c p) else opN c p (s % stI c p) ||| 2 ^ p := rfl
        have e3 : frI c (p + 1) s = frI c p (s % stI c p) + s / stI c p := rfl
        have g2 : up σ1 k 3 (stI c p * (c p + 1)) (k + 2) s = σ1 (k + 2) s := by rw [up_at, if_neg (by omega)]
        have g3 : up σ1 k 3 (stI c p * (c p + 1)) (k + 3) s = σ1 (k + 3) s := by rw [up_at, if_neg (by omega)]
        rw [e2, e3, g2, g3]
        by_cases z : stI c p ≤ s
        · have d0 : ¬ s / stI c p = 0 := fun w => by
            have := Int.mul_ediv_add_emod s (stI c p)
            rw [w] at this
            omega
          have ob := (opN_bits hc hP p (s % stI c p) (by omega) m0 ml).1
          have p6 : 2 ^ p ≤ 2 ^ 6 := pow_le2 (by omega)
          have v2 : σ1 (k + 2) s = ior (σ (k + 2) (s % stI c p)) (ishl 1 p) := by rw [f1, if_pos (by omega), u (k + 2) _ (by omega)]
          have v3 : σ1 (k + 3) s = σ (k + 3) (s % stI c p) + s / stI c p := by rw [f1, if_neg (by omega), if_pos (by omega), u (k + 3) _ (by omega)]
          rw [v2, v3, if_neg d0, b1', b2, (tabA_at (d := p) (by omega) (by omega)).1]
          exact ⟨rfl, rfl⟩
        · have d0 : s / stI c p = 0 := Int.ediv_eq_zero_of_lt y1 (by omega)
          have d1 : s % stI c p = s := Int.emod_eq_of_lt y1 (by omega)
          rw [d1] at b1' b2
          have v2 : σ1 (k + 2) s = σ (k + 2) s := by rw [f1, if_neg (by omega), if_neg (by omega), u (k + 2) _ (by omega)]
          have v3 : σ1 (k + 3) s = σ (k + 3) s := by rw [f1, if_neg (by omega), if_neg (by omega), u (k + 3) _ (by omega)]
          rw [v2, v3, if_pos d0, d0, d1, b1', b2, Int.add_zero]
          exact ⟨rfl, rfl⟩
    obtain ⟨σ', d1, d2, d3⟩ := ih n (p + 1) (up σ1 k 3 (stI c p * (c p + 1))) (by omega) sh (by rw [fo x1 5 (by omega) (by omega)]; exact h3) (fun q hq => by rw [fo (x1 + 1) q (by omega) (by omega)]; exact h4 q hq) (by omega)
    refine ⟨σ', ?_, d2, fun a b y1 y2 => by rw [d3 a b y1 y2, fo a b y1 y2]⟩
    have h4p := h4 p (by omega)
    rw [gX4_shape_L21, h3, w32_id (a := (p : Int)) (by omega), w32_id (a := (P : Int)) (by omega), if_neg (by omega), gd_pos (by omega), gd_pos (by omega), w32_id (a := x2) (by omega), ux]
    unfold gX4_shape_L55
    have d1' : gX4_shape_L61 F k x1 x2 (gX4_shape_L21 F k x1 x2 n) F p (c p) 1 (up σ (k + 1) p (σ k 3)) = some σ' := by
      rw [e1, ← d1]; rfl
    by_cases z : (p : Int) = x2
    · rw [if_neg (fun w => w z)]
      rw [if_pos z] at h4p
      rw [h4p]; exact d1'
    · rw [if_pos z]
      rw [if_neg z] at h4p
      rw [h4p]; exact d1'
theorem shape_eq {F : Nat} (hF : 1000 ≤ F) {σ : St} {k x1 x2 : Int} {c : Int → Int} {P : Nat} (hc : CapOK c P) (hP : P ≤ 6) (h486 : stI c P ≤ 486) (hx : x2 = -4 ∨ 0 ≤ x2 ∧ x2 < 6) (hk : ¬ (k ≤ x1 ∧ x1 ≤ k + 3) ∧ ¬ (k ≤ x1 + 1 ∧ x1 + 1 ≤ k + 3)) (h3 : σ x1 5 = (P : Int)) (h4 : ∀ q : Nat, q < P → σ (x1 + 1) q + (if (q : Int) = x2 then 1 else 0) = c q) :
    ∃ σ', gX4_shape F σ k x1 x2 = some σ' ∧ ShI σ' k c P ∧ ∀ a b, ¬ (a = k ∧ b = 3) → ¬ (k + 1 ≤ a ∧ a ≤ k + 3) → σ' a b = σ a b := by
  have t : ∀ a b, up (up (up σ k 3 1) (k + 2) 0 0) (k + 3) 0 0 a b = if a = k + 3 ∧ b = 0 then 0 else if a = k + 2 ∧ b = 0 then 0 else if a = k ∧ b = 3 then 1 else σ a b := fun a b => rfl
  have fo : ∀ a b, ¬ (a = k ∧ b = 3) → ¬ (k + 1 ≤ a ∧ a ≤ k + 3) → up (up (up σ k 3 1) (k + 2) 0 0) (k + 3) 0 0 a b = σ a b := fun a b y1 y2 => by rw [t, if_neg (by omega), if_neg (by omega), if_neg y1]
  have s0 : ShI (up (up (up σ k 3 1) (k + 2) 0 0) (k + 3) 0 0) k c 0 := by
    refine ⟨fun q hq => by omega, by rw [t, if_neg (by omega), if_neg (by omega), if_pos ⟨rfl, rfl⟩]; rfl, fun s y1 y2 => ?_⟩
    have z : s = 0 := by
      have : stI c 0 = 1 := rfl
      omega
    subst z
    rw [t, t, if_neg (by omega), if_pos ⟨rfl, rfl⟩, if_pos ⟨rfl, rfl⟩]
    exact ⟨rfl, rfl⟩
  obtain ⟨σ', d1, d2, d3⟩ := shape_21 (F := F) hF hc hP h486 hx hk P F 0 _ (by omega) s0 (by rw [fo x1 5 (by omega) (by omega)]; exact h3) (fun q hq => by rw [fo (x1 + 1) q (by omega) (by omega)]; exact h4 q hq) (by omega)
  refine ⟨σ', ?_, d2, fun a b y1 y2 => by rw [d3 a b y1 y2, fo a b y1 y2]⟩
  unfold gX4_shape
  rw [gd_pos (by decide), gd_pos (by decide)]
  exact d1
theorem isOpen_eq {σ : St} {k : Int} {c : Int → Int} {P q : Nat} {s : Int} (hc : CapOK c P) (hP : P ≤ 6) (h486 : stI c P ≤ 486) (h : ShI σ k c P) (hs : 0 ≤ s ∧ s < stI c P) (hq : q < P) : gX4_isOpen σ k s q = some (tv (0 < dgI c q s)) := by
  obtain ⟨a1, a2, a3⟩ := h
  obtain ⟨o1, o2⟩ := opN_bits hc hP P s (Nat.le_refl _) hs.1 hs.2
  have p6 : 2 ^ P ≤ 2 ^ 6 := pow_le2 hP
  unfold gX4_isOpen
  rw [w32_id (a := s) (by omega), gd_pos (by omega), (a3 s hs.1 hs.2).1, (tabA_at (x := opN c P s) (d := q) (by omega) (by omega)).2, o2 q hq]
  by_cases z : 0 < dgI c q s
  · rw [if_pos z, tv_pos z]; rfl
  · rw [if_neg z, tv_neg z]; rfl
/-- the reference's figures -/
def FgM (σ : St) (c : Int → Int) (P : Nat) : Prop := σ 143 0 = (P : Int) ∧ σ 143 40 = stI c P ∧ ∀ q : Nat, q < P → σ 168 q = stI c q ∧ σ 167 q = c q
theorem layFigures_7 {F : Nat} {c : Int → Int} {P : Nat} (hc : CapOK c P) (hP : P ≤ 6) : ∀ (m n p : Nat) (σ : St), p + m = P → σ 143 0 = (P : Int) → σ 143 40 = stI c p → (∀ q : Nat, q < p → σ 168 q = stI c q) → (∀ q : Nat, q < P → σ 167 q = c q) → m < n →
    ∃ σ', gX11_layFigures_L7 F n p σ = some σ' ∧ FgM σ' c P ∧ ∀ a b, ¬ (a = 143 ∧ b = 40) → a ≠ 168 → σ' a b = σ a b := by
  intro m
  induction m with
  | zero =>
    intro n p σ h1 h2 h3 h4 h5 h6
    obtain ⟨n, rfl⟩ : ∃ n', n = n' + 1 := ⟨n - 1, by omega⟩
    have ep : p = P := by omega
    subst ep
    exact ⟨σ, by rw [gX11_layFigures_L7, h2, w32_id (a := (p : Int)) (by omega), if_pos (by omega)], ⟨h2, h3, fun q hq => ⟨h4 q hq, h5 q hq⟩⟩, fun _ _ _ _ => rfl⟩
  | succ m ih =>
    intro n p σ h1 h2 h3 h4 h5 h6
    obtain ⟨n, rfl⟩ : ∃ n', n = n' + 1 := ⟨n - 1, by omega⟩
    have e1 : up σ 168 p (σ 143 40) 143 40 = σ 143 40 := by rw [up_at, if_neg (by omega)]
    have e2 : up σ 168 p (σ 143 40) 167 p = c p := by rw [up_at, if_neg (by omega)]; exact h5 p (by omega)
    have u : ∀ a b, ¬ (a = 143 ∧ b = 40) → ¬ (a = 168 ∧ b = (p : Int)) → up (up σ 168 p (σ 143 40)) 143 40 (σ 143 40 * (c p + 1)) a b = σ a b := fun a b y1 y2 => by rw [up_at, if_neg y1, up_at, if_neg y2]
    obtain ⟨σ', d1, d2, d3⟩ := ih n (p + 1) (up (up σ 168 p (σ 143 40)) 143 40 (σ 143 40 * (c p + 1))) (by omega) (by rw [u 143 0 (by omega) (by omega)]; exact h2) (by rw [up_self, h3]; rfl) (fun q hq => by
      by_cases z : q = p
      · rw [z, up_at, if_neg (by omega), up_self, h3]
      · rw [u 168 q (by omega) (by omega)]; exact h4 q (by omega)) (fun q hq => by rw [u 167 q (by omega) (by omega)]; exact h5 q hq) (by omega)
    refine ⟨σ', ?_, d2, fun a b y1 y2 => by rw [d3 a b y1 y2, u a b y1 (by omega)]⟩
    rw [gX11_layFigures_L7, h2, w32_id (a := (p : Int)) (by omega), w32_id (a := (P : Int)) (by omega), if_neg (by omega), gd_pos (by omega), gd_pos (by omega), e1, e2]
    exact d1
theorem layFigures_eq {F : Nat} (hF : 1000 ≤ F) {σ : St} {c : Int → Int} {P : Nat} (hc : CapOK c P) (hP : P ≤ 6) (h2 : σ 143 0 = (P : Int)) (h5 : ∀ q : Nat, q < P → σ 167 q = c q) : ∃ σ', gX11_layFigures F σ = some σ' ∧ FgM σ' c P ∧ ∀ a b, ¬ (a = 143 ∧ b = 40) → a ≠ 168 → σ' a b = σ a b := by
  obtain ⟨σ', d1, d2, d3⟩ := layFigures_7 (F := F) hc hP P F 0 (up σ 143 40 1) (by omega) (by rw [up_at, if_neg (by omega)]; exact h2) (by rw [up_self]; rfl) (fun q hq => by omega) (fun q hq => by rw [up_at, if_neg (by omega)]; exact h5 q hq) (by omega)
  exact ⟨σ', d1, d2, fun a b y1 y2 => by rw [d3 a b y1 y2, up_at, if_neg y1]⟩
theorem capsAs_2 {F : Nat} (hF : 1000 ≤ F) {c : Int → Int} {P : Nat} (hc : CapOK c P) (hP : P ≤ 6) : ∀ (m n p : Nat) (σ : St), p + m = P → σ 143 0 = (P : Int) → (∀ q : Nat, q < P → σ 144 q = c q) → (∀ q : Nat, q < p → σ 167 q = c q) → m < n →
    ∃ σ', gX11_capsAsRooms_L2 F n p σ = some σ' ∧ FgM σ' c P ∧ ∀ a b, ¬ (a = 143 ∧ b = 40) → a ≠ 167 → a ≠ 168 → σ' a b = σ a b := by
  intro m
  induction m with
  | zero =>
    intro n p σ h1 h2 h3 h4 h6
    obtain ⟨n, rfl⟩ : ∃ n', n = n' + 1 := ⟨n - 1, by omega⟩
    have ep : p = P := by omega
    subst ep
    obtain ⟨σ', d1, d2, d3⟩ := layFigures_eq hF hc hP h2 h4
    exact ⟨σ', by rw [gX11_capsAsRooms_L2, h2, w32_id (a := (p : Int)) (by omega), if_pos (by omega), d1, Option.bind_some], d2, fun a b y1 _ y3 => d3 a b y1 y3⟩
  | succ m ih =>
    intro n p σ h1 h2 h3 h4 h6
    obtain ⟨n, rfl⟩ : ∃ n', n = n' + 1 := ⟨n - 1, by omega⟩
    have u : ∀ a b, ¬ (a = 167 ∧ b = (p : Int)) → up σ 167 p (σ 144 p) a b = σ a b := fun a b y => by rw [up_at, if_neg y]
    obtain ⟨σ', d1, d2, d3⟩ := ih n (p + 1) (up σ 167 p (σ 144 p)) (by omega) (by rw [u 143 0 (by omega)]; exact h2) (fun q hq => by rw [u 144 q (by omega)]; exact h3 q hq) (fun q hq => by
      by_cases z : q = p
      · rw [z, up_self]; exact h3 p (by omega)
      · rw [u 167 q (by omega)]; exact h4 q (by omega)) (by omega)
    refine ⟨σ', ?_, d2, fun a b y1 y2 y3 => by rw [d3 a b y1 y2 y3, u a b (by omega)]⟩
    rw [gX11_capsAsRooms_L2, h2, w32_id (a := (p : Int)) (by omega), w32_id (a := (P : Int)) (by omega), if_neg (by omega), gd_pos (by omega), gd_pos (by omega)]
    exact d1
theorem capsAs_eq {F : Nat} (hF : 1000 ≤ F) {σ : St} {c : Int → Int} {P : Nat} (hc : CapOK c P) (hP : P ≤ 6) (h2 : σ 143 0 = (P : Int)) (h5 : ∀ q : Nat, q < P → σ 144 q = c q) : ∃ σ', gX11_capsAsRooms F σ = some σ' ∧ FgM σ' c P ∧ ∀ a b, ¬ (a = 143 ∧ b = 40) → a ≠ 167 → a ≠ 168 → σ' a b = σ a b :=
  capsAs_2 (F := F) hF hc hP P F 0 σ (by omega) h2 h5 (fun q hq => by omega) (by omega)
theorem hasRoom_eq {σ : St} {c : Int → Int} {P q : Nat} {s : Int} (hc : CapOK c P) (hP : P ≤ 6) (h486 : stI c P ≤ 486) (h : FgM σ c P) (hs : 0 ≤ s ∧ s < stI c P) (hq : q < P) : gX11_hasRoom σ s q = some (tv (0 < dgI c q s)) := by
  obtain ⟨a1, a2, a3⟩ := h
  obtain ⟨b1', b2⟩ := a3 q hq
  have hcq := hc q hq
  have s0 := stI_pos hc q (by omega)
  have sl := stI_le hc (p := q) (q := P) (by omega) (by omega)
  have d0 : 0 ≤ s / stI c q := Int.ediv_nonneg hs.1 (by omega)
  have d1 : s / stI c q ≤ s := Int.ediv_le_self _ hs.1
  unfold gX11_hasRoom
  rw [w32_id (a := (q : Int)) (by omega), gd_pos (by omega), b1', b2, w32_id (a := stI c q) (by omega), gd_pos (by omega), gd_pos (by omega), w32_id (a := c q + 1) (by omega), gd_pos (by omega), idv_eq (by omega) (by omega), irm_eq (by omega) (by omega)]
  show (if dgI c q s ≤ 0 then some 0 else some 1) = _
  by_cases z : 0 < dgI c q s
  · rw [if_neg (by omega), tv_pos z]
  · rw [if_pos (by omega), tv_neg z]
