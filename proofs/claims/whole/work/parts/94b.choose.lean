-- PURE LAYER: the choice, class
def RuC (σ : St) (x : Int) : Prop := (1 ≤ σ x 8 ∧ σ x 8 ≤ 6) ∧ (∀ i, 0 ≤ i → i < σ x 8 → (0 ≤ σ (x + 1) i ∧ σ (x + 1) i ≤ 5) ∧ (σ (x + 2) i = 0 ∨ σ (x + 2) i = 1)) ∧ (0 ≤ σ x 9 ∧ σ x 9 ≤ 4) ∧ (∀ i, 0 ≤ i → i < σ x 9 → (0 ≤ σ (x + 3) i ∧ σ (x + 3) i ≤ 5) ∧ (σ (x + 4) i = 0 ∨ σ (x + 4) i = 1) ∧ (0 ≤ σ (x + 5) i ∧ σ (x + 5) i ≤ 999)) ∧ (σ x 10 = 0 ∨ σ x 10 = 1)
theorem RuleOK.cls {σ : St} {r : Int} (h : RuleOK σ r) : RuC σ (63 + 12 * r) := by
  obtain ⟨h1, h2, h3, h4, h5⟩ := h
  refine ⟨⟨h1.1, h1.2.1⟩, fun i q1 q2 => ?_, ⟨h3.1, h3.2.1⟩, fun i q1 q2 => ?_, h5.1⟩
  · rw [show 63 + 12 * r + 1 = 64 + 12 * r by omega, show 63 + 12 * r + 2 = 65 + 12 * r by omega]
    exact ⟨(h2 i q1 q2).1, (h2 i q1 q2).2.1⟩
  · rw [show 63 + 12 * r + 3 = 66 + 12 * r by omega, show 63 + 12 * r + 4 = 67 + 12 * r by omega, show 63 + 12 * r + 5 = 68 + 12 * r by omega]
    obtain ⟨k1, k2, k3, k4, k5⟩ := h4 i q1 q2
    exact ⟨k1, by rcases k3 with z | z; exact Or.inr z.1; exact Or.inl z.1, k4⟩
def pPass (key tk tb tn : Int → Int) : Nat → Int → Int
  | 0, _ => 1
  | m + 1, i => if tb i = 0 then (if key (tk i) > tn i then pPass key tk tb tn m (i + 1) else 0) else (if key (tk i) < tn i then pPass key tk tb tn m (i + 1) else 0)
def pAhd (k1 k2 kk kl : Int → Int) : Nat → Int → Int
  | 0, _ => 0
  | m + 1, i => if k1 (kk i) = k2 (kk i) then pAhd k1 k2 kk kl m (i + 1) else if kl i = 0 then (if k1 (kk i) ≤ k2 (kk i) then 0 else 1) else (if k1 (kk i) ≥ k2 (kk i) then 0 else 1)
def pCan (room paid budget pair seq w : Int → Int) (G : Nat) (drops g p : Int) : Int :=
  if 0 < w (6 * g + p) ∧ paid p < budget p ∧ (0 < room p - cntN pair p ∨ (drops ≠ 0 ∧ pWk pair seq w p G (-4) 0 ≠ -4 ∧ w (6 * pWk pair seq w p G (-4) 0 + p) < w (6 * g + p))) then 1 else 0
def pCh (can pass : Int → Int) (ahead : Int → Int → Int) : Nat → Int → Int → Int
  | 0, x, _ => x
  | m + 1, x, i => pCh can pass ahead m (if can i ≠ 0 ∧ pass i ≠ 0 ∧ (x = -4 ∨ ahead i x ≠ 0) then i else x) (i + 1)
theorem pPass_01 (key tk tb tn : Int → Int) : ∀ (m : Nat) (i : Int), pPass key tk tb tn m i = 0 ∨ pPass key tk tb tn m i = 1 := by
  intro m
  induction m with
  | zero => intro i; exact Or.inr rfl
  | succ m ih =>
    intro i
    unfold pPass
    repeat (first | exact ih (i + 1) | exact Or.inl rfl | split)
theorem pAhd_01 (k1 k2 kk kl : Int → Int) : ∀ (m : Nat) (i : Int), pAhd k1 k2 kk kl m i = 0 ∨ pAhd k1 k2 kk kl m i = 1 := by
  intro m
  induction m with
  | zero => intro i; exact Or.inl rfl
  | succ m ih =>
    intro i
    unfold pAhd
    repeat (first | exact ih (i + 1) | exact Or.inl rfl | exact Or.inr rfl | split)
/-- the key of kind t for guest g at p, in run k -/
def kC (σ : St) (k g p t : Int) : Int := pKey (σ (bd k + 1)) (σ (bd k + 2)) (σ (k + 2)) (σ (k + 3)) (σ (bd k + 5)) t g p
theorem passC_eq {F : Nat} {σ : St} {k g p x : Int} (hB : BdOK σ (bd k)) (hS : StOK σ k) (hR : RuC σ x) (hg : 0 ≤ g ∧ g < 9) (hp : 0 ≤ p ∧ p < σ (bd k) 5) : ∀ (m n : Nat) (i : Int), 0 ≤ i → i + m = σ x 9 → m < n → gX7_passes_L3 F σ k g p x n i = some (pPass (kC σ k g p) (σ (x + 3)) (σ (x + 4)) (σ (x + 5)) m i) := by
  obtain ⟨-, -, a3, a4, -⟩ := hR
  intro m
  induction m with
  | zero =>
    intro n i h1 h2 h3
    obtain ⟨n, rfl⟩ : ∃ n', n = n' + 1 := ⟨n - 1, by omega⟩
    rw [gX7_passes_L3, w32_id (a := i) (by omega), w32_id (a := σ x 9) (by omega), if_pos (by omega)]
    rfl
  | succ m ih =>
    intro n i h1 h2 h3
    obtain ⟨n, rfl⟩ : ∃ n', n = n' + 1 := ⟨n - 1, by omega⟩
    obtain ⟨b1', b2, b3⟩ := a4 i h1 (by omega)
    have kr := pKey_rng (kind := σ (x + 3) i) hB hS hg hp
    have e : pPass (kC σ k g p) (σ (x + 3)) (σ (x + 4)) (σ (x + 5)) (m + 1) i = if σ (x + 4) i = 0 then (if kC σ k g p (σ (x + 3) i) > σ (x + 5) i then pPass (kC σ k g p) (σ (x + 3)) (σ (x + 4)) (σ (x + 5)) m (i + 1) else 0) else (if kC σ k g p (σ (x + 3) i) < σ (x + 5) i then pPass (kC σ k g p) (σ (x + 3)) (σ (x + 4)) (σ (x + 5)) m (i + 1) else 0) := rfl
    rw [gX7_passes_L3, w32_id (a := i) (by omega), w32_id (a := σ x 9) (by omega), if_neg (by omega), gd_pos (by omega), keyC_eq hB hS b1' hg hp, Option.bind_some, gd_pos (by omega), gd_pos (by omega), w32_id (a := σ (x + 4) i) (by omega), w32_id (a := σ (x + 5) i) (by omega), w32_id (by omega), e]
    unfold gX7_passes_L65
    rw [ih n (i + 1) (by omega) (by omega) (by omega)]
    unfold kC
    repeat (first | rfl | split)
theorem aheadC_eq {F : Nat} {σ : St} {k g p q x : Int} (hB : BdOK σ (bd k)) (hS : StOK σ k) (hR : RuC σ x) (hg : 0 ≤ g ∧ g < 9) (hp : 0 ≤ p ∧ p < σ (bd k) 5) (hq : 0 ≤ q ∧ q < σ (bd k) 5) : ∀ (m n : Nat) (i : Int), 0 ≤ i → i + m = σ x 8 → m < n → gX7_isAhead_L3 F σ k g p q x n i = some (pAhd (kC σ k g p) (kC σ k g q) (σ (x + 1)) (σ (x + 2)) m i) := by
  obtain ⟨a1, a2, -⟩ := hR
  intro m
  induction m with
  | zero =>
    intro n i h1 h2 h3
    obtain ⟨n, rfl⟩ : ∃ n', n = n' + 1 := ⟨n - 1, by omega⟩
    rw [gX7_isAhead_L3, w32_id (a := i) (by omega), w32_id (a := σ x 8) (by omega), if_pos (by omega)]
    rfl
  | succ m ih =>
    intro n i h1 h2 h3
    obtain ⟨n, rfl⟩ : ∃ n', n = n' + 1 := ⟨n - 1, by omega⟩
    obtain ⟨b1', b2⟩ := a2 i h1 (by omega)
    have kr := pKey_rng (kind := σ (x + 1) i) hB hS hg hp
    have kq := pKey_rng (kind := σ (x + 1) i) hB hS hg hq
    have e : pAhd (kC σ k g p) (kC σ k g q) (σ (x + 1)) (σ (x + 2)) (m + 1) i = if kC σ k g p (σ (x + 1) i) = kC σ k g q (σ (x + 1) i) then pAhd (kC σ k g p) (kC σ k g q) (σ (x + 1)) (σ (x + 2)) m (i + 1) else if σ (x + 2) i = 0 then (if kC σ k g p (σ (x + 1) i) ≤ kC σ k g q (σ (x + 1) i) then 0 else 1) else (if kC σ k g p (σ (x + 1) i) ≥ kC σ k g q (σ (x + 1) i) then 0 else 1) := rfl
    rw [gX7_isAhead_L3, w32_id (a := i) (by omega), w32_id (a := σ x 8) (by omega), if_neg (by omega), gd_pos (by omega), keyC_eq hB hS b1' hg hp, Option.bind_some, gd_pos (by omega), keyC_eq hB hS b1' hg hq, Option.bind_some, gd_pos (by omega), w32_id (a := σ (x + 2) i) (by omega), w32_id (a := pKey _ _ _ _ _ _ _ p) (by omega), w32_id (a := pKey _ _ _ _ _ _ _ q) (by omega), e, ih n (i + 1) (by omega) (by omega) (by omega)]
    unfold kC
    repeat (first | rfl | split)
