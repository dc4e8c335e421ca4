-- PURE LAYER: how many ways; the class's rooms
def bnB : Nat → Nat → Nat
  | 0, _ => 1
  | m + 1, s => max (max (if s < 1 then 0 else 2 * bnB m (s - 1)) (if s < 2 then 0 else 3 * bnB m (s - 2))) (max (if s < 3 then 0 else 4 * bnB m (s - 3)) (if s < 4 then 0 else 5 * bnB m (s - 4)))
theorem bnB_11 : (List.range 7).all (fun m => decide (bnB m 11 ≤ 486 ∧ bnB m 10 ≤ 324)) = true := by decide +kernel
theorem stI_bnd {c : Int → Int} {P : Nat} (h : CapOK c P) : ∀ (m : Nat) (s : Nat), m ≤ P → sumN c m 0 ≤ s → stI c m ≤ bnB m s ∧ 0 ≤ sumN c m 0 := by
  intro m
  induction m with
  | zero => intro s _ _; exact ⟨by show (1 : Int) ≤ ((1 : Nat) : Int); decide, by show (0 : Int) ≤ 0; decide⟩
  | succ m ih =>
    intro s hm hs
    have hc := h m (by omega)
    have e : sumN c (m + 1) 0 = sumN c m 0 + c m := by
      rw [sumN_app c m 1 0, show (0 : Int) + (m : Int) = m by omega]
      show _ + (c m + 0) = _
      omega
    have p0 := stI_pos h m (by omega)
    have e1 : stI c (m + 1) = stI c m * (c m + 1) := rfl
    have n0 := (ih (sumN c m 0).toNat (by omega) (by omega)).2
    have e2 : bnB (m + 1) s = max (max (if s < 1 then 0 else 2 * bnB m (s - 1)) (if s < 2 then 0 else 3 * bnB m (s - 2))) (max (if s < 3 then 0 else 4 * bnB m (s - 3)) (if s < 4 then 0 else 5 * bnB m (s - 4))) := rfl
    have i := (ih (s - (c m).toNat) (by omega) (by omega)).1
    refine ⟨?_, by omega⟩
    rw [e1, e2]
    have cases4 : c m = 1 ∨ c m = 2 ∨ c m = 3 ∨ c m = 4 := by omega
    rcases cases4 with z | z | z | z
    · rw [z] at i ⊢
      have i' : stI c m ≤ bnB m (s - 1) := i
      rw [if_neg (show ¬ s < 1 by omega)]
      omega
    · rw [z] at i ⊢
      have i' : stI c m ≤ bnB m (s - 2) := i
      rw [if_neg (show ¬ s < 2 by omega)]
      omega
    · rw [z] at i ⊢
      have i' : stI c m ≤ bnB m (s - 3) := i
      rw [if_neg (show ¬ s < 3 by omega)]
      omega
    · rw [z] at i ⊢
      have i' : stI c m ≤ bnB m (s - 4) := i
      rw [if_neg (show ¬ s < 4 by omega)]
      omega
theorem stI_486 {c : Int → Int} {P : Nat} (h : CapOK c P) (hP : P ≤ 6) (hs : sumN c P 0 ≤ 11) : stI c P ≤ 486 ∧ (sumN c P 0 ≤ 10 → stI c P ≤ 324) := by
  have t := bnB_11
  rw [List.all_eq_true] at t
  have t1 := of_decide_eq_true (t P (List.mem_range.mpr (by omega)))
  have a := (stI_bnd h P 11 (by omega) hs).1
  refine ⟨by omega, fun z => ?_⟩
  have b := (stI_bnd h P 10 (by omega) z).1
  omega
theorem stI_le {c : Int → Int} {P : Nat} (h : CapOK c P) {p q : Nat} (hq : p ≤ q) (hP : q ≤ P) : stI c p ≤ stI c q := by
  obtain ⟨k, k1, k2⟩ := stI_mono h (q - p) p (by omega)
  rw [show p + (q - p) = q by omega] at k2
  rw [k2]
  have := stI_pos h p (by omega)
  have h1 : stI c p * 1 ≤ stI c p * k := Int.mul_le_mul_of_nonneg_left (by omega) (by omega)
  omega
theorem addLayer_12 {F : Nat} {k r D T : Int} {p : Nat} (hp : p < 6) (hD : T ≤ D ∧ D + T ≤ 486) : ∀ (m n : Nat) (i : Int) (σ : St), 0 ≤ i → i + m = T → σ (k + 1) p = T → m < n → ∃ σ', gX4_addLayer_L12 F k p r n D i σ = some σ' ∧ ∀ a b, σ' a b = if a = k + 2 ∧ D + i ≤ b ∧ b < D + T then ior (σ (k + 2) (b - D)) (ishl 1 p) else if a = k + 3 ∧ D + i ≤ b ∧ b < D + T then σ (k + 3) (b - D) + r else σ a b := by
  intro m
  induction m with
  | zero =>
    intro n i σ h1 h2 h4 h3
    obtain ⟨n, rfl⟩ : ∃ n', n = n' + 1 := ⟨n - 1, by omega⟩
    refine ⟨σ, by rw [gX4_addLayer_L12, w32_id (a := (p : Int)) (by omega), gd_pos (by omega), h4, w32_id (a := i) (by omega), w32_id (a := T) (by omega), if_pos (by omega)], fun a b => ?_⟩
    rw [if_neg (by omega), if_neg (by omega)]
  | succ m ih =>
    intro n i σ h1 h2 h4 h3
    obtain ⟨n, rfl⟩ : ∃ n', n = n' + 1 := ⟨n - 1, by omega⟩
    have e1 : ∀ v, up σ (k + 2) (D + i) v (k + 3) i = σ (k + 3) i := fun v => by rw [up_at, if_neg (by omega)]
    have u : ∀ a b, ¬ (b = D + i ∧ (a = k + 2 ∨ a = k + 3)) → up (up σ (k + 2) (D + i) (ior (σ (k + 2) i) (ishl 1 p))) (k + 3) (D + i) (σ (k + 3) i + r) a b = σ a b := fun a b q => by rw [up_at, if_neg (by omega), up_at, if_neg (by omega)]
    obtain ⟨σ', e, f⟩ := ih n (i + 1) (up (up σ (k + 2) (D + i) (ior (σ (k + 2) i) (ishl 1 p))) (k + 3) (D + i) (σ (k + 3) i + r)) (by omega) (by omega) (by rw [u (k + 1) p (by omega)]; exact h4) (by omega)
    refine ⟨σ', ?_, fun a b => ?_⟩
    · rw [gX4_addLayer_L12, w32_id (a := (p : Int)) (by omega), gd_pos (by omega), h4, w32_id (a := i) (by omega), w32_id (a := T) (by omega), if_neg (by omega), w32_id (a := D + i) (by omega), if_neg (by omega), gd_pos (by omega), gd_pos (by omega), gd_pos (by omega), gd_pos (by omega), e1]
      exact e
    · rw [f]
      by_cases q : b = D + i ∧ (a = k + 2 ∨ a = k + 3)
      · obtain ⟨rfl, q⟩ := q
        rcases q with rfl | rfl
        · rw [if_neg (by omega), if_neg (by omega), if_pos (by omega), show D + i - D = i by omega, up_at, if_neg (by omega), up_self]
        · rw [if_neg (by omega), if_neg (by omega), if_neg (by omega), if_pos (by omega), show D + i - D = i by omega, up_self]
      · have k1 : (a = k + 2 ∧ D + (i + 1) ≤ b ∧ b < D + T) = (a = k + 2 ∧ D + i ≤ b ∧ b < D + T) := propext (by omega)
        have k2 : (a = k + 3 ∧ D + (i + 1) ≤ b ∧ b < D + T) = (a = k + 3 ∧ D + i ≤ b ∧ b < D + T) := propext (by omega)
        rw [u a b q]
        by_cases z : D ≤ b ∧ b < D + T
        · rw [u (k + 2) (b - D) (by omega), u (k + 3) (b - D) (by omega)]
          simp only [k1, k2]
        · rw [if_neg (by omega), if_neg (by omega), if_neg (by omega), if_neg (by omega)]
/-- the layers of one post -/
theorem shape_61 {F : Nat} (hF : 1000 ≤ F) {k x1 x2 C T : Int} {c21 : Int → St → Option St} {p : Nat} (hp : p < 6) (hC : 1 ≤ C) (hT : 0 < T ∧ T * (C + 1) ≤ 486) : ∀ (m n : Nat) (r : Int) (σ : St), 1 ≤ r → r + m = C + 1 → σ (k + 1) p = T → m < n → ∃ σ', gX4_shape_L61 F k x1 x2 c21 n p C r σ = c21 ((p : Int) + 1) (up σ' k 3 (T * (C + 1))) ∧ ∀ a b, σ' a b = if a = k + 2 ∧ T * r ≤ b ∧ b < T * (C + 1) then ior (σ (k + 2) (b % T)) (ishl 1 p) else if a = k + 3 ∧ T * r ≤ b ∧ b < T * (C + 1) then σ (k + 3) (b % T) + b / T else σ a b := by
  intro m
  induction m with
  | zero =>
    intro n r σ h1 h2 h4 h3
    obtain ⟨n, rfl⟩ : ∃ n', n = n' + 1 := ⟨n - 1, by omega⟩
    have hC' : C ≤ 486 := by
      have : 1 * (C + 1) ≤ T * (C + 1) := Int.mul_le_mul_of_nonneg_right (by omega) (by omega)
      omega
    have er : r = C + 1 := by omega
    refine ⟨σ, by rw [gX4_shape_L61, w32_id (a := r) (by omega), w32_id (a := C) (by omega), if_pos (by omega), w32_id (a := (p : Int)) (by omega), gd_pos (by omega), h4], fun a b => ?_⟩
    rw [er, if_neg (by omega), if_neg (by omega)]
  | succ m ih =>
    intro n r σ h1 h2 h4 h3
    obtain ⟨n, rfl⟩ : ∃ n', n = n' + 1 := ⟨n - 1, by omega⟩
    have hC' : C ≤ 486 := by
      have : 1 * (C + 1) ≤ T * (C + 1) := Int.mul_le_mul_of_nonneg_right (by omega) (by omega)
      omega
    have t1 : T * 1 ≤ T * r := Int.mul_le_mul_of_nonneg_left h1 (by omega)
    have t2 : T * (r + 1) ≤ T * (C + 1) := Int.mul_le_mul_of_nonneg_left (by omega) (by omega)
    have t3 : T * (r + 1) = T * r + T := by rw [Int.mul_add, Int.mul_one]
    obtain ⟨σ1, e1, f1⟩ := addLayer_12 (F := F) (k := k) (r := r) (D := T * r) (T := T) hp (by omega) T.toNat F 0 σ (by omega) (by omega) h4 (by omega)
    obtain ⟨σ', e, f⟩ := ih n (r + 1) σ1 (by omega) (by omega) (by rw [f1, if_neg (by omega), if_neg (by omega)]; exact h4) (by omega)
    refine ⟨σ', ?_, fun a b => ?_⟩
    · rw [gX4_shape_L61, w32_id (a := r) (by omega), w32_id (a := C) (by omega), if_neg (by omega)]
      unfold gX4_addLayer
      rw [w32_id (a := (p : Int)) (by omega), gd_pos (by omega), h4, e1, Option.bind_some]
      exact e
    · rw [f]
      have lo : ∀ x c, 0 ≤ x → x < T → σ1 c x = σ c x := fun x c y1 y2 => by rw [f1, if_neg (by omega), if_neg (by omega)]
      have m0 : 0 ≤ b % T := Int.emod_nonneg _ (by omega)
      have ml := Int.emod_lt_of_pos b hT.1
      rw [lo _ (k + 2) m0 ml, lo _ (k + 3) m0 ml]
      by_cases z : T * (r + 1) ≤ b ∧ b < T * (C + 1)
      · by_cases w : a = k + 2
        · rw [if_pos (by omega), if_pos (by omega)]
        · by_cases w' : a = k + 3
          · rw [if_neg (by omega), if_pos (by omega), if_neg (by omega), if_pos (by omega)]
          · rw [if_neg (by omega), if_neg (by omega), if_neg (by omega), if_neg (by omega), f1, if_neg (by omega), if_neg (by omega)]
      · rw [if_neg (by omega), if_neg (by omega), f1]
        by_cases y : T * r + 0 ≤ b ∧ b < T * r + T
        · have eb : b = (b - T * r) + T * r := by omega
          have e2 : b % T = b - T * r := by
            rw [eb, Int.add_mul_emod_self_left, Int.emod_eq_of_lt (by omega) (by omega)]; omega
          have e3 : b / T = r := by
            rw [eb, Int.add_mul_ediv_left _ _ (by omega), Int.ediv_eq_zero_of_lt (by omega) (by omega)]; omega
          rw [e2, e3]
          by_cases w : a = k + 2
          · rw [if_pos (by omega), if_pos (by omega)]
          · by_cases w' : a = k + 3
            · rw [if_neg (by omega), if_pos (by omega), if_neg (by omega), if_pos (by omega)]
            · rw [if_neg (by omega), if_neg (by omega), if_neg (by omega), if_neg (by omega)]
        · rw [if_neg (by omega), if_neg (by omega), if_neg (by omega), if_neg (by omega)]
