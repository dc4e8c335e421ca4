-- PURE LAYER: orders told by digits; sets of guests as bits
def pcB (x : Nat) : Nat := x % 2 + x / 2 % 2 + x / 4 % 2 + x / 8 % 2 + x / 16 % 2 + x / 32 % 2 + x / 64 % 2 + x / 128 % 2 + x / 256 % 2 + x / 512 % 2
def tabA : Bool := (List.range 1024).all fun x => (List.range 10).all fun d => decide (ior (x : Int) (ishl 1 (d : Int)) = ((x ||| 2 ^ d : Nat) : Int) ∧ iand (ishr (x : Int) (d : Int)) 1 = ((x / 2 ^ d % 2 : Nat) : Int))
theorem tabA_ok : tabA = true := by decide +kernel
def tabB : Bool := (List.range 1024).all fun x => (List.range 10).all fun d => decide (x ||| 2 ^ d < 1024 ∧ x ≤ x ||| 2 ^ d ∧ 2 ^ d ≤ x ||| 2 ^ d ∧ pcB (x ||| 2 ^ d) = pcB x + (1 - x / 2 ^ d % 2) ∧ (pcB x = d → x < 2 ^ d → x = 2 ^ d - 1) ∧ pcB (2 ^ d - 1) = d ∧ (x / 2 ^ d % 2 = 1 → x ||| 2 ^ d = x))
theorem tabB_ok : tabB = true := by decide +kernel
def tabC : Bool := (List.range 512).all fun x => (List.range 9).all fun d => (List.range 9).all fun e => decide ((x ||| 2 ^ d) / 2 ^ e % 2 = if e = d then 1 else x / 2 ^ e % 2)
theorem tabC_ok : tabC = true := by decide +kernel
theorem tabA_at {x d : Nat} (hx : x < 1024) (hd : d < 10) : ior (x : Int) (ishl 1 (d : Int)) = ((x ||| 2 ^ d : Nat) : Int) ∧ iand (ishr (x : Int) (d : Int)) 1 = ((x / 2 ^ d % 2 : Nat) : Int) := by
  have h := tabA_ok
  unfold tabA at h
  rw [List.all_eq_true] at h
  have h1 := h x (List.mem_range.mpr hx)
  rw [List.all_eq_true] at h1
  exact of_decide_eq_true (h1 d (List.mem_range.mpr hd))
theorem tabB_at {x d : Nat} (hx : x < 1024) (hd : d < 10) : x ||| 2 ^ d < 1024 ∧ x ≤ x ||| 2 ^ d ∧ 2 ^ d ≤ x ||| 2 ^ d ∧ pcB (x ||| 2 ^ d) = pcB x + (1 - x / 2 ^ d % 2) ∧ (pcB x = d → x < 2 ^ d → x = 2 ^ d - 1) ∧ pcB (2 ^ d - 1) = d ∧ (x / 2 ^ d % 2 = 1 → x ||| 2 ^ d = x) := by
  have h := tabB_ok
  unfold tabB at h
  rw [List.all_eq_true] at h
  have h1 := h x (List.mem_range.mpr hx)
  rw [List.all_eq_true] at h1
  exact of_decide_eq_true (h1 d (List.mem_range.mpr hd))
theorem tabC_at {x d e : Nat} (hx : x < 512) (hd : d < 9) (he : e < 9) : (x ||| 2 ^ d) / 2 ^ e % 2 = if e = d then 1 else x / 2 ^ e % 2 := by
  have h := tabC_ok
  unfold tabC at h
  rw [List.all_eq_true] at h
  have h1 := h x (List.mem_range.mpr hx)
  rw [List.all_eq_true] at h1
  have h2 := h1 d (List.mem_range.mpr hd)
  rw [List.all_eq_true] at h2
  exact of_decide_eq_true (h2 e (List.mem_range.mpr he))
/-- the digits that are left -/
def pRest : Nat → Nat → Nat
  | 0, x => x
  | m + 1, x => pRest m (x / 10)
def pSeen : Nat → Nat → Nat → Nat
  | 0, _, s => s
  | m + 1, x, s => pSeen m (x / 10) (s ||| 2 ^ (x % 10))
def pOrd (G : Nat) : Nat → Nat → Nat → Bool
  | 0, x, _ => decide (x = 0)
  | m + 1, x, s => if G ≤ x % 10 ∨ s / 2 ^ (x % 10) % 2 = 1 then false else pOrd G m (x / 10) (s ||| 2 ^ (x % 10))
def pDig : Nat → Nat → Nat → Nat
  | 0, _, _ => 0
  | m + 1, x, j => if j = m then x % 10 else pDig m (x / 10) j
theorem pSeen_mono : ∀ (m x s : Nat), s < 1024 → s ≤ pSeen m x s ∧ pSeen m x s < 1024 ∧ pcB (pSeen m x s) ≤ pcB s + m := by
  intro m
  induction m with
  | zero => intro x s h; exact ⟨Nat.le_refl _, h, Nat.le_refl _⟩
  | succ m ih =>
    intro x s h
    have t := tabB_at (x := s) (d := x % 10) h (Nat.mod_lt _ (by decide))
    have i := ih (x / 10) (s ||| 2 ^ (x % 10)) t.1
    have e : pSeen (m + 1) x s = pSeen m (x / 10) (s ||| 2 ^ (x % 10)) := rfl
    rw [e]
    refine ⟨Nat.le_trans t.2.1 i.1, i.2.1, ?_⟩
    have := t.2.2.2.1
    omega
theorem pow_le2 {a b : Nat} (h : a ≤ b) : 2 ^ a ≤ 2 ^ b := Nat.pow_le_pow_right (by decide) h
theorem pOrd_iff {G : Nat} (hG : G ≤ 9) : ∀ (m x s : Nat), s < 2 ^ G → pcB s + m = G → (pOrd G m x s = true ↔ pRest m x = 0 ∧ pSeen m x s = 2 ^ G - 1) := by
  have h9 : 2 ^ G ≤ 512 := pow_le2 (b := 9) hG
  have hp : 0 < 2 ^ G := Nat.two_pow_pos G
  intro m
  induction m with
  | zero =>
    intro x s hs hc
    have t := (tabB_at (x := s) (d := G) (by omega) (by omega)).2.2.2.2.1 (by omega) hs
    show decide (x = 0) = true ↔ x = 0 ∧ s = 2 ^ G - 1
    rw [decide_eq_true_iff]
    exact ⟨fun h => ⟨h, t⟩, fun h => h.1⟩
  | succ m ih =>
    intro x s hs hc
    have hd : x % 10 < 10 := Nat.mod_lt _ (by decide)
    have t := tabB_at (x := s) (d := x % 10) (by omega) hd
    have e1 : pOrd G (m + 1) x s = if G ≤ x % 10 ∨ s / 2 ^ (x % 10) % 2 = 1 then false else pOrd G m (x / 10) (s ||| 2 ^ (x % 10)) := rfl
    have e2 : pRest (m + 1) x = pRest m (x / 10) := rfl
    have e3 : pSeen (m + 1) x s = pSeen m (x / 10) (s ||| 2 ^ (x % 10)) := rfl
    have mo := pSeen_mono m (x / 10) (s ||| 2 ^ (x % 10)) t.1
    rw [e1, e2, e3]
    by_cases q : G ≤ x % 10 ∨ s / 2 ^ (x % 10) % 2 = 1
    · rw [if_pos q]
      refine ⟨fun h => (by cases h), fun h => ?_⟩
      exfalso
      rcases q with q | q
      · have := pow_le2 q
        have t3 := t.2.2.1
        omega
      · have t4 := t.2.2.2.1
        have g2 := (tabB_at (x := 0) (d := G) (by decide) (by omega)).2.2.2.2.2.1
        rw [h.2] at mo
        omega
    · rw [if_neg q]
      have b0 : s / 2 ^ (x % 10) % 2 = 0 := by
        have := Nat.mod_lt (s / 2 ^ (x % 10)) (show 0 < 2 by decide)
        omega
      have t4 := t.2.2.2.1
      refine ih (x / 10) (s ||| 2 ^ (x % 10)) ?_ (by omega)
      exact Nat.or_lt_two_pow hs (Nat.pow_lt_pow_right (by decide) (by omega))
theorem pOrd_dig {G : Nat} (hG : G ≤ 9) : ∀ (m x s : Nat), s < 2 ^ G → pOrd G m x s = true → (∀ j, j < m → pDig m x j < G ∧ s / 2 ^ (pDig m x j) % 2 = 0) ∧ ∀ i j, i < j → j < m → pDig m x i ≠ pDig m x j := by
  have h9 : 2 ^ G ≤ 512 := pow_le2 (b := 9) hG
  intro m
  induction m with
  | zero => intro x s _ _; exact ⟨fun j h => by omega, fun i j h1 h2 => by omega⟩
  | succ m ih =>
    intro x s hs h
    have e1 : pOrd G (m + 1) x s = if G ≤ x % 10 ∨ s / 2 ^ (x % 10) % 2 = 1 then false else pOrd G m (x / 10) (s ||| 2 ^ (x % 10)) := rfl
    have e2 : ∀ j, pDig (m + 1) x j = if j = m then x % 10 else pDig m (x / 10) j := fun j => rfl
    rw [e1] at h
    by_cases q : G ≤ x % 10 ∨ s / 2 ^ (x % 10) % 2 = 1
    · rw [if_pos q] at h; cases h
    · rw [if_neg q] at h
      have b0 : s / 2 ^ (x % 10) % 2 = 0 := by
        have := Nat.mod_lt (s / 2 ^ (x % 10)) (show 0 < 2 by decide)
        omega
      obtain ⟨i1, i2⟩ := ih (x / 10) (s ||| 2 ^ (x % 10)) (Nat.or_lt_two_pow hs (Nat.pow_lt_pow_right (by decide) (by omega))) h
      have i3 : ∀ j, j < m → pDig m (x / 10) j ≠ x % 10 ∧ s / 2 ^ (pDig m (x / 10) j) % 2 = 0 := by
        intro j hj
        obtain ⟨a1, a2⟩ := i1 j hj
        rw [tabC_at (x := s) (d := x % 10) (e := pDig m (x / 10) j) (by omega) (by omega) (by omega)] at a2
        by_cases z : pDig m (x / 10) j = x % 10
        · rw [if_pos z] at a2; omega
        · rw [if_neg z] at a2; exact ⟨z, a2⟩
      refine ⟨fun j hj => ?_, fun i j h1 h2 => ?_⟩
      · rw [e2]
        by_cases z : j = m
        · rw [if_pos z]; exact ⟨by omega, b0⟩
        · rw [if_neg z]; exact ⟨(i1 j (by omega)).1, (i3 j (by omega)).2⟩
      · rw [e2, e2, if_neg (show ¬ i = m by omega)]
        by_cases z : j = m
        · rw [if_pos z]; exact (i3 i (by omega)).1
        · rw [if_neg z]; exact i2 i j h1 (by omega)
