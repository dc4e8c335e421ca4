-- PURE LAYER: all ways rooms may be free, numbered
def stI (c : Int → Int) : Nat → Int
  | 0 => 1
  | p + 1 => stI c p * (c p + 1)
def dgI (c : Int → Int) (p : Nat) (s : Int) : Int := s / stI c p % (c p + 1)
def CapOK (c : Int → Int) (P : Nat) : Prop := ∀ p : Nat, p < P → 1 ≤ c p ∧ c p ≤ 4
theorem stI_pos {c : Int → Int} {P : Nat} (h : CapOK c P) : ∀ p, p ≤ P → 0 < stI c p := by
  intro p
  induction p with
  | zero => intro _; show (0 : Int) < 1; decide
  | succ p ih =>
    intro hp
    have := h p (by omega)
    exact Int.mul_pos (ih (by omega)) (by omega)
theorem stI_mono {c : Int → Int} {P : Nat} (h : CapOK c P) : ∀ (m p : Nat), p + m ≤ P → ∃ k, 0 < k ∧ stI c (p + m) = stI c p * k := by
  intro m
  induction m with
  | zero => intro p _; exact ⟨1, by decide, by simp⟩
  | succ m ih =>
    intro p hp
    obtain ⟨k, k1, k2⟩ := ih p (by omega)
    have := h (p + m) (by omega)
    refine ⟨k * (c (p + m : Nat) + 1), Int.mul_pos k1 (by omega), ?_⟩
    show stI c (p + m) * (c (p + m : Nat) + 1) = _
    rw [k2, Int.mul_assoc]
theorem dg_mod {s a b m : Int} (hs : 0 ≤ s) (ha : 0 < a) (hb : 0 < b) (hm : 0 < m) : s % (a * b * m) / a % b = s / a % b := by
  obtain ⟨s, rfl⟩ := Int.eq_ofNat_of_zero_le hs
  obtain ⟨a, rfl⟩ := Int.eq_ofNat_of_zero_le (Int.le_of_lt ha)
  obtain ⟨b, rfl⟩ := Int.eq_ofNat_of_zero_le (Int.le_of_lt hb)
  obtain ⟨m, rfl⟩ := Int.eq_ofNat_of_zero_le (Int.le_of_lt hm)
  have h : s % (a * b * m) / a % b = s / a % b := by
    rw [Nat.mul_assoc, Nat.mod_mul_right_div_self, Nat.mod_mul_right_mod]
  exact_mod_cast h
/-- the digit of a post asks only for what lies below the next post's step -/
theorem dgI_mod {c : Int → Int} {P q p : Nat} {s : Int} (h : CapOK c P) (hs : 0 ≤ s) (hq : q < p) (hp : p ≤ P) : dgI c q (s % stI c p) = dgI c q s := by
  have hc := h q (by omega)
  obtain ⟨k, k1, k2⟩ := stI_mono h (p - (q + 1)) (q + 1) (by omega)
  rw [show q + 1 + (p - (q + 1)) = p by omega] at k2
  unfold dgI
  rw [k2, show stI c (q + 1) = stI c q * (c q + 1) from rfl]
  exact dg_mod hs (stI_pos h q (by omega)) (by omega) k1
theorem dgI_top {c : Int → Int} {P p : Nat} {s : Int} (h : CapOK c P) (hp : p < P) (hs : 0 ≤ s ∧ s < stI c (p + 1)) : dgI c p s = s / stI c p ∧ 0 ≤ s / stI c p ∧ s / stI c p ≤ c p := by
  have hc := h p hp
  have h0 := stI_pos h p (by omega)
  have h1 : 0 ≤ s / stI c p := Int.ediv_nonneg hs.1 (by omega)
  have h2 : s / stI c p < c p + 1 := Int.ediv_lt_of_lt_mul h0 (by rw [Int.mul_comm]; exact hs.2)
  exact ⟨Int.emod_eq_of_lt h1 h2, h1, by omega⟩
/-- bits of the posts that have room -/
def opN (c : Int → Int) : Nat → Int → Nat
  | 0, _ => 0
  | p + 1, s => if s / stI c p = 0 then opN c p (s % stI c p) else opN c p (s % stI c p) ||| 2 ^ p
def frI (c : Int → Int) : Nat → Int → Int
  | 0, _ => 0
  | p + 1, s => frI c p (s % stI c p) + s / stI c p
theorem opN_bits {c : Int → Int} {P : Nat} (h : CapOK c P) (hP : P ≤ 6) : ∀ (p : Nat) (s : Int), p ≤ P → 0 ≤ s → s < stI c p → opN c p s < 2 ^ p ∧ ∀ q, q < p → opN c p s / 2 ^ q % 2 = if 0 < dgI c q s then 1 else 0 := by
  intro p
  induction p with
  | zero => intro s _ _ _; exact ⟨by show 0 < 2 ^ 0; decide, fun q hq => by omega⟩
  | succ p ih =>
    intro s hp h0 hs
    have hp0 := stI_pos h p (by omega)
    obtain ⟨t1, t2, t3⟩ := dgI_top h (by omega) ⟨h0, hs⟩
    obtain ⟨i1, i2⟩ := ih (s % stI c p) (by omega) (Int.emod_nonneg _ (by omega)) (Int.emod_lt_of_pos _ hp0)
    have e : opN c (p + 1) s = if s / stI c p = 0 then opN c p (s % stI c p) else opN c p (s % stI c p) ||| 2 ^ p := rfl
    have pl : 2 ^ p < 2 ^ (p + 1) := Nat.pow_lt_pow_right (by decide) (by omega)
    have p5 : 2 ^ p ≤ 2 ^ 6 := pow_le2 (by omega)
    have i3 : ∀ q, q < p → opN c p (s % stI c p) / 2 ^ q % 2 = if 0 < dgI c q s then 1 else 0 := fun q hq => by rw [i2 q hq, dgI_mod h h0 hq (by omega)]
    rw [e]
    by_cases z : s / stI c p = 0
    · rw [if_pos z]
      refine ⟨by omega, fun q hq => ?_⟩
      by_cases w : q = p
      · rw [w, t1, z, if_neg (by omega), Nat.div_eq_of_lt i1]
      · exact i3 q (by omega)
    · rw [if_neg z]
      refine ⟨Nat.or_lt_two_pow (by omega) pl, fun q hq => ?_⟩
      rw [tabC_at (by omega) (by omega) (by omega)]
      by_cases w : q = p
      · rw [if_pos w, w, t1, if_pos (by omega)]
      · rw [if_neg w]; exact i3 q (by omega)
/-- one room less at a post that has one -/
theorem frI_less {c : Int → Int} {P : Nat} (h : CapOK c P) : ∀ (p : Nat) (s : Int) (q : Nat), p ≤ P → 0 ≤ s → q < p → 0 < dgI c q s → stI c q ≤ s ∧ frI c p (s - stI c q) = frI c p s - 1 := by
  have ge : ∀ (q : Nat) (s : Int), q < P → 0 ≤ s → 0 < dgI c q s → stI c q ≤ s := by
    intro q s hq h0 hd
    have hp0 := stI_pos h q (by omega)
    by_cases z : stI c q ≤ s
    · exact z
    · unfold dgI at hd
      rw [Int.ediv_eq_zero_of_lt h0 (by omega), Int.zero_emod] at hd
      omega
  intro p
  induction p with
  | zero => intro s q _ _ hq _; omega
  | succ p ih =>
    intro s q hp h0 hq hd
    have hp0 := stI_pos h p (by omega)
    have g := ge q s (by omega) h0 hd
    have e : ∀ x, frI c (p + 1) x = frI c p (x % stI c p) + x / stI c p := fun x => rfl
    refine ⟨g, ?_⟩
    rw [e, e]
    by_cases w : q = p
    · subst w
      have e1 : (s - stI c q) % stI c q = s % stI c q := Int.sub_emod_right s (stI c q)
      have e2 : (s - stI c q) / stI c q = s / stI c q - 1 := by rw [show s - stI c q = s + stI c q * (-1) by omega, Int.add_mul_ediv_left _ _ (by omega)]; omega
      rw [e1, e2]
      omega
    · have q0 := stI_pos h q (by omega)
      have m0 : 0 ≤ s % stI c p := Int.emod_nonneg _ (by omega)
      have ml := Int.emod_lt_of_pos s hp0
      have hd' : 0 < dgI c q (s % stI c p) := by rw [dgI_mod h h0 (by omega) (by omega)]; exact hd
      obtain ⟨g', i⟩ := ih (s % stI c p) q (by omega) m0 (by omega) hd'
      have ds := Int.mul_ediv_add_emod s (stI c p)
      have e1 : s - stI c q = (s % stI c p - stI c q) + stI c p * (s / stI c p) := by omega
      have e2 : (s - stI c q) % stI c p = s % stI c p - stI c q := by
        rw [e1, Int.add_mul_emod_self_left]
        exact Int.emod_eq_of_lt (by omega) (by omega)
      have e3 : (s - stI c q) / stI c p = s / stI c p := by
        rw [e1, Int.add_mul_ediv_left _ _ (by omega), Int.ediv_eq_zero_of_lt (by omega) (by omega), Int.zero_add]
      rw [e2, e3, i]
      omega
