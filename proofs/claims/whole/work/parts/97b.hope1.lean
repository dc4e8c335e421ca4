-- PURE LAYER: hopes
def hmP (c w f : Int → Int) (ov g s : Int) : Nat → Int → Int → Int
  | 0, _, v => v
  | m + 1, p, v => hmP c w f ov g s m (p + 1) (if 0 < w (6 * g + p) ∧ 0 < dgI c p.toNat s then (if v < w (6 * g + p) * ov + f (s - stI c p.toNat) then w (6 * g + p) * ov + f (s - stI c p.toNat) else v) else v)
def ovI (C : Int) : Nat → Int
  | 0 => 1
  | n + 1 => ovI C n * C
def hpI (c w ch : Int → Int) (P G : Nat) (C : Int) : Nat → Int → Int
  | 0, _ => 0
  | n + 1, s => sumN (fun g => ch g * hmP c w (hpI c w ch P G C n) (ovI C n) g s P 0 (hpI c w ch P G C n s)) G 0
def oB : Nat → Int
  | 0 => 1
  | n + 1 => oB n * 81
def hB' : Nat → Int
  | 0 => 0
  | n + 1 => 81 * (99 * oB n + hB' n)
theorem oB_tab : (List.range 7).all (fun n => decide (1 ≤ oB n ∧ oB n ≤ 300000000000 ∧ 0 ≤ hB' n ∧ hB' n ≤ 200000000000000)) = true := by decide +kernel
theorem oB_at {n : Nat} (h : n ≤ 6) : 1 ≤ oB n ∧ oB n ≤ 300000000000 ∧ 0 ≤ hB' n ∧ hB' n ≤ 200000000000000 := by
  have t := oB_tab
  rw [List.all_eq_true] at t
  exact of_decide_eq_true (t n (List.mem_range.mpr (by omega)))
theorem ovI_rng {C : Int} (hC : 0 ≤ C ∧ C ≤ 81) : ∀ n, 0 ≤ ovI C n ∧ ovI C n ≤ oB n ∧ (0 < C → 0 < ovI C n) := by
  intro n
  induction n with
  | zero => exact ⟨by show (0 : Int) ≤ 1; decide, by show (1 : Int) ≤ 1; decide, fun _ => by show (0 : Int) < 1; decide⟩
  | succ n ih =>
    obtain ⟨i1, i2, i3⟩ := ih
    refine ⟨Int.mul_nonneg i1 hC.1, ?_, fun h => Int.mul_pos (i3 h) h⟩
    show ovI C n * C ≤ oB n * 81
    exact Int.le_trans (Int.mul_le_mul_of_nonneg_left hC.2 i1) (Int.mul_le_mul_of_nonneg_right i2 (by decide))
theorem hmP_rng {c w f : Int → Int} {ov g s O B : Int} (hw : WOK w) (hg : 0 ≤ g ∧ g < 9) (ho : 0 ≤ ov ∧ ov ≤ O) (hf : ∀ x, 0 ≤ f x ∧ f x ≤ B) : ∀ (m : Nat) (p v : Int), 0 ≤ p → p + m ≤ 6 → 0 ≤ v ∧ v ≤ 99 * O + B → 0 ≤ hmP c w f ov g s m p v ∧ hmP c w f ov g s m p v ≤ 99 * O + B := by
  intro m
  induction m with
  | zero => intro p v _ _ h; exact h
  | succ m ih =>
    intro p v h1 h2 h3
    have e : hmP c w f ov g s (m + 1) p v = hmP c w f ov g s m (p + 1) (if 0 < w (6 * g + p) ∧ 0 < dgI c p.toNat s then (if v < w (6 * g + p) * ov + f (s - stI c p.toNat) then w (6 * g + p) * ov + f (s - stI c p.toNat) else v) else v) := rfl
    have a1 := hw (6 * g + p) (by omega) (by omega)
    have a2 := hf (s - stI c p.toNat)
    have a3 : 0 ≤ w (6 * g + p) * ov := Int.mul_nonneg a1.1 ho.1
    have a4 : w (6 * g + p) * ov ≤ 99 * O := Int.le_trans (Int.mul_le_mul_of_nonneg_right a1.2 ho.1) (Int.mul_le_mul_of_nonneg_left ho.2 (by decide))
    rw [e]
    refine ih (p + 1) _ (by omega) (by omega) ?_
    split
    · split <;> omega
    · exact h3
theorem sumN_wt {ch x : Int → Int} {X : Int} (hX : 0 ≤ X) : ∀ (m : Nat) (a : Int), (∀ i, a ≤ i → i < a + m → 0 ≤ ch i ∧ 0 ≤ x i ∧ x i ≤ X) → 0 ≤ sumN (fun g => ch g * x g) m a ∧ sumN (fun g => ch g * x g) m a ≤ sumN ch m a * X := by
  intro m
  induction m with
  | zero => intro a _; exact ⟨Int.le_refl 0, by show (0 : Int) ≤ 0 * X; omega⟩
  | succ m ih =>
    intro a h
    obtain ⟨h1, h2, h3⟩ := h a (by omega) (by omega)
    obtain ⟨i1, i2⟩ := ih (a + 1) (fun i q1 q2 => h i (by omega) (by omega))
    have k1 : 0 ≤ ch a * x a := Int.mul_nonneg h1 h2
    have k2 : ch a * x a ≤ ch a * X := Int.mul_le_mul_of_nonneg_left h3 h1
    show 0 ≤ ch a * x a + sumN (fun g => ch g * x g) m (a + 1) ∧ ch a * x a + sumN (fun g => ch g * x g) m (a + 1) ≤ (ch a + sumN ch m (a + 1)) * X
    rw [Int.add_mul]
    omega
def ChOK (ch : Int → Int) (G : Nat) : Prop := ∀ i : Int, 0 ≤ i → i < G → 0 ≤ ch i ∧ ch i ≤ 9
theorem hpI_rng {c w ch : Int → Int} {P G : Nat} {C : Int} (hw : WOK w) (hP : P ≤ 6) (hG : G ≤ 9) (hch : ChOK ch G) (hC : C = sumN ch G 0) (hC2 : 0 ≤ C ∧ C ≤ 81) : ∀ (n : Nat) (s : Int), 0 ≤ hpI c w ch P G C n s ∧ hpI c w ch P G C n s ≤ hB' n := by
  intro n
  induction n with
  | zero => intro s; exact ⟨Int.le_refl 0, Int.le_refl 0⟩
  | succ n ih =>
    intro s
    obtain ⟨o1, o2, -⟩ := ovI_rng hC2 n
    have ob : 0 ≤ oB n := Int.le_trans o1 o2
    have hb0 : 0 ≤ hB' n := Int.le_trans (ih 0).1 (ih 0).2
    have t := sumN_wt (ch := ch) (x := fun g => hmP c w (hpI c w ch P G C n) (ovI C n) g s P 0 (hpI c w ch P G C n s)) (X := 99 * oB n + hB' n) (by omega) G 0 (fun i q1 q2 => ⟨(hch i q1 (by omega)).1, hmP_rng (O := oB n) (B := hB' n) hw (by omega) ⟨o1, o2⟩ ih P 0 _ (by omega) (by omega) (by have := ih s; omega)⟩)
    refine ⟨t.1, Int.le_trans t.2 ?_⟩
    rw [← hC]
    exact Int.mul_le_mul_of_nonneg_right hC2.2 (by omega)
theorem frI_rng {c : Int → Int} {P : Nat} (h : CapOK c P) : ∀ (p : Nat) (s : Int), p ≤ P → 0 ≤ s → s < stI c p → 0 ≤ frI c p s ∧ frI c p s ≤ 4 * p := by
  intro p
  induction p with
  | zero => intro s _ _ _; exact ⟨Int.le_refl 0, by show (0 : Int) ≤ 4 * ((0 : Nat) : Int); decide⟩
  | succ p ih =>
    intro s hp h0 hs
    have hp0 := stI_pos h p (by omega)
    obtain ⟨t1, t2, t3⟩ := dgI_top h (by omega) ⟨h0, hs⟩
    have hc := h p (by omega)
    have i := ih (s % stI c p) (by omega) (Int.emod_nonneg _ (by omega)) (Int.emod_lt_of_pos _ hp0)
    show 0 ≤ frI c p (s % stI c p) + s / stI c p ∧ frI c p (s % stI c p) + s / stI c p ≤ 4 * ((p + 1 : Nat) : Int)
    omega
/-- the class's row of hopes for n steps: for what can be asked -/
def HRow (σ : St) (c w ch : Int → Int) (P G : Nat) (C : Int) (n : Nat) : Prop := ∀ s, 0 ≤ s → s < stI c P → frI c P (stI c P - 1) - frI c P s ≤ 6 - n → σ 56 (324 * n + s) = hpI c w ch P G C n s
theorem byPost_eq {σ : St} {g s : Int} {n p : Nat} {c f : Int → Int} {P : Nat} {ov : Int} (hc : CapOK c P) (hP : P ≤ 6) (h324 : stI c P ≤ 324) (hsh : ShI σ 52 c P) (hw : WOK (σ 6)) (hg : 0 ≤ g ∧ g < 9) (hn : n ≤ 5) (hs : 0 ≤ s ∧ s < stI c P) (hp : p < P) (hd : 0 < dgI c p s) (ho : σ 51 n = ov) (hr : σ 56 (324 * n + (s - stI c p)) = f (s - stI c p)) : gX1_byPost σ g ((n : Int) + 1) s p = some (σ 6 (6 * g + p) * ov + f (s - stI c p)) := by
  have st : σ (52 + 1) (p : Int) = stI c p := hsh.1 p hp
  obtain ⟨l1, l2⟩ := less_in hc hs hp hd
  have a1 := hw (6 * g + p) (by omega) (by omega)
  have e6 : σ (1 + 5) (6 * g + p) = σ 6 (6 * g + p) := rfl
  unfold gX1_byPost
  rw [worthAt_eq hg (by omega), Option.bind_some, e6, show (n : Int) + 1 - 1 = n by omega, w32_id (a := (n : Int)) (by omega), gd_pos (by omega), w32_id (a := (p : Int)) (by omega), gd_pos (by omega), st, show (n : Int) * 324 + s - stI c p = 324 * n + (s - stI c p) by omega, w32_id (a := 324 * (n : Int) + (s - stI c p)) (by omega), gd_pos (by omega), w32_id (a := σ 6 (6 * g + p)) (by omega), ho, hr]
theorem gfor_19 {F : Nat} {σ : St} {g s : Int} {n : Nat} {c f : Int → Int} {P : Nat} {ov : Int} (hc : CapOK c P) (hP : P ≤ 6) (h324 : stI c P ≤ 324) (hsh : ShI σ 52 c P) (h5 : σ 1 5 = (P : Int)) (hw : WOK (σ 6)) (hg : 0 ≤ g ∧ g < 9) (hn : n ≤ 5) (hs : 0 ≤ s ∧ s < stI c P) (ho : σ 51 n = ov) (ho2 : 0 ≤ ov ∧ ov ≤ 300000000000) (hr : ∀ p : Nat, p < P → 0 < dgI c p s → σ 56 (324 * n + (s - stI c p)) = f (s - stI c p)) (hf : ∀ x, 0 ≤ f x ∧ f x ≤ 200000000000000) : ∀ (m k p : Nat) (v : Int), p + m = P → 0 ≤ v ∧ v ≤ 300000000000000 → m < k → gX1_greatestFor_L19 F σ g ((n : Int) + 1) s k v p = some (hmP c (σ 6) f ov g s m p v) := by
  intro m
  induction m with
  | zero =>
    intro k p v h1 h2 h3
    obtain ⟨k, rfl⟩ : ∃ n', k = n' + 1 := ⟨k - 1, by omega⟩
    rw [gX1_greatestFor_L19, h5, w32_id (a := (p : Int)) (by omega), w32_id (a := (P : Int)) (by omega), if_pos (by omega)]
    rfl
  | succ m ih =>
    intro k p v h1 h2 h3
    obtain ⟨k, rfl⟩ : ∃ n', k = n' + 1 := ⟨k - 1, by omega⟩
    have e : hmP c (σ 6) f ov g s (m + 1) p v = hmP c (σ 6) f ov g s m ((p : Int) + 1) (if 0 < σ 6 (6 * g + p) ∧ 0 < dgI c (p : Int).toNat s then (if v < σ 6 (6 * g + p) * ov + f (s - stI c (p : Int).toNat) then σ 6 (6 * g + p) * ov + f (s - stI c (p : Int).toNat) else v) else v) := rfl
    rw [Int.toNat_natCast] at e
    have a1 := hw (6 * g + p) (by omega) (by omega)
    have e6 : σ (1 + 5) (6 * g + p) = σ 6 (6 * g + p) := rfl
    rw [gX1_greatestFor_L19, h5, w32_id (a := (p : Int)) (by omega), w32_id (a := (P : Int)) (by omega), if_neg (by omega), worthAt_eq hg (by omega), Option.bind_some, e6, w32_id (a := σ 6 (6 * g + p)) (by omega), isOpen_eq hc hP (by omega) hsh hs (by omega), Option.bind_some, tv_if0, e]
    unfold gX1_greatestFor_L73
    have stay : gX1_greatestFor_L19 F σ g ((n : Int) + 1) s k v ((p : Int) + 1) = some (hmP c (σ 6) f ov g s m ((p : Int) + 1) v) := ih k (p + 1) v (by omega) h2 (by omega)
    by_cases q1 : 0 < σ 6 (6 * g + p)
    · rw [if_neg (by omega)]
      by_cases q2 : 0 < dgI c p s
      · have a2 := hf (s - stI c p)
        have a3 : 0 ≤ σ 6 (6 * g + p) * ov := Int.mul_nonneg a1.1 ho2.1
        have a4 : σ 6 (6 * g + p) * ov ≤ 99 * 300000000000 := Int.le_trans (Int.mul_le_mul_of_nonneg_right a1.2 ho2.1) (Int.mul_le_mul_of_nonneg_left ho2.2 (by decide))
        rw [if_pos q2, byPost_eq (f := f) hc hP h324 hsh hw hg hn hs (by omega) q2 ho (hr p (by omega) q2), Option.bind_some, w64_id (a := v) (by omega), w64_id (a := σ 6 (6 * g + p) * ov + f (s - stI c p)) (by omega), if_pos (show 0 < σ 6 (6 * g + p) ∧ 0 < dgI c p s from ⟨q1, q2⟩)]
        have em : (if σ 6 (6 * g + p) * ov + f (s - stI c p) < v then v else σ 6 (6 * g + p) * ov + f (s - stI c p)) = (if v < σ 6 (6 * g + p) * ov + f (s - stI c p) then σ 6 (6 * g + p) * ov + f (s - stI c p) else v) := by
          split <;> split <;> omega
        rw [em]
        exact ih k (p + 1) (if v < σ 6 (6 * g + p) * ov + f (s - stI c p) then σ 6 (6 * g + p) * ov + f (s - stI c p) else v) (by omega) (by split <;> omega) (by omega)
      · rw [if_neg q2, if_neg (fun z => q2 z.2)]
        exact stay
    · rw [if_pos (by omega), if_neg (fun z => q1 z.1)]
      exact stay
