-- PURE LAYER: net
def chkN (sz : Int) (cl : Int → Int) (c : Int) : Nat → Int → Option Int
  | 0, _ => none
  | m + 1, i => if 0 ≤ c + i ∧ c + i < sz then (if 0 ≤ cl (c + i) ∧ cl (c + i) ≤ 99 then chkN sz cl c m (i + 1) else some (-100 - i)) else some (-12)
theorem chkN_ok {sz : Int} {cl : Int → Int} {c : Int} : ∀ (m : Nat) (i : Int), chkN sz cl c m i = none → ∀ j, i ≤ j → j < i + m → (0 ≤ c + j ∧ c + j < sz) ∧ 0 ≤ cl (c + j) ∧ cl (c + j) ≤ 99 := by
  intro m
  induction m with
  | zero => intro i _ j h1 h2; omega
  | succ m ih =>
    intro i h j h1 h2
    have h' : (if 0 ≤ c + i ∧ c + i < sz then (if 0 ≤ cl (c + i) ∧ cl (c + i) ≤ 99 then chkN sz cl c m (i + 1) else some (-100 - i)) else some (-12)) = none := h
    by_cases q1 : 0 ≤ c + i ∧ c + i < sz
    · rw [if_pos q1] at h'
      by_cases q2 : 0 ≤ cl (c + i) ∧ cl (c + i) ≤ 99
      · rw [if_pos q2] at h'
        by_cases q3 : j = i
        · subst q3; exact ⟨q1, q2⟩
        · exact ih (i + 1) h' j (by omega) (by omega)
      · rw [if_neg q2] at h'; cases h'
    · rw [if_neg q1] at h'; cases h'
theorem hasCell_eq {σ : St} {k x : Int} (hz : 0 ≤ σ k 2 ∧ σ k 2 ≤ 64) (hx : -2147483648 ≤ x ∧ x ≤ 2147483747) : gX6_hasCell σ k x = some (tv (0 ≤ x ∧ x < σ k 2)) := by
  unfold gX6_hasCell
  rw [w32_id (a := σ k 2) (by omega)]
  have h : w32 x = x ∨ (2147483647 < x ∧ w32 x < 0) := by
    by_cases q : x ≤ 2147483647
    · exact Or.inl (w32_id (by omega))
    · right
      refine ⟨by omega, ?_⟩
      have e : w32 x = w32 (x - 4294967296) := by rw [w32_bmod, w32_bmod, show x - 4294967296 = x - (2 ^ 32 : Nat) by omega, Int.sub_bmod_right]
      rw [e, w32_id (by omega)]; omega
  rcases h with h | ⟨h1, h2⟩
  · rw [h]
    by_cases q1 : x < 0
    · rw [if_pos q1, tv_neg (by omega)]
    · rw [if_neg q1]
      by_cases q2 : x ≥ σ k 2
      · rw [if_pos q2, tv_neg (by omega)]
      · rw [if_neg q2, tv_pos (by omega)]
  · rw [if_pos h2, tv_neg (by omega)]
/-- both loops of checks -/
theorem net_69 (F : Nat) (a b c : Int) (σ : St) (k N : Int) (hz : 0 ≤ σ k 2 ∧ σ k 2 ≤ 64) (hc : w32 c = c) (hN : N ≤ 54) (hcl : ∀ i, 0 ≤ i → i < 64 → w32 (σ (k + 1) i) = σ (k + 1) i) : ∀ (m n : Nat) (i : Int), 0 ≤ i → i + m = N → m < n → gX10_net_L69 F a b c n k N i σ = (chkN (σ k 2) (σ (k + 1)) c m i).elim (if w32 (σ 7 10) ≤ 0 then (gX10_readWorths F σ k c).bind fun r1 => some (r1.1, r1.2) else some ((-2), σ)) (fun r => some (r, σ)) := by
  have cr := w32_rng c
  rw [hc] at cr
  intro m
  induction m with
  | zero =>
    intro n i h1 h2 h3
    obtain ⟨n, rfl⟩ : ∃ n', n = n' + 1 := ⟨n - 1, by omega⟩
    rw [gX10_net_L69, w32_id (a := i) (by omega), w32_id (a := N) (by omega), if_pos (by omega)]
    rfl
  | succ m ih =>
    intro n i h1 h2 h3
    obtain ⟨n, rfl⟩ : ∃ n', n = n' + 1 := ⟨n - 1, by omega⟩
    have e : chkN (σ k 2) (σ (k + 1)) c (m + 1) i = if 0 ≤ c + i ∧ c + i < σ k 2 then (if 0 ≤ σ (k + 1) (c + i) ∧ σ (k + 1) (c + i) ≤ 99 then chkN (σ k 2) (σ (k + 1)) c m (i + 1) else some (-100 - i)) else some (-12) := rfl
    rw [gX10_net_L69, w32_id (a := i) (by omega), w32_id (a := N) (by omega), if_neg (by omega), hasCell_eq hz (by omega), Option.bind_some, tv_if1, e]
    by_cases q1 : 0 ≤ c + i ∧ c + i < σ k 2
    · rw [if_pos q1, if_pos q1, w32_id (a := c + i) (by omega), gd_pos (by omega), gX10_isIn_eq σ (hcl (c + i) q1.1 (by omega)) (by decide) (by decide), Option.bind_some, tv_if1]
      by_cases q2 : 0 ≤ σ (k + 1) (c + i) ∧ σ (k + 1) (c + i) ≤ 99
      · rw [if_pos q2, if_pos q2, ih n (i + 1) (by omega) (by omega) (by omega)]
      · rw [if_neg q2, if_neg q2]; rfl
    · rw [if_neg q1, if_neg q1]; rfl
theorem net_58 (F : Nat) (a b c : Int) (σ : St) (cl : Int → Int) (sz : Int) (ha : 0 ≤ a ∧ a ≤ 3) (hs : σ 179 a = sz) (hz : 0 ≤ sz ∧ sz ≤ 64) (hc : w32 c = c) (hN : σ 143 4 * σ 143 0 ≤ 54) (h0 : 0 ≤ σ 143 4 * σ 143 0) (hcl : ∀ i, 0 ≤ i → i < 64 → σ 180 (64 * a + i) = cl i ∧ w32 (cl i) = cl i) : ∀ (m n : Nat) (i : Int), 0 ≤ i → i + m = σ 143 4 * σ 143 0 → m < n → gX11_net_L58 F a b c n i σ = (chkN sz cl c m i).elim ((gX11_came F σ).bind fun r1 => if w32 r1 ≤ 0 then gX11_net_L153 F a b c F 0 0 σ else some ((-2), σ)) (fun r => some (r, σ)) := by
  have cr := w32_rng c
  rw [hc] at cr
  intro m
  induction m with
  | zero =>
    intro n i h1 h2 h3
    obtain ⟨n, rfl⟩ : ∃ n', n = n' + 1 := ⟨n - 1, by omega⟩
    rw [gX11_net_L58, w32_id (a := i) (by omega), w32_id (a := σ 143 4 * σ 143 0) (by omega), if_pos (by omega)]
    rfl
  | succ m ih =>
    intro n i h1 h2 h3
    obtain ⟨n, rfl⟩ : ∃ n', n = n' + 1 := ⟨n - 1, by omega⟩
    have e : chkN sz cl c (m + 1) i = if 0 ≤ c + i ∧ c + i < sz then (if 0 ≤ cl (c + i) ∧ cl (c + i) ≤ 99 then chkN sz cl c m (i + 1) else some (-100 - i)) else some (-12) := rfl
    rw [gX11_net_L58, w32_id (a := i) (by omega), w32_id (a := σ 143 4 * σ 143 0) (by omega), if_neg (by omega), w32_id (a := a) (by omega), gd_pos (by omega), hs, hc, w32_id (a := sz - 1) (by omega), gX11_in_eq σ (w64_id (by omega)) (by decide) (w64_id (by omega)), Option.bind_some, tv_if1, e]
    by_cases q1 : 0 ≤ c + i ∧ c + i < sz
    · obtain ⟨k1, k2⟩ := hcl (c + i) q1.1 (by omega)
      rw [if_pos (by omega), if_pos q1, l2i_eq (by omega), w32_id (a := 64 * a + (c + i)) (by omega), gd_pos (by omega), k1, k2, gX11_in_eq σ (by rw [← k2]; exact w64w _) (by decide) (by decide), Option.bind_some, tv_if1]
      by_cases q2 : 0 ≤ cl (c + i) ∧ cl (c + i) ≤ 99
      · rw [if_pos q2, if_pos q2, ih n (i + 1) (by omega) (by omega) (by omega)]
      · rw [if_neg q2, if_neg q2]; rfl
    · rw [if_neg (by omega), if_neg q1]; rfl
/-- the worths after m cells, and how many were others -/
def ixN (P i : Int) : Int := 6 * (i / P) + i % P
def ntW (P : Int) (cl : Int → Int) (c : Int) : Nat → Int → (Int → Int) → Int → Int
  | 0, _, w => w
  | m + 1, i, w => ntW P cl c m (i + 1) (upf w (ixN P i) (cl (c + i)))
def ntC (P : Int) (cl : Int → Int) (c : Int) : Nat → Int → (Int → Int) → Int
  | 0, _, _ => 0
  | m + 1, i, w => (if w (ixN P i) = cl (c + i) then 0 else 1) + ntC P cl c m (i + 1) (upf w (ixN P i) (cl (c + i)))
theorem ntW_app (P : Int) (cl : Int → Int) (c : Int) : ∀ (m k : Nat) (i : Int) (w : Int → Int), ntW P cl c (m + k) i w = ntW P cl c k (i + m) (ntW P cl c m i w) := by
  intro m
  induction m with
  | zero => intro k i w; simp [ntW]
  | succ m ih =>
    intro k i w
    rw [show m + 1 + k = (m + k) + 1 by omega]
    show ntW P cl c (m + k) (i + 1) _ = ntW P cl c k (i + ((m + 1 : Nat) : Int)) (ntW P cl c m (i + 1) _)
    rw [ih k (i + 1), show i + 1 + (m : Int) = i + ((m + 1 : Nat) : Int) by omega]
theorem ntC_app (P : Int) (cl : Int → Int) (c : Int) : ∀ (m k : Nat) (i : Int) (w : Int → Int), ntC P cl c (m + k) i w = ntC P cl c m i w + ntC P cl c k (i + m) (ntW P cl c m i w) := by
  intro m
  induction m with
  | zero => intro k i w; simp [ntC, ntW]
  | succ m ih =>
    intro k i w
    rw [show m + 1 + k = (m + k) + 1 by omega]
    show _ + ntC P cl c (m + k) (i + 1) _ = (_ + ntC P cl c m (i + 1) _) + ntC P cl c k (i + ((m + 1 : Nat) : Int)) (ntW P cl c m (i + 1) _)
    rw [ih k (i + 1), show i + 1 + (m : Int) = i + ((m + 1 : Nat) : Int) by omega, Int.add_assoc]
theorem ntC_rng (P : Int) (cl : Int → Int) (c : Int) : ∀ (m : Nat) (i : Int) (w : Int → Int), 0 ≤ ntC P cl c m i w ∧ ntC P cl c m i w ≤ m ∧ (ntC P cl c m i w = 0 → ntW P cl c m i w = w) := by
  intro m
  induction m with
  | zero => intro i w; exact ⟨Int.le_refl _, Int.le_refl _, fun _ => rfl⟩
  | succ m ih =>
    intro i w
    obtain ⟨k1, k2, k3⟩ := ih (i + 1) (upf w (ixN P i) (cl (c + i)))
    have e : ntC P cl c (m + 1) i w = (if w (ixN P i) = cl (c + i) then 0 else 1) + ntC P cl c m (i + 1) (upf w (ixN P i) (cl (c + i))) := rfl
    rw [e]
    by_cases q : w (ixN P i) = cl (c + i)
    · rw [if_pos q]
      refine ⟨by omega, by omega, fun z => ?_⟩
      show ntW P cl c m (i + 1) (upf w (ixN P i) (cl (c + i))) = w
      rw [k3 (by omega), upf_id q]
    · rw [if_neg q]
      exact ⟨by omega, by omega, fun z => by omega⟩
theorem ntW_inv (P : Int) (cl : Int → Int) (c : Int) (Q : Int → Int → Prop) : ∀ (m : Nat) (i : Int) (w : Int → Int), (∀ j, Q j (w j)) → (∀ j, i ≤ j → j < i + m → Q (ixN P j) (cl (c + j))) → ∀ j, Q j (ntW P cl c m i w j) := by
  intro m
  induction m with
  | zero => intro i w h _; exact h
  | succ m ih =>
    intro i w h1 h2
    refine ih (i + 1) _ (fun j => ?_) (fun j q1 q2 => h2 j (by omega) (by omega))
    unfold upf
    split
    · rename_i q; subst q; exact h2 i (by omega) (by omega)
    · exact h1 j
theorem ixN_at {P g p : Int} (hp : 0 ≤ p ∧ p < P) : ixN P (g * P + p) = 6 * g + p := by
  unfold ixN
  rw [Int.add_comm (g * P) p, Int.add_mul_ediv_right p g (by omega), Int.add_mul_emod_self_right, Int.ediv_eq_zero_of_lt hp.1 hp.2, Int.emod_eq_of_lt hp.1 hp.2, Int.zero_add]
/-- the store with other worths -/
def stW (σ : St) (w : Int → Int) (v : Int) : St := fun a b => if a = 6 then w b else if a = 1 ∧ b = 7 then v else σ a b
