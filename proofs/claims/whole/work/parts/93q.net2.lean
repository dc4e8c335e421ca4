-- PURE LAYER: net, the worths
theorem stW_put (σ : St) (w : Int → Int) (v j x y : Int) : up (up (stW σ w v) 6 j x) 1 7 y = stW σ (upf w j x) y := by
  funext a b
  unfold stW upf
  rw [up_at, up_at]
  by_cases q1 : a = 1 ∧ b = 7
  · rw [if_pos q1, if_neg (by omega), if_pos q1]
  · rw [if_neg q1, if_neg q1, if_neg q1]
    by_cases q2 : a = 6
    · rw [if_pos q2, if_pos q2]
      by_cases q3 : b = j
      · rw [if_pos ⟨q2, q3⟩, if_pos q3]
      · rw [if_neg (fun z => q3 z.2), if_neg q3]
    · rw [if_neg (fun z => q2 z.1), if_neg q2, if_neg q2]
theorem stW_6 (σ : St) (w : Int → Int) (v : Int) : stW σ w v 6 = w := by funext b; unfold stW; rw [if_pos rfl]
theorem stW_o {σ : St} {w : Int → Int} {v a b : Int} (h1 : a ≠ 6) (h2 : ¬ (a = 1 ∧ b = 7)) : stW σ w v a b = σ a b := by unfold stW; rw [if_neg h1, if_neg h2]
theorem stW_17 (σ : St) (w : Int → Int) (v : Int) : stW σ w v 1 7 = v := by unfold stW; rw [if_neg (by omega), if_pos ⟨rfl, rfl⟩]
theorem readW_23 (F : Nat) (σ : St) (k c : Int) (hk : 7 ≤ k) (c8 : Int → Int → Int → St → Option (Int × St)) (g : Int) (hg : 0 ≤ g ∧ g < 9) (hP : 0 ≤ σ 1 5 ∧ σ 1 5 ≤ 6) : ∀ (m n : Nat) (x p v : Int) (w : Int → Int), 0 ≤ p → p + m = σ 1 5 → m < n → (∀ j, 0 ≤ j → j < 54 → 0 ≤ w j ∧ w j ≤ 99) → (∀ j, g * σ 1 5 + p ≤ j → j < g * σ 1 5 + p + m → (0 ≤ c + j ∧ c + j < 64) ∧ 0 ≤ σ (k + 1) (c + j) ∧ σ (k + 1) (c + j) ≤ 99) → gX10_readWorths_L23 F k c c8 n x (c + (g * σ 1 5 + p)) g p (stW σ w v) = c8 (x + ntC (σ 1 5) (σ (k + 1)) c m (g * σ 1 5 + p) w) (c + (g * σ 1 5 + p + m)) (g + 1) (stW σ (ntW (σ 1 5) (σ (k + 1)) c m (g * σ 1 5 + p) w) (v + ntC (σ 1 5) (σ (k + 1)) c m (g * σ 1 5 + p) w)) := by
  intro m
  induction m with
  | zero =>
    intro n x p v w h1 h2 h3 hw hc
    obtain ⟨n, rfl⟩ : ∃ n', n = n' + 1 := ⟨n - 1, by omega⟩
    rw [gX10_readWorths_L23, stW_o (by omega) (by omega), w32_id (a := p) (by omega), w32_id (a := σ 1 5) (by omega), if_pos (by omega)]
    simp [ntC, ntW]
  | succ m ih =>
    intro n x p v w h1 h2 h3 hw hc
    obtain ⟨n, rfl⟩ : ∃ n', n = n' + 1 := ⟨n - 1, by omega⟩
    obtain ⟨z1, z2⟩ := hc (g * σ 1 5 + p) (by omega) (by omega)
    have z3 := hw (6 * g + p) (by omega) (by omega)
    have ex := ixN_at (P := σ 1 5) (g := g) (p := p) (by omega)
    have eC : ntC (σ 1 5) (σ (k + 1)) c (m + 1) (g * σ 1 5 + p) w = (if w (6 * g + p) = σ (k + 1) (c + (g * σ 1 5 + p)) then 0 else 1) + ntC (σ 1 5) (σ (k + 1)) c m (g * σ 1 5 + p + 1) (upf w (6 * g + p) (σ (k + 1) (c + (g * σ 1 5 + p)))) := by rw [← ex]; rfl
    have eW : ntW (σ 1 5) (σ (k + 1)) c (m + 1) (g * σ 1 5 + p) w = ntW (σ 1 5) (σ (k + 1)) c m (g * σ 1 5 + p + 1) (upf w (6 * g + p) (σ (k + 1) (c + (g * σ 1 5 + p)))) := by rw [← ex]; rfl
    rw [gX10_readWorths_L23, stW_o (a := 1) (b := 5) (by omega) (by omega), w32_id (a := p) (by omega), w32_id (a := σ 1 5) (by omega), if_neg (by omega)]
    unfold gX0_worthAt gX0_putWorth gX10_readWorths_L77
    rw [show g * 6 + p = 6 * g + p by omega, w32_id (a := 6 * g + p) (by omega), gd_pos (by omega), Option.bind_some, w32_id (a := c + (g * σ 1 5 + p)) (by omega), gd_pos (by omega), gd_pos (by omega), gd_pos (by omega), Option.bind_some, show (1 : Int) + 5 = 6 by rfl, stW_6, stW_o (a := k + 1) (by omega) (by omega), w32_id (a := w (6 * g + p)) (by omega), w32_id (a := σ (k + 1) (c + (g * σ 1 5 + p))) (by omega)]
    have k7 : up (stW σ w v) 6 (6 * g + p) (σ (k + 1) (c + (g * σ 1 5 + p))) 1 7 = v := by rw [up_at, if_neg (by omega), stW_17]
    rw [k7, stW_put]
    have w2 : ∀ j, 0 ≤ j → j < 54 → 0 ≤ upf w (6 * g + p) (σ (k + 1) (c + (g * σ 1 5 + p))) j ∧ upf w (6 * g + p) (σ (k + 1) (c + (g * σ 1 5 + p))) j ≤ 99 := fun j y1 y2 => by
      unfold upf
      split
      · exact z2
      · exact hw j y1 y2
    have ep : c + (g * σ 1 5 + p) + 1 = c + (g * σ 1 5 + (p + 1)) := by omega
    have ei : g * σ 1 5 + p + 1 = g * σ 1 5 + (p + 1) := by omega
    have em : g * σ 1 5 + p + ((m + 1 : Nat) : Int) = g * σ 1 5 + (p + 1) + (m : Int) := by omega
    rw [eC, eW, ep, ei, em]
    by_cases q : w (6 * g + p) = σ (k + 1) (c + (g * σ 1 5 + p))
    · rw [if_pos q, if_pos q, upf_id q]
      rw [ih n x (p + 1) v w (by omega) (by omega) (by omega) hw (fun j y1 y2 => hc j (by omega) (by omega)), Int.zero_add]
    · rw [if_neg q, if_neg q]
      rw [ih n (x + 1) (p + 1) (v + 1) _ (by omega) (by omega) (by omega) w2 (fun j y1 y2 => hc j (by omega) (by omega)), Int.add_assoc x, Int.add_assoc v]
theorem readW_8 (F : Nat) (hF : 100 ≤ F) (σ : St) (k c : Int) (hk : 7 ≤ k) (hP : 0 ≤ σ 1 5 ∧ σ 1 5 ≤ 6) (hG : 0 ≤ σ 1 6 ∧ σ 1 6 ≤ 9) : ∀ (m n : Nat) (x g v : Int) (w : Int → Int), 0 ≤ g → g + m = σ 1 6 → m < n → (∀ j, 0 ≤ j → j < 54 → 0 ≤ w j ∧ w j ≤ 99) → (∀ j, g * σ 1 5 ≤ j → j < g * σ 1 5 + ((m * (σ 1 5).toNat : Nat) : Int) → (0 ≤ c + j ∧ c + j < 64) ∧ 0 ≤ σ (k + 1) (c + j) ∧ σ (k + 1) (c + j) ≤ 99) → gX10_readWorths_L8 F k c n x (c + g * σ 1 5) g (stW σ w v) = some (x + ntC (σ 1 5) (σ (k + 1)) c (m * (σ 1 5).toNat) (g * σ 1 5) w, stW σ (ntW (σ 1 5) (σ (k + 1)) c (m * (σ 1 5).toNat) (g * σ 1 5) w) (v + ntC (σ 1 5) (σ (k + 1)) c (m * (σ 1 5).toNat) (g * σ 1 5) w)) := by
  intro m
  induction m with
  | zero =>
    intro n x g v w h1 h2 h3 hw hc
    obtain ⟨n, rfl⟩ : ∃ n', n = n' + 1 := ⟨n - 1, by omega⟩
    rw [gX10_readWorths_L8, stW_o (by omega) (by omega), w32_id (a := g) (by omega), w32_id (a := σ 1 6) (by omega), if_pos (by omega), Nat.zero_mul]
    simp [ntC, ntW]
  | succ m ih =>
    intro n x g v w h1 h2 h3 hw hc
    obtain ⟨n, rfl⟩ : ∃ n', n = n' + 1 := ⟨n - 1, by omega⟩
    have em : (m + 1) * (σ 1 5).toNat = (σ 1 5).toNat + m * (σ 1 5).toNat := by rw [Nat.add_mul, Nat.one_mul, Nat.add_comm]
    have eg : g * σ 1 5 + (((σ 1 5).toNat : Nat) : Int) = (g + 1) * σ 1 5 := by rw [Int.add_mul, Int.one_mul]; omega
    have e0 : c + g * σ 1 5 = c + (g * σ 1 5 + 0) := by omega
    rw [gX10_readWorths_L8, stW_o (a := 1) (b := 6) (by omega) (by omega), w32_id (a := g) (by omega), w32_id (a := σ 1 6) (by omega), if_neg (by omega), e0]
    rw [em] at hc
    rw [readW_23 F σ k c hk _ g (by omega) hP (σ 1 5).toNat F x 0 v w (by omega) (by omega) (by omega) hw (fun j y1 y2 => hc j (by omega) (by omega))]
    rw [em, ntC_app, ntW_app, Int.add_zero, eg]
    have w2 : ∀ j, 0 ≤ j → j < 54 → 0 ≤ ntW (σ 1 5) (σ (k + 1)) c (σ 1 5).toNat (g * σ 1 5) w j ∧ ntW (σ 1 5) (σ (k + 1)) c (σ 1 5).toNat (g * σ 1 5) w j ≤ 99 := by
      intro j y1 y2
      have := ntW_inv (σ 1 5) (σ (k + 1)) c (fun j x => 0 ≤ j → j < 54 → 0 ≤ x ∧ x ≤ 99) (σ 1 5).toNat (g * σ 1 5) w hw (fun j y1 y2 _ _ => (hc j (by omega) (by omega)).2) j
      exact this y1 y2
    rw [ih n _ (g + 1) _ _ (by omega) (by omega) (by omega) w2 (fun j y1 y2 => hc j (by omega) (by omega)), Int.add_assoc, Int.add_assoc]
theorem net_153 (F : Nat) (a b c : Int) (P G : Int) (cl : Int → Int) (ha : 0 ≤ a ∧ a ≤ 3) (hP : 0 ≤ P ∧ P ≤ 6) (hG : 0 ≤ G ∧ G ≤ 9) (hN : G * P ≤ 54) : ∀ (m n : Nat) (x i : Int) (σ : St), σ 143 0 = P → σ 143 4 = G → (∀ i, 0 ≤ i → i < 64 → σ 180 (64 * a + i) = cl i) → (∀ j, 0 ≤ j → j < 54 → 0 ≤ σ 148 j ∧ σ 148 j ≤ 99) → (∀ j, i ≤ j → j < i + m → (0 ≤ c + j ∧ c + j < 64) ∧ 0 ≤ cl (c + j) ∧ cl (c + j) ≤ 99) → 0 ≤ i → i + m = G * P → m < n → ∃ σ', gX11_net_L153 F a b c n x i σ = some (x + ntC P cl c m i (σ 148), σ') ∧ ∀ k j, σ' k j = if k = 148 then ntW P cl c m i (σ 148) j else σ k j := by
  intro m
  induction m with
  | zero =>
    intro n x i σ e0 e4 hcl hw hc h1 h2 h3
    obtain ⟨n, rfl⟩ : ∃ n', n = n' + 1 := ⟨n - 1, by omega⟩
    refine ⟨σ, ?_, fun k j => ?_⟩
    · rw [gX11_net_L153, e0, e4, w32_id (a := i) (by omega), w32_id (a := G * P) (by omega), if_pos (by omega)]
      simp [ntC]
    · by_cases q : k = 148
      · rw [if_pos q, q]; rfl
      · rw [if_neg q]
  | succ m ih =>
    intro n x i σ e0 e4 hcl hw hc h1 h2 h3
    obtain ⟨n, rfl⟩ : ∃ n', n = n' + 1 := ⟨n - 1, by omega⟩
    have hP0 : 0 < P := by
      by_cases q : P = 0
      · rw [q, Int.mul_zero] at h2; omega
      · omega
    have d1 : 0 ≤ i / P := Int.ediv_nonneg h1 (by omega)
    have d2 : i / P < G := Int.ediv_lt_of_lt_mul hP0 (by omega)
    have d3 : 0 ≤ i % P := Int.emod_nonneg i (by omega)
    have d4 : i % P < P := Int.emod_lt_of_pos i hP0
    obtain ⟨z1, z2⟩ := hc i (by omega) (by omega)
    have z3 := hw (ixN P i) (by unfold ixN; omega) (by unfold ixN; omega)
    have zc : σ 180 (64 * a + c + i) = cl (c + i) := by rw [Int.add_assoc]; exact hcl (c + i) z1.1 z1.2
    let τ := up σ 148 (ixN P i) (cl (c + i))
    have t1 : τ 148 = upf (σ 148) (ixN P i) (cl (c + i)) := up_fn _ _ _ _
    have to : ∀ k, k ≠ 148 → τ k = σ k := fun k q => up_cell q
    obtain ⟨σ', s1, s2⟩ := ih n (x + (if σ 148 (ixN P i) = cl (c + i) then 0 else 1)) (i + 1) τ (by rw [to 143 (by omega), e0]) (by rw [to 143 (by omega), e4]) (fun i y1 y2 => by rw [to 180 (by omega)]; exact hcl i y1 y2) (fun j y1 y2 => by
      rw [t1]; unfold upf
      split
      · exact z2
      · exact hw j y1 y2) (fun j y1 y2 => hc j (by omega) (by omega)) (by omega) (by omega) (by omega)
    refine ⟨σ', ?_, fun k j => ?_⟩
    · have eC : ntC P cl c (m + 1) i (σ 148) = (if σ 148 (ixN P i) = cl (c + i) then 0 else 1) + ntC P cl c m (i + 1) (upf (σ 148) (ixN P i) (cl (c + i))) := rfl
      rw [gX11_net_L153, e0, e4, w32_id (a := i) (by omega), w32_id (a := G * P) (by omega), if_neg (by omega), w32_id (a := P) (by omega), gd_pos (by omega), gd_pos (by omega), idv_eq (by omega) (by omega), irm_eq (by omega) (by omega), show 6 * (i / P) + i % P = ixN P i by rfl]
      unfold gX11_net_L222
      have wi : w32 (ixN P i) = ixN P i := w32_id (by unfold ixN; omega)
      have wc : w32 (64 * a + c + i) = 64 * a + c + i := w32_id (by omega)
      have gi : 0 ≤ ixN P i ∧ ixN P i < 54 := by unfold ixN; omega
      rw [wi, wc, zc, gd_pos (by omega), gd_pos gi, gd_pos gi, gd_pos gi, w32_id (a := σ 148 (ixN P i)) (by omega), w32_id (a := cl (c + i)) (by omega), eC, ← t1, ← Int.add_assoc, ← s1]
      by_cases q : σ 148 (ixN P i) = cl (c + i)
      · rw [if_pos q, if_pos q]
      · rw [if_neg q, if_neg q]
    · rw [s2]
      by_cases q : k = 148
      · rw [if_pos q, if_pos q, t1]; rfl
      · rw [if_neg q, if_neg q, to k q]
