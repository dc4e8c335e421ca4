-- PURE LAYER: meanOfRanks
theorem lowest_mul {F : Nat} (hF : 1000 ≤ F) {σ τ : St} {v K b : Int} (hv : 0 ≤ v ∧ v ≤ 6000) (hK : 0 < K ∧ K ≤ 5000) : gX10_inLowestTerms F σ v 1 b = some (if w32 b ≠ 0 then 1 else v) ∧ gX11_lowest F τ (K * v) K b = some (if w32 b ≠ 0 then 1 else v) := by
  have kv0 : 0 ≤ K * v := Int.mul_nonneg (by omega) hv.1
  have kv1 : K * v ≤ 5000 * 6000 := Int.le_trans (Int.mul_le_mul_of_nonneg_right hK.2 hv.1) (Int.mul_le_mul_of_nonneg_left hv.2 (by decide))
  have m0 : K * v % K = 0 := Int.mul_emod_right K v
  have m1 : v % 1 = 0 := Int.emod_one v
  obtain ⟨n, hn⟩ : ∃ n, F = n + 1 + 1 := ⟨F - 2, by omega⟩
  have d1 : ldv v 1 = v := by rw [ldv_eq (by omega) (by omega)]; exact Int.ediv_one v
  have d2 : ldv 1 1 = 1 := by decide
  have d3 : ldv (K * v) K = v := by rw [ldv_eq (by omega) (by omega)]; exact Int.mul_ediv_cancel_left v (by omega)
  have d4 : ldv K K = 1 := by rw [ldv_eq (by omega) (by omega)]; exact Int.ediv_self (by omega)
  have w0 : w64 0 = 0 := w64_0
  constructor
  · have c : gX10_commonDivisor F σ v 1 = some 1 := by
      unfold gX10_commonDivisor
      rw [hn, gX10_commonDivisor_L9, if_neg (by decide), w64_id (a := 1) (by omega), if_neg (by omega), gd_pos (by omega), lrm_eq (by omega) (by omega), m1, gX10_commonDivisor_L9, if_neg (by decide), w0, if_pos rfl]
    unfold gX10_inLowestTerms gX10_inLowestTerms_L17
    rw [c, Option.bind_some, w64_id (a := 1) (by omega)]
    have n0 : ¬ (1 : Int) ≤ 0 := by omega
    have n1 : (1 : Int) ≠ 0 := by omega
    simp only [if_neg n0, gd_pos n1, d1, d2]
    split <;> rfl
  · unfold gX11_lowest
    rw [hn, gX11_lowest_L6, w64_id (a := K) (by omega), if_neg (by omega), gd_pos (by omega), lrm_eq (by omega) (by omega), m0, gX11_lowest_L6, w0, if_pos rfl, w64_id (a := K) (by omega), gd_pos (by omega), gd_pos (by omega), d3, d4]
    split <;> rfl
theorem hasKey_2 {F : Nat} {σ : St} {x : Int} (hR : RuC σ x) : ∀ (m n : Nat) (i : Int), 0 ≤ i → i + m = σ x 8 → m < n → ∃ v, gX5_hasKey_L2 F σ x 3 n i = some v ∧ (v = 1 ∨ v = 0 ∧ ∀ j, i ≤ j → j < σ x 8 → σ (x + 1) j ≠ 3) := by
  obtain ⟨a1, a2, -⟩ := hR
  intro m
  induction m with
  | zero =>
    intro n i h1 h2 h3
    obtain ⟨n, rfl⟩ : ∃ n', n = n' + 1 := ⟨n - 1, by omega⟩
    exact ⟨0, by rw [gX5_hasKey_L2, w32_id (a := i) (by omega), w32_id (a := σ x 8) (by omega), if_pos (by omega)], Or.inr ⟨rfl, fun j q1 q2 => by omega⟩⟩
  | succ m ih =>
    intro n i h1 h2 h3
    obtain ⟨n, rfl⟩ : ∃ n', n = n' + 1 := ⟨n - 1, by omega⟩
    have b := (a2 i h1 (by omega)).1
    rw [gX5_hasKey_L2, w32_id (a := i) (by omega), w32_id (a := σ x 8) (by omega), if_neg (by omega), gd_pos (by omega), w32_id (a := σ (x + 1) i) (by omega), w32_id (a := 3) (by omega)]
    by_cases z : σ (x + 1) i = 3
    · rw [if_neg (fun y => y z)]; exact ⟨1, rfl, Or.inl rfl⟩
    · rw [if_pos z]
      obtain ⟨v, e1, e2⟩ := ih n (i + 1) (by omega) (by omega) (by omega)
      refine ⟨v, e1, ?_⟩
      rcases e2 with w | w
      · exact Or.inl w
      · refine Or.inr ⟨w.1, fun j q1 q2 => ?_⟩
        by_cases y : j = i
        · rw [y]; exact z
        · exact w.2 j (by omega) q2
theorem asks_2 {F : Nat} (hF : 100 ≤ F) {σ : St} {x : Int} (hR : RuC σ x) : ∀ (m n : Nat) (i : Int), 0 ≤ i → i + m = σ x 9 → m < n → ∃ v, gX5_asksRank_L2 F σ x n i = some v ∧ (v = 1 ∨ v = 0 ∧ (∀ j, 0 ≤ j → j < σ x 8 → σ (x + 1) j ≠ 3) ∧ ∀ j, i ≤ j → j < σ x 9 → σ (x + 3) j ≠ 3) := by
  obtain ⟨a1, a2, a3, a4, -⟩ := id hR
  intro m
  induction m with
  | zero =>
    intro n i h1 h2 h3
    obtain ⟨n, rfl⟩ : ∃ n', n = n' + 1 := ⟨n - 1, by omega⟩
    obtain ⟨v, e1, e2⟩ := hasKey_2 (F := F) hR (σ x 8).toNat F 0 (by omega) (by omega) (by omega)
    refine ⟨v, ?_, ?_⟩
    · rw [gX5_asksRank_L2, w32_id (a := i) (by omega), w32_id (a := σ x 9) (by omega), if_pos (by omega)]
      unfold gX5_hasKey
      rw [e1, Option.bind_some, b1_01 (by omega)]
    · rcases e2 with w | w
      · exact Or.inl w
      · exact Or.inr ⟨w.1, fun j q1 q2 => w.2 j q1 q2, fun j q1 q2 => by omega⟩
  | succ m ih =>
    intro n i h1 h2 h3
    obtain ⟨n, rfl⟩ : ∃ n', n = n' + 1 := ⟨n - 1, by omega⟩
    have b := (a4 i h1 (by omega)).1
    rw [gX5_asksRank_L2, w32_id (a := i) (by omega), w32_id (a := σ x 9) (by omega), if_neg (by omega), gd_pos (by omega), w32_id (a := σ (x + 3) i) (by omega)]
    by_cases z : σ (x + 3) i = 3
    · rw [if_neg (fun y => y z)]; exact ⟨1, rfl, Or.inl rfl⟩
    · rw [if_pos z]
      obtain ⟨v, e1, e2⟩ := ih n (i + 1) (by omega) (by omega) (by omega)
      refine ⟨v, e1, ?_⟩
      rcases e2 with w | w
      · exact Or.inl w
      · refine Or.inr ⟨w.1, w.2.1, fun j q1 q2 => ?_⟩
        by_cases y : j = i
        · rw [y]; exact z
        · exact w.2.2 j (by omega) q2
/-- the sum over all ways to give the ranks, and how many -/
def rsum (F : Nat) (σ : St) (r : Int) (τ : St) : Int := suml ((dfsO (σ 1 5).toNat (σ 1 5).toNat []).map fun L => VR F r τ (rhoL σ L))
def rway (σ : St) : Int := (dfsO (σ 1 5).toNat (σ 1 5).toNat []).length
def RkMean (F : Nat) (σ : St) (r : Int) : Prop := (-1 ≤ σ (70 + 12 * r) 0 ∧ σ (70 + 12 * r) 0 ≤ σ 1 7) ∧ (σ 0 12 ≤ r → σ (70 + 12 * r) 0 = -1) ∧ (σ (70 + 12 * r) 0 = σ 1 7 → ∀ τ, Loaded σ r τ → (σ (70 + 12 * r) 1 = rsum F σ r τ ∧ σ (70 + 12 * r) 2 = rway σ) ∨ (NoRk σ (63 + 12 * r) ∧ σ (70 + 12 * r) 1 = VR F r τ (rhoL σ (idL (σ 1 5).toNat)) ∧ σ (70 + 12 * r) 2 = 1))
theorem Loaded.back {σ σ' τ : St} {r : Int} (h : Loaded σ' r τ) (hs : ∀ a, 1 ≤ a ∧ a ≤ 6 ∨ 63 + 12 * r ≤ a ∧ a ≤ 68 + 12 * r → σ' a = σ a) : Loaded σ r τ := by
  obtain ⟨h2, h3, h4⟩ := h
  have b17 : bd 17 = 1 := by decide
  refine ⟨?_, h3, fun c q1 q2 => by rw [h4 c q1 q2, hs c (by omega)]⟩
  unfold RelE at h2 ⊢
  rw [b17] at h2 ⊢
  rw [hs 1 (by omega), hs (1 + 1) (by omega), hs (1 + 2) (by omega), hs (1 + 3) (by omega), hs (1 + 5) (by omega)] at h2
  exact h2
theorem RkMean.frame {F : Nat} {σ σ' : St} {r : Int} (hr : 0 ≤ r) (h : RkMean F σ r) (h1 : ∀ a, 1 ≤ a ∧ a ≤ 6 ∨ 63 + 12 * r ≤ a ∧ a ≤ 68 + 12 * r → σ' a = σ a) (h2 : ∀ b, 0 ≤ b → b ≤ 4 → σ' (70 + 12 * r) b = σ (70 + 12 * r) b) (h0 : σ' 0 12 = σ 0 12) : RkMean F σ' r := by
  obtain ⟨k1, k2, k3⟩ := h
  have er : rhoL σ' = rhoL σ := by funext L p; unfold rhoL; rw [h1 1 (by omega), h1 3 (by omega)]
  have es : rsum F σ' r = rsum F σ r := by funext τ; unfold rsum; rw [er, h1 1 (by omega)]
  have ew : rway σ' = rway σ := by unfold rway; rw [h1 1 (by omega)]
  refine ⟨by rw [h2 0 (by omega) (by omega), h1 1 (by omega)]; exact k1, by rw [h2 0 (by omega) (by omega), h0]; exact k2, ?_⟩
  rw [h2 0 (by omega) (by omega), h2 1 (by omega) (by omega), h2 2 (by omega) (by omega), h1 1 (by omega), es, ew, er]
  unfold NoRk
  rw [h1 (63 + 12 * r) (by omega), h1 (63 + 12 * r + 1) (by omega), h1 (63 + 12 * r + 3) (by omega)]
  exact fun q τ hτ => k3 q τ (hτ.back h1)
theorem RkMean.grow {F : Nat} {σ σ' : St} {r : Int} (h : RkMean F σ r) (hv : σ 1 7 < σ' 1 7) (h2 : σ' (70 + 12 * r) 0 = σ (70 + 12 * r) 0) (h0 : σ' 0 12 = σ 0 12) : RkMean F σ' r := by
  obtain ⟨k1, k2, k3⟩ := h
  refine ⟨by rw [h2]; omega, by rw [h2, h0]; exact k2, fun q => ?_⟩
  rw [h2] at q
  omega
theorem copyOf_eq {σ : St} : ∃ s, gX0_copyOf σ 27 1 = some s ∧ (s 27 5 = σ 1 5 ∧ s 27 6 = σ 1 6) ∧ (∀ p, 0 ≤ p → p < 6 → s 28 p = σ 2 p ∧ s 29 p = σ 3 p ∧ s 30 p = σ 4 p) ∧ (∀ j, 0 ≤ j → j < 54 → s 32 j = σ 6 j) ∧ ∀ a, ¬ (27 ≤ a ∧ a ≤ 32) → s a = σ a := by
  have cc : ∀ (τ : St) (k1 k2 N a : Int), a ≠ k2 → copyS τ k1 k2 N a = τ a := fun τ k1 k2 N a h => by funext b; unfold copyS; rw [if_neg (by omega)]
  have ca : ∀ (τ : St) (k1 k2 N b : Int), 0 ≤ b → b < N → copyS τ k1 k2 N k2 b = τ k1 b := fun τ k1 k2 N b h1 h2 => by unfold copyS; rw [if_pos ⟨rfl, h1, h2⟩]
  unfold gX0_copyOf
  have c0 : ∀ a, ¬ (27 ≤ a ∧ a ≤ 32) → copyS (copyS (copyS (copyS σ (1 + 1) (27 + 1) 6) (1 + 2) (27 + 2) 6) (1 + 3) (27 + 3) 6) (1 + 5) (27 + 5) 54 a = σ a := fun a q => by rw [cc _ _ _ _ a (by omega), cc _ _ _ _ a (by omega), cc _ _ _ _ a (by omega), cc _ _ _ _ a (by omega)]
  have c28 : ∀ p, 0 ≤ p → p < 6 → copyS (copyS (copyS (copyS σ (1 + 1) (27 + 1) 6) (1 + 2) (27 + 2) 6) (1 + 3) (27 + 3) 6) (1 + 5) (27 + 5) 54 28 p = σ 2 p := fun p q1 q2 => by rw [cc _ _ _ _ 28 (by omega), cc _ _ _ _ 28 (by omega), cc _ _ _ _ 28 (by omega)]; exact ca _ _ _ _ p q1 q2
  have c29 : ∀ p, 0 ≤ p → p < 6 → copyS (copyS (copyS (copyS σ (1 + 1) (27 + 1) 6) (1 + 2) (27 + 2) 6) (1 + 3) (27 + 3) 6) (1 + 5) (27 + 5) 54 29 p = σ 3 p := fun p q1 q2 => by
    rw [cc _ _ _ _ 29 (by omega), cc _ _ _ _ 29 (by omega)]
    exact (ca _ _ _ _ p q1 q2).trans (by rw [cc _ _ _ _ (1 + 2) (by omega)]; rfl)
  have c30 : ∀ p, 0 ≤ p → p < 6 → copyS (copyS (copyS (copyS σ (1 + 1) (27 + 1) 6) (1 + 2) (27 + 2) 6) (1 + 3) (27 + 3) 6) (1 + 5) (27 + 5) 54 30 p = σ 4 p := fun p q1 q2 => by
    rw [cc _ _ _ _ 30 (by omega)]
    exact (ca _ _ _ _ p q1 q2).trans (by rw [cc _ _ _ _ (1 + 3) (by omega), cc _ _ _ _ (1 + 3) (by omega)]; rfl)
  have c32 : ∀ p, 0 ≤ p → p < 54 → copyS (copyS (copyS (copyS σ (1 + 1) (27 + 1) 6) (1 + 2) (27 + 2) 6) (1 + 3) (27 + 3) 6) (1 + 5) (27 + 5) 54 32 p = σ 6 p := fun p q1 q2 =>
    (ca _ _ _ _ p q1 q2).trans (by rw [cc _ _ _ _ (1 + 5) (by omega), cc _ _ _ _ (1 + 5) (by omega), cc _ _ _ _ (1 + 5) (by omega)]; rfl)
  generalize copyS (copyS (copyS (copyS σ (1 + 1) (27 + 1) 6) (1 + 2) (27 + 2) 6) (1 + 3) (27 + 3) 6) (1 + 5) (27 + 5) 54 = t at *
  refine ⟨_, rfl, ⟨?_, ?_⟩, fun p q1 q2 => ⟨?_, ?_, ?_⟩, fun j q1 q2 => ?_, fun a q => ?_⟩
  · rw [up_at, if_neg (by omega), up_self, c0 1 (by omega)]
  · rw [up_self, up_at, if_neg (by omega), c0 1 (by omega)]
  · rw [up_cell (by omega), up_cell (by omega)]; exact c28 p q1 q2
  · rw [up_cell (by omega), up_cell (by omega)]; exact c29 p q1 q2
  · rw [up_cell (by omega), up_cell (by omega)]; exact c30 p q1 q2
  · rw [up_cell (by omega), up_cell (by omega)]; exact c32 j q1 q2
  · rw [up_cell (by omega), up_cell (by omega)]; exact c0 a q
