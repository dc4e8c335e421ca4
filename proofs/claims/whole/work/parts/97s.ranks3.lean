-- PURE LAYER: ranks by swaps, the class
def swL (L : List Int) (i j : Nat) : List Int := (List.range L.length).map fun b => if b = i then L.getD j 0 else if b = j then L.getD i 0 else L.getD b 0
def rowsS (f : Nat → List (List Int)) : Nat → Nat → List (List Int)
  | 0, _ => []
  | j + 1, p => f p ++ rowsS f j (p + 1)
def dfsS (P : Nat) : Nat → Nat → List Int → List (List Int)
  | 0, _, L => [L]
  | m + 1, d, L => rowsS (fun p => dfsS P m (d + 1) (swL L d p)) (P - d) d
def idL (P : Nat) : List Int := (List.range P).map fun (b : Nat) => (b : Int)
def tabP (P : Nat) : Bool := (dfsS P P 0 (idL P)).isPerm (dfsO P P [])
theorem tabP_0 : tabP 0 = true := by decide +kernel
theorem tabP_1 : tabP 1 = true := by decide +kernel
theorem tabP_2 : tabP 2 = true := by decide +kernel
theorem tabP_3 : tabP 3 = true := by decide +kernel
theorem tabP_4 : tabP 4 = true := by decide +kernel
theorem tabP_5 : tabP 5 = true := by decide +kernel
theorem tabP_6 : tabP 6 = true := by decide +kernel
theorem perms {P : Nat} (h : P ≤ 6) : (dfsS P P 0 (idL P)).Perm (dfsO P P []) := by
  have t : tabP P = true := by
    have : P = 0 ∨ P = 1 ∨ P = 2 ∨ P = 3 ∨ P = 4 ∨ P = 5 ∨ P = 6 := by omega
    rcases this with rfl | rfl | rfl | rfl | rfl | rfl | rfl
    · exact tabP_0
    · exact tabP_1
    · exact tabP_2
    · exact tabP_3
    · exact tabP_4
    · exact tabP_5
    · exact tabP_6
  exact List.isPerm_iff.mp t
theorem swL_len (L : List Int) (i j : Nat) : (swL L i j).length = L.length := by unfold swL; simp
theorem swL_at {L : List Int} {i j b : Nat} (hb : b < L.length) : lF (swL L i j) b = if b = i then lF L j else if b = j then lF L i else lF L b := by
  unfold lF swL
  simp only [Int.toNat_natCast]
  rw [List.getD_eq_getElem?_getD, List.getElem?_map, List.getElem?_range hb]
  rfl
/-- the ranks as list L gives them to the posts -/
def rhoL (σ0 : St) (L : List Int) (p : Int) : Int := if 0 ≤ p ∧ p < σ0 1 5 then σ0 3 (lF L p) else σ0 3 p
def LOK (P : Nat) (L : List Int) : Prop := L.length = P ∧ ∀ b : Nat, b < P → 0 ≤ lF L b ∧ lF L b < P
theorem LOK.sw {P : Nat} {L : List Int} {i j : Nat} (h : LOK P L) (hi : i < P) (hj : j < P) : LOK P (swL L i j) := by
  refine ⟨by rw [swL_len]; exact h.1, fun b hb => ?_⟩
  rw [swL_at (by rw [h.1]; exact hb)]
  repeat' split
  · exact h.2 j hj
  · exact h.2 i hi
  · exact h.2 b hb
theorem LOK.rk {σ0 : St} {P : Nat} {L : List Int} (h : LOK P L) (hB : BdOK σ0 1) (hP : σ0 1 5 = (P : Int)) : RkOK σ0 (rhoL σ0 L) := by
  intro p q1 q2
  have := h.2 p.toNat (by omega)
  rw [Int.toNat_of_nonneg q1] at this
  unfold rhoL
  rw [if_pos ⟨q1, q2⟩]
  have b := (hB.2.2.1 (lF L p) this.1 (by omega)).2.1
  exact b
theorem swap_eq {σ0 σ : St} {P : Nat} {L : List Int} {i j : Nat} (hP : σ0 1 5 = (P : Int)) (hP6 : P ≤ 6) (hL : LOK P L) (hi : i < P) (hj : j < P) (ht : TB σ0 σ (rhoL σ0 L)) : ∃ σ', gX0_swapRanks σ 27 i j = some σ' ∧ TB σ0 σ' (rhoL σ0 (swL L i j)) ∧ ∀ a, a ≠ 29 → σ' a = σ a := by
  have ti := (ht.2.1 i (by omega) (by omega)).2.1
  have tj := (ht.2.1 j (by omega) (by omega)).2.1
  refine ⟨up (up σ 29 i (σ 29 j)) 29 j (σ 29 i), ?_, ⟨?_, fun p q1 q2 => ?_, fun x q1 q2 => ?_⟩, fun a q => by rw [up_cell q, up_cell q]⟩
  · unfold gX0_swapRanks
    rw [w32_id (a := (i : Int)) (by omega), w32_id (a := (j : Int)) (by omega), gd_pos (by omega), gd_pos (by omega), gd_pos (by omega), gd_pos (by omega)]
    rfl
  · rw [up_cell (by omega), up_cell (by omega)]; exact ht.1
  · obtain ⟨a1, a2, a3⟩ := ht.2.1 p q1 q2
    have e28 : up (up σ 29 i (σ 29 j)) 29 j (σ 29 i) 28 = σ 28 := by rw [up_cell (by omega), up_cell (by omega)]
    have e30 : up (up σ 29 i (σ 29 j)) 29 j (σ 29 i) 30 = σ 30 := by rw [up_cell (by omega), up_cell (by omega)]
    rw [e28, e30]
    refine ⟨a1, ?_, a3⟩
    rw [up_at, up_at]
    unfold rhoL at ti tj a2 ⊢
    rw [if_pos (by omega)] at ti tj
    by_cases z : p < P
    · have sw := swL_at (L := L) (i := i) (j := j) (b := p.toNat) (by rw [hL.1]; omega)
      rw [Int.toNat_of_nonneg q1] at sw
      have hz : 0 ≤ p ∧ p < σ0 1 5 := by omega
      simp only [if_pos hz] at a2 ⊢
      rw [sw]
      by_cases y1 : p = j
      · rw [if_pos ⟨trivial, y1⟩, ti]
        by_cases y2 : p.toNat = i
        · have : (i : Int) = j := by omega
          rw [if_pos y2, this]
        · rw [if_neg y2, if_pos (by omega)]
      · rw [if_neg (fun w => y1 w.2)]
        by_cases y2 : p = i
        · rw [if_pos ⟨trivial, y2⟩, tj, if_pos (by omega)]
        · rw [if_neg (fun w => y2 w.2), a2, if_neg (by omega), if_neg (by omega)]
    · have hz : ¬ (0 ≤ p ∧ p < σ0 1 5) := by omega
      simp only [if_neg hz] at a2 ⊢
      rw [if_neg (by omega), if_neg (by omega), a2]
  · rw [up_cell (by omega), up_cell (by omega)]; exact ht.2.2 x q1 q2
/-- swapped twice -/
theorem rho_back {σ0 : St} {P : Nat} {L : List Int} {i j : Nat} (hP : σ0 1 5 = (P : Int)) (hL : LOK P L) (hi : i < P) (hj : j < P) : rhoL σ0 (swL (swL L i j) i j) = rhoL σ0 L := by
  funext p
  unfold rhoL
  by_cases z : 0 ≤ p ∧ p < σ0 1 5
  · rw [if_pos z, if_pos z]
    have hl : p.toNat < L.length := by rw [hL.1]; omega
    have s1 := swL_at (L := swL L i j) (i := i) (j := j) (b := p.toNat) (by rw [swL_len]; exact hl)
    have s2 := swL_at (L := L) (i := i) (j := j) (b := p.toNat) hl
    have s3 := swL_at (L := L) (i := i) (j := j) (b := i) (by rw [hL.1]; exact hi)
    have s4 := swL_at (L := L) (i := i) (j := j) (b := j) (by rw [hL.1]; exact hj)
    rw [Int.toNat_of_nonneg z.1] at s1 s2
    rw [if_pos rfl] at s3
    have s4' : lF (swL L i j) j = lF L i := by
      rw [s4]
      by_cases y : j = i
      · rw [if_pos y, y]
      · rw [if_neg y, if_pos rfl]
    rw [s1, s4', s3, s2]
    by_cases y1 : p.toNat = i
    · have e : p = (i : Int) := by omega
      rw [if_pos y1, e]
    · rw [if_neg y1]
      by_cases y2 : p.toNat = j
      · have e : p = (j : Int) := by omega
        rw [if_pos y2, e]
      · rw [if_neg y2, if_neg y1, if_neg y2]
  · rw [if_neg z, if_neg z]
def OvS (F : Nat) (r : Int) (σ0 τc σ : St) (R : List (List Int)) (σ' : St) : Prop :=
  MF σ' (70 + 12 * r) = (R.map fun L => VR F r τc (rhoL σ0 L)).foldl mAdd (MF σ (70 + 12 * r)) ∧ (∀ N : Nat, MR (MF σ (70 + 12 * r)) (R.length + N) → MR (MF σ' (70 + 12 * r)) N) ∧ ∀ a b, ¬ (33 ≤ a ∧ a ≤ 42) → a ≠ 29 → ¬ (a = 70 + 12 * r ∧ 1 ≤ b ∧ b ≤ 4) → σ' a b = σ a b
theorem overR_38 {F : Nat} (hF : 100 ≤ F) {r : Int} (hr : 0 ≤ r ∧ r < 6) {σ0 τc : St} {P : Nat} (hP : σ0 1 5 = (P : Int)) (hP6 : P ≤ 6) {L : List Int} (hL : LOK P L) {d : Nat} (hd : d < P) {f : Nat → List (List Int)} {rc : St → Int → Int → Int → Int → Option St}
    (hrc : ∀ (p : Nat) (σ : St), p < P → TB σ0 σ (rhoL σ0 (swL L d p)) → (∀ c, 63 + 12 * r ≤ c → c ≤ 68 + 12 * r → σ c = σ0 c) → MR (MF σ (70 + 12 * r)) (f p).length → ∃ σ', rc σ 33 (63 + 12 * r) (70 + 12 * r) ((d : Int) + 1) = some σ' ∧ TB σ0 σ' (rhoL σ0 (swL L d p)) ∧ OvS F r σ0 τc σ (f p) σ') :
    ∀ (j k p : Nat) (σ : St), p + j = P → d ≤ p → TB σ0 σ (rhoL σ0 L) → (∀ c, 63 + 12 * r ≤ c → c ≤ 68 + 12 * r → σ c = σ0 c) → MR (MF σ (70 + 12 * r)) (rowsS f j p).length → j < k → ∃ σ', gX10_overRanks_L38 F rc 33 (63 + 12 * r) (70 + 12 * r) d k p σ = some σ' ∧ TB σ0 σ' (rhoL σ0 L) ∧ OvS F r σ0 τc σ (rowsS f j p) σ' := by
  have b33 : bd 33 = 27 := by decide
  intro j
  induction j with
  | zero =>
    intro k p σ h1 h2 h3 h4 h5 h6
    obtain ⟨k, rfl⟩ : ∃ n', k = n' + 1 := ⟨k - 1, by omega⟩
    refine ⟨σ, by rw [gX10_overRanks_L38, b33, h3.1.1, hP, w32_id (a := (p : Int)) (by omega), w32_id (a := (P : Int)) (by omega), if_pos (by omega)], h3, rfl, fun N hN => by have : rowsS f 0 p = [] := rfl; rw [this] at hN; simpa using hN, fun _ _ _ _ _ => rfl⟩
  | succ j ih =>
    intro k p σ h1 h2 h3 h4 h5 h6
    obtain ⟨k, rfl⟩ : ∃ n', k = n' + 1 := ⟨k - 1, by omega⟩
    have er : rowsS f (j + 1) p = f p ++ rowsS f j (p + 1) := rfl
    rw [er, List.length_append] at h5
    rw [er]
    obtain ⟨σ1, a1, a2, a3⟩ := swap_eq hP hP6 hL hd (j := p) (by omega) h3
    have m1 : MF σ1 (70 + 12 * r) = MF σ (70 + 12 * r) := by unfold MF; rw [a3 (70 + 12 * r) (by omega)]
    obtain ⟨σ2, b1', b2, b3, b4, b5⟩ := hrc p σ1 (by omega) a2 (fun c q1 q2 => by rw [a3 c (by omega)]; exact h4 c q1 q2) (by
      rw [m1]
      obtain ⟨y1, y2, y3, y4⟩ := h5
      exact ⟨y1, by omega, y3, y4⟩)
    rw [m1] at b3 b4
    obtain ⟨σ3, c1, c2, c3⟩ := swap_eq hP hP6 (hL.sw hd (j := p) (by omega)) hd (j := p) (by omega) b2
    rw [rho_back hP hL hd (by omega)] at c2
    have m3 : MF σ3 (70 + 12 * r) = MF σ2 (70 + 12 * r) := by unfold MF; rw [c3 (70 + 12 * r) (by omega)]
    have fo : ∀ a b, ¬ (33 ≤ a ∧ a ≤ 42) → a ≠ 29 → ¬ (a = 70 + 12 * r ∧ 1 ≤ b ∧ b ≤ 4) → σ3 a b = σ a b := fun a b q1 q2 q3 => by rw [c3 a q2, b5 a b q1 q2 q3, a3 a q2]
    obtain ⟨σ', d1, d2, d3, d4, d5⟩ := ih k (p + 1) σ3 (by omega) (by omega) c2 (fun c q1 q2 => by rw [← h4 c q1 q2]; funext b; exact fo c b (by omega) (by omega) (by omega)) (by rw [m3]; exact b4 _ h5) (by omega)
    refine ⟨σ', ?_, d2, ?_, fun N hN => ?_, fun a b q1 q2 q3 => by rw [d5 a b q1 q2 q3, fo a b q1 q2 q3]⟩
    · rw [gX10_overRanks_L38, b33, h3.1.1, hP, w32_id (a := (p : Int)) (by omega), w32_id (a := (P : Int)) (by omega), if_neg (by omega), a1, Option.bind_some, b1', Option.bind_some, c1, Option.bind_some]
      exact d1
    · rw [d3, m3, b3, List.map_append, List.foldl_append]
    · refine d4 N ?_
      rw [m3]
      refine b4 _ ?_
      rw [List.length_append, Nat.add_assoc] at hN
      exact hN
theorem overR_eq {F : Nat} (hF : 100 ≤ F) {r : Int} (hr : 0 ≤ r ∧ r < 6) {σ0 τc : St} {P : Nat} (hP : σ0 1 5 = (P : Int)) (hP6 : P ≤ 6) (hB : BdOK σ0 1) (hl : Loaded σ0 r τc) : ∀ (m k d : Nat) (L : List Int) (σ : St), d + m = P → LOK P L → TB σ0 σ (rhoL σ0 L) → (∀ c, 63 + 12 * r ≤ c → c ≤ 68 + 12 * r → σ c = σ0 c) → MR (MF σ (70 + 12 * r)) (dfsS P m d L).length → m < k → ∃ σ', gX10_overRanks F k σ 33 (63 + 12 * r) (70 + 12 * r) d = some σ' ∧ TB σ0 σ' (rhoL σ0 L) ∧ OvS F r σ0 τc σ (dfsS P m d L) σ' := by
  have b33 : bd 33 = 27 := by decide
  intro m
  induction m with
  | zero =>
    intro k d L σ h1 h2 h3 h4 h5 h6
    obtain ⟨k, rfl⟩ : ∃ n', k = n' + 1 := ⟨k - 1, by omega⟩
    obtain ⟨σ1, c1, c2, c3, c4⟩ := clsVR hF hr hB (h2.rk hB hP) h3 hl h4
    have m1 : MF σ1 (70 + 12 * r) = MF σ (70 + 12 * r) := by unfold MF; rw [c4 (70 + 12 * r) (by omega)]
    have h5' : MR (MF σ1 (70 + 12 * r)) (0 + 1) := by rw [m1]; exact h5
    obtain ⟨σ', a1, a2, a3⟩ := madd_eq (k := 70 + 12 * r) h5' c3
    have tb : TB σ0 σ' (rhoL σ0 L) := by
      have e : ∀ a, 27 ≤ a → a ≤ 32 → σ' a = σ a := fun a q1 q2 => by funext b; rw [a3 a b (by omega), c4 a (by omega)]
      unfold TB
      rw [e 27 (by omega) (by omega), e 28 (by omega) (by omega), e 29 (by omega) (by omega), e 30 (by omega) (by omega), e 32 (by omega) (by omega)]
      exact h3
    refine ⟨σ', ?_, tb, by rw [a2, m1]; rfl, fun N hN => ?_, fun a b q1 q2 q3 => by rw [a3 a b q3, c4 a q1]⟩
    · rw [gX10_overRanks, b33, h3.1.1, hP, w32_id (a := (d : Int)) (by omega), w32_id (a := (P : Int)) (by omega), if_pos (by omega)]
      unfold gX10_overRanks_L21
      rw [c1, Option.bind_some, c2, Option.bind_some, a1, Option.bind_some]
    · rw [a2, m1]
      refine MR.add ?_ c3
      have : (dfsS P 0 d L).length + N = N + 1 := by show 1 + N = N + 1; omega
      rw [this] at hN
      exact hN
  | succ m ih =>
    intro k d L σ h1 h2 h3 h4 h5 h6
    obtain ⟨k, rfl⟩ : ∃ n', k = n' + 1 := ⟨k - 1, by omega⟩
    obtain ⟨σ', d1, d2⟩ := overR_38 (F := F) hF hr hP hP6 h2 (d := d) (by omega) (τc := τc) (f := fun p => dfsS P m (d + 1) (swL L d p)) (rc := gX10_overRanks F k) (fun p s q1 q2 q3 q4 => by
      have := ih k (d + 1) (swL L d p) s (by omega) (h2.sw (by omega) q1) q2 q3 q4 (by omega)
      exact this) (P - d) F d σ (by omega) (Nat.le_refl _) h3 h4 h5 (by omega)
    refine ⟨σ', ?_, d2⟩
    rw [gX10_overRanks, b33, h3.1.1, hP, w32_id (a := (d : Int)) (by omega), w32_id (a := (P : Int)) (by omega), if_neg (by omega), if_pos (by omega)]
    exact d1
