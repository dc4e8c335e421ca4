-- PURE LAYER: count
def alN (σ : St) (m : Nat) (i : Int) : Int := sumN (fun p => lkN σ 6 p (σ 1 6).toNat 0) m i
theorem allLinks_c {F n0 : Nat} (hF : 100 ≤ F) {σ : St} (hB : InvB n0 σ) : ∀ (m n : Nat) (s i : Int), 0 ≤ i → i + m = σ 1 5 → m < n → gX0_allLinks_L4 F σ 1 n s i = some (s + alN σ m i) := by
  obtain ⟨⟨p1, p2, p3⟩, -⟩ := id hB
  intro m
  induction m with
  | zero =>
    intro n s i h1 h2 h3
    obtain ⟨n, rfl⟩ : ∃ n', n = n' + 1 := ⟨n - 1, by omega⟩
    rw [gX0_allLinks_L4, w32_id (a := i) (by omega), w32_id (a := σ 1 5) (by omega), if_pos (by omega)]
    simp [sumN, alN]
  | succ m ih =>
    intro n s i h1 h2 h3
    obtain ⟨n, rfl⟩ : ∃ n', n = n' + 1 := ⟨n - 1, by omega⟩
    rw [gX0_allLinks_L4, w32_id (a := i) (by omega), w32_id (a := σ 1 5) (by omega), if_neg (by omega), links_c hF hB (by omega), Option.bind_some, ih n _ (i + 1) (by omega) (by omega) (by omega)]
    have e : alN σ (m + 1) i = lkN σ 6 i (σ 1 6).toNat 0 + alN σ m (i + 1) := rfl
    rw [e]; congr 1; omega
def countE (F : Nat) (σ : St) (a s : Int) : Option Int :=
  if a = 0 then some (σ 143 0) else if a = 1 then some (σ 143 4) else if a = 2 then some (σ 143 16) else if a = 3 then some s else if a = 4 then (gX11_roomSum F σ).bind fun r1 => some r1 else if a = 5 then some (σ 143 8) else if a = 6 then gd (0 ≤ (0 : Int) ∧ (0 : Int) < 4) (if w32 (σ 178 0) ≠ (-4) then gd (0 ≤ (0 : Int) ∧ (0 : Int) < 4) (some (σ 179 0)) else some (-4)) else some (-1)
theorem count_m {F n0 : Nat} (hF : 100 ≤ F) {σ : St} (hB : InvB n0 σ) {a : Int} (ha : w32 a = a) : ∀ (m n : Nat) (s i : Int), 0 ≤ i → i + m = σ 1 5 → m < n → gX11_count_L4 F σ a n s i = countE F σ a (s + alN σ m i) := by
  obtain ⟨⟨p1, p2, p3⟩, -⟩ := id hB
  intro m
  induction m with
  | zero =>
    intro n s i h1 h2 h3
    obtain ⟨n, rfl⟩ : ∃ n', n = n' + 1 := ⟨n - 1, by omega⟩
    rw [gX11_count_L4, w32_id (a := i) (by omega), w32_id (a := σ 143 0) (by omega), if_pos (by omega), ha, show alN σ 0 i = 0 by rfl, Int.add_zero]
    rfl
  | succ m ih =>
    intro n s i h1 h2 h3
    obtain ⟨n, rfl⟩ : ∃ n', n = n' + 1 := ⟨n - 1, by omega⟩
    rw [gX11_count_L4, w32_id (a := i) (by omega), w32_id (a := σ 143 0) (by omega), if_neg (by omega), links_m hF hB (by omega), Option.bind_some, ih n _ (i + 1) (by omega) (by omega) (by omega)]
    have e : alN σ (m + 1) i = lkN σ 6 i (σ 1 6).toNat 0 + alN σ m (i + 1) := rfl
    rw [e]; congr 1; omega
theorem op_count {F n : Nat} (hF : 100 ≤ F) {σ : St} {a : Int} (hB : InvB n σ) (hR : InvR σ) (hT : InvT σ) (hS : InvS σ) (ha : w32 a = a) :
    ∃ r, gX10_count F σ a = some r ∧ gX11_count F σ a = some r := by
  obtain ⟨⟨p1, p2, p3⟩, ⟨g1, g2, g3⟩, v1, ⟨c1, c2, c3, c4, c5⟩, b5, b6, b7, b8⟩ := id hB
  have m := count_m hF hB ha (σ 1 5).toNat F 0 0 (by omega) (by omega) (by omega)
  have l := allLinks_c hF hB (σ 1 5).toNat F 0 0 (by omega) (by omega) (by omega)
  have ar : gX0_allRooms F σ 1 = some (sumN (σ 2) (σ 1 5).toNat 0) := gX0_allRooms_eq (by omega) σ 1 ⟨p1, p2⟩
  have mr : gX11_roomSum F σ = some (sumN (σ 2) (σ 1 5).toNat 0) := by rw [gX11_roomSum_eq (by omega) σ (by omega), p3, c1]
  obtain ⟨⟨s1, s2⟩, ⟨s3, s4⟩, -⟩ := hS 0 (by omega) (by omega)
  have x6 : gX6_isNothing σ (135 + 2 * 0) = some (if σ 178 0 ≠ -4 then 0 else 1) := by
    unfold gX6_isNothing
    rw [s1, w32_id (a := σ (135 + 2 * 0) 1) (by omega)]
    split <;> rfl
  have w6 : w32 (σ 178 0) = σ 178 0 := by rw [s1]; exact w32_id (by omega)
  unfold gX10_count gX11_count gX0_allLinks
  rw [m, l, ar, ha, x6]
  unfold countE
  rw [mr, w6, gd_pos (by omega), gd_pos (by omega), gd_pos (by omega), gd_pos (by omega), Option.bind_some]
  by_cases q0 : a = 0
  · exact ⟨_, by rw [if_pos q0], by rw [if_pos q0, p3]⟩
  by_cases q1 : a = 1
  · exact ⟨_, by rw [if_neg q0, if_pos q1], by rw [if_neg q0, if_pos q1, g3]⟩
  by_cases q2 : a = 2
  · exact ⟨_, by rw [if_neg q0, if_neg q1, if_pos q2], by rw [if_neg q0, if_neg q1, if_pos q2, hR.1.2.2]⟩
  by_cases q3 : a = 3
  · exact ⟨_, by rw [if_neg q0, if_neg q1, if_neg q2, if_pos q3], by rw [if_neg q0, if_neg q1, if_neg q2, if_pos q3]⟩
  by_cases q4 : a = 4
  · exact ⟨_, by rw [if_neg q0, if_neg q1, if_neg q2, if_neg q3, if_pos q4]; rfl, by rw [if_neg q0, if_neg q1, if_neg q2, if_neg q3, if_pos q4]; rfl⟩
  by_cases q5 : a = 5
  · exact ⟨_, by rw [if_neg q0, if_neg q1, if_neg q2, if_neg q3, if_neg q4, if_pos q5], by rw [if_neg q0, if_neg q1, if_neg q2, if_neg q3, if_neg q4, if_pos q5, hT.1.2.2]⟩
  by_cases q6 : a = 6
  · rw [if_neg q0, if_neg q1, if_neg q2, if_neg q3, if_neg q4, if_neg q5, if_pos q6, if_neg q0, if_neg q1, if_neg q2, if_neg q3, if_neg q4, if_neg q5, if_pos q6]
    by_cases z : σ 178 0 = -4
    · rw [if_neg (fun y => y z), if_neg (fun y => y z), Option.bind_some, w32_1, if_neg (by omega)]
      exact ⟨_, rfl, rfl⟩
    · rw [if_pos z, if_pos z, Option.bind_some, w32_id (a := 0) (by omega), if_pos rfl, s3]
      exact ⟨_, rfl, rfl⟩
  · rw [if_neg q0, if_neg q1, if_neg q2, if_neg q3, if_neg q4, if_neg q5, if_neg q6, if_neg q0, if_neg q1, if_neg q2, if_neg q3, if_neg q4, if_neg q5, if_neg q6]
    exact ⟨_, rfl, rfl⟩
