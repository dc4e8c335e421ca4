-- PURE LAYER: told, count
theorem ior_0 {a : Int} (h : w32 a = a) : ior a 0 = a := by
  unfold ior
  rw [show i32 0 = 0 by rfl, Int32.or_zero]
  exact h
theorem ior_rng (a b : Int) : w32 (ior a b) = ior a b := by
  unfold ior w32
  rw [Int32.ofInt_toInt]
def lkN (σ : St) (k p : Int) (m : Nat) (i : Int) : Int := sumN (fun g => if 0 < σ k (6 * g + p) then 1 else 0) m i
theorem gX0_linksOf_L4_eq (F : Nat) (σ : St) (k p : Int) (hg : 0 ≤ σ k 6 ∧ σ k 6 ≤ 9) (hp : 0 ≤ p ∧ p < 6) (hw : ∀ j, 0 ≤ j → j < 54 → 0 ≤ σ (k + 5) j ∧ σ (k + 5) j ≤ 99) : ∀ (m n : Nat) (s i : Int), 0 ≤ i → i + m = σ k 6 → m < n → gX0_linksOf_L4 F σ k p n s i = some (s + lkN σ (k + 5) p m i) := by
  intro m
  induction m with
  | zero =>
    intro n s i h1 h2 h3
    obtain ⟨n, rfl⟩ : ∃ n', n = n' + 1 := ⟨n - 1, by omega⟩
    rw [gX0_linksOf_L4, w32_id (a := i) (by omega), w32_id (a := σ k 6) (by omega), if_pos (by omega)]
    simp [sumN, lkN]
  | succ m ih =>
    intro n s i h1 h2 h3
    obtain ⟨n, rfl⟩ : ∃ n', n = n' + 1 := ⟨n - 1, by omega⟩
    have hr := hw (6 * i + p) (by omega) (by omega)
    rw [gX0_linksOf_L4, w32_id (a := i) (by omega), w32_id (a := σ k 6) (by omega), if_neg (by omega)]
    unfold gX0_worthAt gX0_linksOf_L24
    rw [show i * 6 + p = 6 * i + p by omega, w32_id (a := 6 * i + p) (by omega), gd_pos (by omega), Option.bind_some, w32_id (a := σ (k + 5) (6 * i + p)) (by omega), ih n _ (i + 1) (by omega) (by omega) (by omega), ih n _ (i + 1) (by omega) (by omega) (by omega)]
    have e : lkN σ (k + 5) p (m + 1) i = (if 0 < σ (k + 5) (6 * i + p) then 1 else 0) + lkN σ (k + 5) p m (i + 1) := rfl
    rw [e]
    by_cases q : 0 < σ (k + 5) (6 * i + p)
    · rw [if_neg (by omega), if_pos q]; congr 1; omega
    · rw [if_pos (by omega), if_neg q]; congr 1; omega
theorem gX11_linksOf_L4_eq (F : Nat) (σ : St) (p : Int) (hg : 0 ≤ σ 143 4 ∧ σ 143 4 ≤ 9) (hp : 0 ≤ p ∧ p < 6) (hw : ∀ j, 0 ≤ j → j < 54 → 0 ≤ σ 148 j ∧ σ 148 j ≤ 99) : ∀ (m n : Nat) (s i : Int), 0 ≤ i → i + m = σ 143 4 → m < n → gX11_linksOf_L4 F σ p n s i = some (s + lkN σ 148 p m i) := by
  intro m
  induction m with
  | zero =>
    intro n s i h1 h2 h3
    obtain ⟨n, rfl⟩ : ∃ n', n = n' + 1 := ⟨n - 1, by omega⟩
    rw [gX11_linksOf_L4, w32_id (a := i) (by omega), w32_id (a := σ 143 4) (by omega), if_pos (by omega)]
    simp [sumN, lkN]
  | succ m ih =>
    intro n s i h1 h2 h3
    obtain ⟨n, rfl⟩ : ∃ n', n = n' + 1 := ⟨n - 1, by omega⟩
    have hr := hw (6 * i + p) (by omega) (by omega)
    rw [gX11_linksOf_L4, w32_id (a := i) (by omega), w32_id (a := σ 143 4) (by omega), if_neg (by omega)]
    unfold gX11_linksOf_L32
    rw [w32_id (a := 6 * i + p) (by omega), gd_pos (by omega), w32_id (a := σ 148 (6 * i + p)) (by omega), ih n _ (i + 1) (by omega) (by omega) (by omega), ih n _ (i + 1) (by omega) (by omega) (by omega)]
    have e : lkN σ 148 p (m + 1) i = (if 0 < σ 148 (6 * i + p) then 1 else 0) + lkN σ 148 p m (i + 1) := rfl
    rw [e]
    by_cases q : 0 < σ 148 (6 * i + p)
    · rw [if_neg (by omega), if_pos q]; congr 1; omega
    · rw [if_pos (by omega), if_neg q]; congr 1; omega
theorem InvB.worth {n : Nat} {σ : St} (h : InvB n σ) (j : Int) (h1 : 0 ≤ j) (h2 : j < 54) : 0 ≤ σ 6 j ∧ σ 6 j ≤ 99 := by
  obtain ⟨-, -, -, -, -, -, b7, -⟩ := h
  have := (b7 (j / 6) (j % 6) (by omega) (by omega) (by omega) (by omega)).1
  rw [show 6 * (j / 6) + j % 6 = j by omega] at this
  exact this
theorem links_c {F n : Nat} (hF : 100 ≤ F) {σ : St} {p : Int} (hB : InvB n σ) (hp : 0 ≤ p ∧ p < 6) : gX0_linksOf F σ 1 p = some (lkN σ 6 p (σ 1 6).toNat 0) := by
  obtain ⟨-, ⟨g1, g2, g3⟩, -⟩ := id hB
  unfold gX0_linksOf
  rw [gX0_linksOf_L4_eq F σ 1 p ⟨g1, g2⟩ hp (fun j q1 q2 => hB.worth j q1 q2) (σ 1 6).toNat F 0 0 (by omega) (by omega) (by omega), Int.zero_add]
  rfl
theorem links_m {F n : Nat} (hF : 100 ≤ F) {σ : St} {p : Int} (hB : InvB n σ) (hp : 0 ≤ p ∧ p < 6) : gX11_linksOf F σ p = some (lkN σ 6 p (σ 1 6).toNat 0) := by
  obtain ⟨-, ⟨g1, g2, g3⟩, -, ⟨-, -, -, -, c5⟩, -⟩ := id hB
  unfold gX11_linksOf
  rw [gX11_linksOf_L4_eq F σ p (by omega) hp (fun j q1 q2 => by rw [c5]; exact hB.worth j q1 q2) (σ 1 6).toNat F 0 0 (by omega) (by omega) (by omega), Int.zero_add]
  unfold lkN
  rw [c5]
theorem lkN_rng (σ : St) (k p : Int) (m : Nat) (i : Int) : 0 ≤ lkN σ k p m i ∧ lkN σ k p m i ≤ m := by
  have := sumN_rng (f := fun g => if 0 < σ k (6 * g + p) then (1 : Int) else 0) (lo := 0) (hi := 1) m i (fun j _ _ => by by_cases q : 0 < σ k (6 * j + p) <;> simp [q])
  unfold lkN
  omega
/-- the bits of those who hold p -/
def bitN (f : Int → Int) (p : Int) : Nat → Int → Int → Int
  | 0, b, _ => b
  | m + 1, b, i => bitN f p m (if f i = p then ior b (ishl 1 i) else b) (i + 1)
theorem heldBits_eq (F : Nat) (σ : St) (p : Int) (hg : 0 ≤ σ 1 6 ∧ σ 1 6 ≤ 9) (hp : 0 ≤ p ∧ p < 6) (hw : ∀ g, 0 ≤ g → g < 9 → w32 (σ 10 g) = σ 10 g) : ∀ (m n : Nat) (s i : Int), 0 ≤ i → i + m = σ 1 6 → m < n → gX7_heldBits_L4 F σ 7 p n s i = some (bitN (σ 10) p m s i) := by
  intro m
  have eb : bd 7 = 1 := by decide
  induction m with
  | zero =>
    intro n s i h1 h2 h3
    obtain ⟨n, rfl⟩ : ∃ n', n = n' + 1 := ⟨n - 1, by omega⟩
    rw [gX7_heldBits_L4, eb, w32_id (a := i) (by omega), w32_id (a := σ 1 6) (by omega), if_pos (by omega)]
    rfl
  | succ m ih =>
    intro n s i h1 h2 h3
    obtain ⟨n, rfl⟩ : ∃ n', n = n' + 1 := ⟨n - 1, by omega⟩
    rw [gX7_heldBits_L4, eb, w32_id (a := i) (by omega), w32_id (a := σ 1 6) (by omega), if_neg (by omega), gd_pos (by omega)]
    unfold gX7_heldBits_L31
    rw [show (7 : Int) + 3 = 10 by rfl, hw i h1 (by omega), w32_id (a := p) (by omega), ih n _ (i + 1) (by omega) (by omega) (by omega), ih n _ (i + 1) (by omega) (by omega) (by omega)]
    show _ = some (bitN (σ 10) p m (if σ 10 i = p then ior s (ishl 1 i) else s) (i + 1))
    by_cases q : σ 10 i = p
    · rw [if_neg (fun z => z q), if_pos q]
    · rw [if_pos q, if_neg q]
def cnN (f : Int → Int) (p : Int) (m : Nat) (i : Int) : Int := sumN (fun g => if f g = p then 1 else 0) m i
/-- what the reference tells -/
def toldE (F : Nat) (σ : St) (p b bits cn : Int) : Option Int :=
  if b = 0 then some (σ 144 p) else if b = 1 then some (σ 145 p) else if b = 2 then some (σ 146 p) else if b = 3 then some (σ 144 p - cn) else if b = 4 then some (σ 176 p) else if b = 5 then some bits else (gX11_linksOf F σ p).bind fun r1 => some r1
theorem told_eq (F : Nat) (σ : St) (p b : Int) (hb : w32 b = b) (hg : 0 ≤ σ 143 4 ∧ σ 143 4 ≤ 9) (hp : 0 ≤ p ∧ p < 6) (hw : ∀ g, 0 ≤ g → g < σ 143 4 → w32 (σ 174 g) = σ 174 g) : ∀ (m n : Nat) (s c i : Int), w32 s = s → 0 ≤ i → i + m = σ 143 4 → m < n → gX11_told_L30 F σ p b n s c i = toldE F σ p b (bitN (σ 174) p m s i) (c + cnN (σ 174) p m i) := by
  intro m
  induction m with
  | zero =>
    intro n s c i hs h1 h2 h3
    obtain ⟨n, rfl⟩ : ∃ n', n = n' + 1 := ⟨n - 1, by omega⟩
    rw [gX11_told_L30, w32_id (a := i) (by omega), w32_id (a := σ 143 4) (by omega), if_pos (by omega), hb, w32_id (a := p) (by omega)]
    unfold toldE
    rw [gd_pos (by omega), gd_pos (by omega), gd_pos (by omega), gd_pos (by omega), gd_pos (by omega)]
    rw [show cnN (σ 174) p 0 i = 0 by rfl, Int.add_zero]
    rfl
  | succ m ih =>
    intro n s c i hs h1 h2 h3
    obtain ⟨n, rfl⟩ : ∃ n', n = n' + 1 := ⟨n - 1, by omega⟩
    rw [gX11_told_L30, w32_id (a := i) (by omega), w32_id (a := σ 143 4) (by omega), if_neg (by omega), gd_pos (by omega)]
    unfold gX11_told_L59 gX11_told_L79
    rw [w32_id (a := i) (by omega), gd_pos (by omega), gd_pos (by omega), hw i h1 (by omega), w32_id (a := p) (by omega)]
    have e1 : bitN (σ 174) p (m + 1) s i = bitN (σ 174) p m (if σ 174 i = p then ior s (ishl 1 i) else s) (i + 1) := rfl
    have e2 : cnN (σ 174) p (m + 1) i = (if σ 174 i = p then 1 else 0) + cnN (σ 174) p m (i + 1) := rfl
    rw [e1, e2]
    by_cases q : σ 174 i = p
    · rw [if_neg (fun z => z q), if_neg (fun z => z q), if_pos q, if_pos q, ih n _ _ (i + 1) (ior_rng _ _) (by omega) (by omega) (by omega)]
      congr 1
      omega
    · rw [if_pos q, if_pos q, if_neg q, if_neg q, ior_0 hs, ih n _ _ (i + 1) hs (by omega) (by omega) (by omega)]
      congr 1
      omega
theorem bitN_congr {f g : Int → Int} (p : Int) : ∀ (m : Nat) (s i : Int), (∀ j, i ≤ j → j < i + m → f j = g j) → bitN f p m s i = bitN g p m s i := by
  intro m
  induction m with
  | zero => intro s i _; rfl
  | succ m ih =>
    intro s i h
    show bitN f p m (if f i = p then ior s (ishl 1 i) else s) (i + 1) = bitN g p m (if g i = p then ior s (ishl 1 i) else s) (i + 1)
    rw [h i (by omega) (by omega)]
    exact ih _ _ (fun j q1 q2 => h j (by omega) (by omega))
theorem op_told {F n : Nat} (hF : 100 ≤ F) {σ : St} {a b : Int} (hB : InvB n σ) (hM : InvM σ) (ha : w32 a = a) (hb : w32 b = b) :
    ∃ r, gX10_told F σ a b = some r ∧ gX11_told F σ a b = some r := by
  obtain ⟨⟨p1, p2, p3⟩, ⟨g1, g2, g3⟩, v1, ⟨c1, c2, c3, c4, c5⟩, b5, b6, b7, b8⟩ := id hB
  obtain ⟨i1, i2, i3, i4, -⟩ := id hM
  have cu := hM.cur
  have x1 : gX10_isPost σ a = some (tv (0 ≤ a ∧ a < σ 1 5)) := gX10_isPost_eq σ ha (w32_id (by omega))
  have m1 : gX11_isPost σ a = some (tv (0 ≤ a ∧ a < σ 1 5)) := by rw [gX11_isPost_eq σ ha (by omega), p3]
  have m2 : gX11_in σ (w32 b) 0 6 = some (tv (0 ≤ b ∧ b ≤ 6)) := gX11_in32 σ hb (by decide) (by decide)
  unfold gX10_told gX11_told
  rw [x1, m1, Option.bind_some, Option.bind_some, m2, Option.bind_some, tv_if0, tv_if1, tv_if1, hb, ha]
  by_cases h1 : 0 ≤ a ∧ a < σ 1 5
  · rw [if_pos h1, if_pos h1]
    have hw9 : ∀ g, 0 ≤ g → g < 9 → w32 (σ 10 g) = σ 10 g := fun g q1 q2 => by
      have := (cu.1 g q1 q2).1
      exact w32_id (by omega)
    have e174 : ∀ g, 0 ≤ g → g < σ 1 6 → σ 174 g = σ 10 g := fun g q1 q2 => (i3 g q1 q2).2.1
    have te := told_eq F σ a b hb (by omega) (by omega) (fun g q1 q2 => by rw [e174 g q1 (by omega)]; exact hw9 g q1 (by omega)) (σ 1 6).toNat F 0 0 0 (by decide) (by omega) (by omega) (by omega)
    have tb : bitN (σ 174) a (σ 1 6).toNat 0 0 = bitN (σ 10) a (σ 1 6).toNat 0 0 := bitN_congr a _ _ _ (fun j q1 q2 => e174 j q1 (by omega))
    have tc : 0 + cnN (σ 174) a (σ 1 6).toNat 0 = cntN (σ 10) a := by
      unfold cnN cntN
      rw [Int.zero_add, show (9 : Nat) = (σ 1 6).toNat + (9 - (σ 1 6).toNat) by omega, sumN_app, sumN_zero (9 - (σ 1 6).toNat), Int.add_zero]
      · exact sumN_congr _ _ (fun j q1 q2 => by rw [e174 j q1 (by omega)])
      · intro j q1 q2
        have := (cu.1 j (by omega) (by omega)).2.2.2 (by omega)
        show (if σ 10 j = a then (1 : Int) else 0) = 0
        rw [this.1, if_neg (by omega)]
    rw [te, tb, tc]
    unfold toldE
    rw [links_m hF hB (by omega), links_c hF hB (by omega), c1, c2, c3, (i4 a h1.1 (by omega)).1]
    have hb5 : gX7_heldBits F σ 7 a = some (bitN (σ 10) a (σ 1 6).toNat 0 0) := heldBits_eq F σ a ⟨g1, g2⟩ (by omega) hw9 _ F 0 0 (by omega) (by omega) (by omega)
    have fr : gX7_freeAt σ 7 a = some (σ 2 a - cntN (σ 10) a) := by
      unfold gX7_freeAt
      rw [show bd 7 = 1 by decide, ha, gd_pos (by omega), gd_pos (by omega), ← (i4 a h1.1 (by omega)).2]
      rfl
    rw [hb5, fr, gd_pos (by omega), gd_pos (by omega), gd_pos (by omega), gd_pos (by omega)]
    by_cases h2 : 0 ≤ b ∧ b ≤ 6
    · rw [if_pos h2]
      by_cases q0 : b = 0
      · exact ⟨σ 2 a, by rw [if_pos q0]; rfl, by rw [if_pos q0]⟩
      by_cases q1 : b = 1
      · exact ⟨σ 3 a, by rw [if_neg q0, if_pos q1]; rfl, by rw [if_neg q0, if_pos q1]⟩
      by_cases q2 : b = 2
      · exact ⟨σ 4 a, by rw [if_neg q0, if_neg q1, if_pos q2]; rfl, by rw [if_neg q0, if_neg q1, if_pos q2]⟩
      by_cases q3 : b = 3
      · exact ⟨σ 2 a - cntN (σ 10) a, by rw [if_neg q0, if_neg q1, if_neg q2, if_pos q3]; rfl, by rw [if_neg q0, if_neg q1, if_neg q2, if_pos q3]⟩
      by_cases q4 : b = 4
      · exact ⟨σ 9 a, by rw [if_neg q0, if_neg q1, if_neg q2, if_neg q3, if_pos q4]; rfl, by rw [if_neg q0, if_neg q1, if_neg q2, if_neg q3, if_pos q4]⟩
      by_cases q5 : b = 5
      · exact ⟨_, by rw [if_neg q0, if_neg q1, if_neg q2, if_neg q3, if_neg q4, if_pos q5]; rfl, by rw [if_neg q0, if_neg q1, if_neg q2, if_neg q3, if_neg q4, if_pos q5]⟩
      · exact ⟨_, by rw [if_neg q0, if_neg q1, if_neg q2, if_neg q3, if_neg q4, if_neg q5, if_pos (by omega)]; rfl, by rw [if_neg q0, if_neg q1, if_neg q2, if_neg q3, if_neg q4, if_neg q5]; rfl⟩
    · rw [if_neg h2]
      exact ⟨-1, by rw [if_neg (by omega), if_neg (by omega), if_neg (by omega), if_neg (by omega), if_neg (by omega), if_neg (by omega), if_neg (by omega)], rfl⟩
  · rw [if_neg h1, if_neg h1]
    exact ⟨-1, rfl, rfl⟩
