-- PURE LAYER: all orders, the class
def mAdd (M : Int × Int × Int × Int) (v : Int) : Int × Int × Int × Int := (M.1 + v, M.2.1 + 1, (if M.2.1 = 0 then v else if v < M.2.2.1 then v else M.2.2.1), (if M.2.2.2 < v then v else M.2.2.2))
def MF (σ : St) (k : Int) : Int × Int × Int × Int := (σ k 1, σ k 2, σ k 3, σ k 4)
def MR (M : Int × Int × Int × Int) (N : Nat) : Prop := (0 ≤ M.1 ∧ M.1 ≤ 6000 * M.2.1) ∧ (0 ≤ M.2.1 ∧ M.2.1 + N ≤ 5000) ∧ (0 ≤ M.2.2.1 ∧ M.2.2.1 ≤ 6000) ∧ (0 ≤ M.2.2.2 ∧ M.2.2.2 ≤ 6000)
theorem MR.add {M : Int × Int × Int × Int} {N : Nat} {v : Int} (h : MR M (N + 1)) (hv : 0 ≤ v ∧ v ≤ 6000) : MR (mAdd M v) N := by
  obtain ⟨h1, h2, h3, h4⟩ := h
  unfold mAdd MR
  refine ⟨by show 0 ≤ M.1 + v ∧ M.1 + v ≤ 6000 * (M.2.1 + 1); omega, by show 0 ≤ M.2.1 + 1 ∧ M.2.1 + 1 + (N : Int) ≤ 5000; omega, ?_, ?_⟩
  · show 0 ≤ (if M.2.1 = 0 then v else if v < M.2.2.1 then v else M.2.2.1) ∧ (if M.2.1 = 0 then v else if v < M.2.2.1 then v else M.2.2.1) ≤ 6000
    repeat' split
    all_goals omega
  · show 0 ≤ (if M.2.2.2 < v then v else M.2.2.2) ∧ (if M.2.2.2 < v then v else M.2.2.2) ≤ 6000
    split <;> omega
theorem madd_eq {σ : St} {k v : Int} (h : MR (MF σ k) 1) (hv : 0 ≤ v ∧ v ≤ 6000) : ∃ σ', gX2_add σ k v = some σ' ∧ MF σ' k = mAdd (MF σ k) v ∧ ∀ a b, ¬ (a = k ∧ 1 ≤ b ∧ b ≤ 4) → σ' a b = σ a b := by
  obtain ⟨h1, h2, h3, h4⟩ := h
  have h1' : 0 ≤ σ k 1 ∧ σ k 1 ≤ 6000 * σ k 2 := h1
  have h2' : 0 ≤ σ k 2 ∧ σ k 2 + ((1 : Nat) : Int) ≤ 5000 := h2
  have h3' : 0 ≤ σ k 3 ∧ σ k 3 ≤ 6000 := h3
  have h4' : 0 ≤ σ k 4 ∧ σ k 4 ≤ 6000 := h4
  have wv : w32 v = v := w32_id (by omega)
  have L : ∀ s1, gX2_add_L22 k v s1 σ = some (up (up (up (up σ k 3 s1) k 4 (if σ k 4 < v then v else σ k 4)) k 1 (σ k 1 + v)) k 2 (σ k 2 + 1)) := by
    intro s1
    have e4 : up σ k 3 s1 k 4 = σ k 4 := by rw [up_at, if_neg (by omega)]
    have e1 : ∀ w, up (up σ k 3 s1) k 4 w k 1 = σ k 1 := fun w => by rw [up_at, if_neg (by omega), up_at, if_neg (by omega)]
    have e2 : ∀ w u, up (up (up σ k 3 s1) k 4 w) k 1 u k 2 = σ k 2 := fun w u => by rw [up_at, if_neg (by omega), up_at, if_neg (by omega), up_at, if_neg (by omega)]
    unfold gX2_add_L22
    rw [e4, e1, e2, wv, w32_id (a := σ k 4) (by omega)]
  have fin : ∀ s1, s1 = (if σ k 2 = 0 then v else if v < σ k 3 then v else σ k 3) → ∃ σ', gX2_add_L22 k v s1 σ = some σ' ∧ MF σ' k = mAdd (MF σ k) v ∧ ∀ a b, ¬ (a = k ∧ 1 ≤ b ∧ b ≤ 4) → σ' a b = σ a b := by
    intro s1 hs
    refine ⟨_, L s1, ?_, fun a b q => by rw [up_at, if_neg (by omega), up_at, if_neg (by omega), up_at, if_neg (by omega), up_at, if_neg (by omega)]⟩
    unfold MF mAdd
    have x1 : up (up (up (up σ k 3 s1) k 4 (if σ k 4 < v then v else σ k 4)) k 1 (σ k 1 + v)) k 2 (σ k 2 + 1) k 1 = σ k 1 + v := by rw [up_at, if_neg (by omega), up_self]
    have x2 : up (up (up (up σ k 3 s1) k 4 (if σ k 4 < v then v else σ k 4)) k 1 (σ k 1 + v)) k 2 (σ k 2 + 1) k 2 = σ k 2 + 1 := up_self _ _ _ _
    have x3 : up (up (up (up σ k 3 s1) k 4 (if σ k 4 < v then v else σ k 4)) k 1 (σ k 1 + v)) k 2 (σ k 2 + 1) k 3 = s1 := by rw [up_at, if_neg (by omega), up_at, if_neg (by omega), up_at, if_neg (by omega), up_self]
    have x4 : up (up (up (up σ k 3 s1) k 4 (if σ k 4 < v then v else σ k 4)) k 1 (σ k 1 + v)) k 2 (σ k 2 + 1) k 4 = (if σ k 4 < v then v else σ k 4) := by rw [up_at, if_neg (by omega), up_at, if_neg (by omega), up_self]
    rw [x1, x2, x3, x4, hs]
  unfold gX2_add
  rw [w64_id (a := σ k 2) (by omega), wv, w32_id (a := σ k 3) (by omega)]
  by_cases z : σ k 2 = 0
  · rw [if_neg (fun y => y z)]
    exact fin v (by rw [if_pos z])
  · rw [if_pos z]
    exact fin _ (by rw [if_neg z])
def rowsO (f : Int → List (List Int)) (L : List Int) : Nat → Int → List (List Int)
  | 0, _ => []
  | j + 1, g => (if g ∈ L then [] else f g) ++ rowsO f L j (g + 1)
def dfsO (G : Nat) : Nat → List Int → List (List Int)
  | 0, L => [L]
  | m + 1, L => rowsO (fun g => dfsO G m (L ++ [g])) L G 0
/-- the value of a run along L, from τ on -/
def VL (F : Nat) (r : Int) (τ : St) (L : List Int) : Int := match AlongM F r L τ with
  | some τ' => sumN (τ' 163) (τ' 143 26).toNat 0
  | none => 0
theorem Rn.val_rng {σ τ : St} {k r n : Int} (h : Rn σ k τ r n) : 0 ≤ sumN (σ (k + 2)) (σ (bd k) 5).toNat 0 ∧ sumN (σ (k + 2)) (σ (bd k) 5).toNat 0 ≤ 6000 := by
  obtain ⟨hB, hS, -⟩ := h
  have hP := hB.1
  have r := sumN_rng (f := σ (k + 2)) (lo := 0) (hi := 999) (σ (bd k) 5).toNat 0 (fun i q1 q2 => by
    have s := (hS.2 i q1 (by omega)).2 (by omega)
    have b := hB.2.2.1 i q1 (by omega)
    omega)
  omega
theorem AtC.val {F : Nat} {r : Int} {σ0 σ τc : St} {L : List Int} (h : AtC F r σ0 σ L) (hc : Ready σ0 r τc) : (∀ τ0, Ready σ0 r τ0 → VL F r τ0 L = sumN (σ 19) (σ 1 5).toNat 0) ∧ 0 ≤ sumN (σ 19) (σ 1 5).toNat 0 ∧ sumN (σ 19) (σ 1 5).toNat 0 ≤ 6000 := by
  have b17 : bd 17 = 1 := by decide
  refine ⟨fun τ0 hr => ?_, ?_⟩
  · obtain ⟨τ, e1, e2, e3⟩ := h.1 τ0 hr
    have rl := e2.rel.2.1
    rw [b17] at rl
    unfold VL
    rw [e1]
    exact rl
  · obtain ⟨τ, e1, e2, e3⟩ := h.1 τc hc
    have rl := e2.val_rng
    rw [b17] at rl
    exact rl
theorem AgL.refl (r n : Int) (σ : St) : AgL r n σ σ := ⟨⟨⟨fun _ _ _ => rfl, fun _ _ _ => rfl⟩, ⟨rfl, rfl, rfl⟩, fun _ _ _ => ⟨rfl, rfl⟩, fun _ _ _ => ⟨rfl, rfl⟩⟩, fun _ _ _ _ _ _ => rfl⟩
theorem AgL.trans {r n : Int} {σ σ' σ'' : St} (h : AgL r n σ σ') (h' : AgL r n σ' σ'') : AgL r n σ σ'' := by
  obtain ⟨⟨⟨a1, a2⟩, ⟨a3, a4, a5⟩, a6, a7⟩, a8⟩ := h
  obtain ⟨⟨⟨b1', b2⟩, ⟨b3, b4, b5⟩, b6, b7⟩, b8⟩ := h'
  exact ⟨⟨⟨fun a q1 q2 => by rw [b1' a q1 q2, a1 a q1 q2], fun c q1 q2 => by rw [b2 c q1 q2, a2 c q1 q2]⟩, ⟨by rw [b3, a3], by rw [b4, a4], by rw [b5, a5]⟩, fun p q1 q2 => ⟨by rw [(b6 p q1 q2).1, (a6 p q1 q2).1], by rw [(b6 p q1 q2).2, (a6 p q1 q2).2]⟩, fun g q1 q2 => ⟨by rw [(b7 g q1 q2).1, (a7 g q1 q2).1], by rw [(b7 g q1 q2).2, (a7 g q1 q2).2]⟩⟩, fun c i q1 q2 q3 q4 => by rw [b8 c i q1 q2 q3 q4, a8 c i q1 q2 q3 q4]⟩
/-- a change outside the run and the log -/
theorem AgL.of {r n : Int} {σ σ' : St} (hr : 0 ≤ r ∧ r < 6) (h : ∀ a, a ≠ 69 + 12 * r → σ' a = σ a) : AgL r n σ σ' :=
  ⟨⟨⟨fun a q1 q2 => h a (by omega), fun c q1 q2 => h c (by omega)⟩, ⟨by rw [h 17 (by omega)], by rw [h 17 (by omega)], by rw [h 17 (by omega)]⟩, fun p q1 q2 => ⟨by rw [h 18 (by omega)], by rw [h 19 (by omega)]⟩, fun g q1 q2 => ⟨by rw [h 20 (by omega)], by rw [h 21 (by omega)]⟩⟩, fun c i q1 q2 q3 q4 => by rw [h c (by omega)]⟩
/-- what the class's search through the orders comes to -/
def OvG (F : Nat) (r : Int) (σ0 τc : St) (n : Int) (σ : St) (R : List (List Int)) (σ' : St) : Prop :=
  AgL r n σ σ' ∧ MF σ' (69 + 12 * r) = (R.map (VL F r τc)).foldl mAdd (MF σ (69 + 12 * r)) ∧ MR (MF σ' (69 + 12 * r)) 0 ∧ (∀ N : Nat, MR (MF σ (69 + 12 * r)) (R.length + N) → MR (MF σ' (69 + 12 * r)) N) ∧ ∀ a b, ¬ (17 ≤ a ∧ a ≤ 26) → ¬ (a = 69 + 12 * r ∧ 1 ≤ b ∧ b ≤ 4) → σ' a b = σ a b
theorem over_33 {F : Nat} (hF : 100 ≤ F) {r : Int} (hr : 0 ≤ r ∧ r < 6) {σ0 τc : St} (hx : Ready σ0 r τc) {G : Nat} (hG : σ0 1 6 = (G : Int)) (hG6 : G ≤ 6) {L : List Int} {f : Int → List (List Int)} {rc : St → Int → Int → Int → Int → Option St}
    (hL : L.length < 9)
    (hrc : ∀ (g : Int) (σ : St), 0 ≤ g → g < G → AtC F r σ0 σ (L ++ [g]) → MR (MF σ (69 + 12 * r)) (f g).length → ∃ σ', rc σ 17 (63 + 12 * r) (69 + 12 * r) ((L.length : Int) + 1) = some σ' ∧ OvG F r σ0 τc (L.length + 1) σ (f g) σ') :
    ∀ (j k : Nat) (g : Int) (σ : St), 0 ≤ g → g + j = G → AtC F r σ0 σ L → MR (MF σ (69 + 12 * r)) (rowsO f L j g).length → j < k → ∃ σ', gX10_overOrders_L33 F rc 17 (63 + 12 * r) (69 + 12 * r) L.length k G g σ = some σ' ∧ OvG F r σ0 τc L.length σ (rowsO f L j g) σ' := by
  intro j
  induction j with
  | zero =>
    intro k g σ h1 h2 h3 h4 h5
    obtain ⟨k, rfl⟩ : ∃ n', k = n' + 1 := ⟨k - 1, by omega⟩
    refine ⟨σ, by rw [gX10_overOrders_L33, w32_id (a := g) (by omega), w32_id (a := (G : Int)) (by omega), if_pos (by omega)], AgL.refl _ _ _, rfl, h4, fun N hN => by have : rowsO f L 0 g = [] := rfl; rw [this] at hN; simpa using hN, fun _ _ _ _ => rfl⟩
  | succ j ih =>
    intro k g σ h1 h2 h3 h4 h5
    obtain ⟨k, rfl⟩ : ∃ n', k = n' + 1 := ⟨k - 1, by omega⟩
    have er : rowsO f L (j + 1) g = (if g ∈ L then [] else f g) ++ rowsO f L j (g + 1) := rfl
    obtain ⟨τa, -, rn, -⟩ := h3.1 τc hx
    have sq : 0 ≤ σ 21 g ∧ σ 21 g ≤ 9 := (rn.2.1.1 g h1 (by omega)).2.1
    have hc := hasCome_eq (σ := σ) (k := 17) (g := g) (by omega) sq
    have hc' : gX7_hasCome σ 17 g = some (tv (0 < σ 21 g)) := hc
    have iff := h3.2.2.1 g h1 (by omega)
    rw [gX10_overOrders_L33, w32_id (a := g) (by omega), w32_id (a := (G : Int)) (by omega), if_neg (by omega), hc', Option.bind_some, tv_if1, er]
    unfold gX10_overOrders_L70
    by_cases z : g ∈ L
    · have ns : ¬ σ 21 g = 0 := fun w => (iff.mp w) z
      rw [if_pos (show 0 < σ 21 g by omega), if_pos z, List.nil_append]
      rw [er, if_pos z, List.nil_append] at h4
      exact ih k (g + 1) σ (by omega) (by omega) h3 h4 (by omega)
    · have s0 : σ 21 g = 0 := iff.mpr z
      rw [if_neg (show ¬ 0 < σ 21 g by omega), if_neg z]
      rw [er, if_neg z, List.length_append] at h4
      obtain ⟨p, c1, c2, c3, c4, c5, c6, c7, c8⟩ := h3.step hF hr ⟨τc, hx⟩ hL (g := g) ⟨h1, by omega⟩ z (by omega)
      have em : MF (enterS σ 17 g p) (69 + 12 * r) = MF σ (69 + 12 * r) := by unfold MF; rw [enterS_o (by omega)]
      obtain ⟨σ2, d1, d2, d3, d4, d5, d6⟩ := hrc g (enterS σ 17 g p) h1 (by omega) c2 (by
        rw [em]
        obtain ⟨y1, y2, y3, y4⟩ := h4
        exact ⟨y1, by omega, y3, y4⟩)
      rw [em] at d3 d5
      obtain ⟨σ3, e1, e2, e3⟩ := back_enter hr (by omega) c5 (by omega) c3 c4 c7 c8 d2
      have em3 : MF σ3 (69 + 12 * r) = MF σ2 (69 + 12 * r) := by unfold MF; rw [e3 (69 + 12 * r) (by omega)]
      obtain ⟨σ', f1, f2, f3, f4, f5, f6⟩ := ih k (g + 1) σ3 (by omega) (by omega) (h3.congr e2.1) (by rw [em3]; exact d5 _ h4) (by omega)
      refine ⟨σ', ?_, e2.trans f2, ?_, f4, fun N hN => ?_, fun a b q1 q2 => ?_⟩
      · rw [c1, Option.bind_some, d1, Option.bind_some, e1, Option.bind_some]; exact f1
      · rw [f3, em3, d3, List.map_append, List.foldl_append]
      · refine f5 N ?_
        rw [em3]
        refine d5 _ ?_
        rw [List.length_append, Nat.add_assoc] at hN
        exact hN
      · rw [f6 a b q1 q2, e3 a q1, d6 a b q1 q2, enterS_o (by omega)]
theorem over_eq {F : Nat} (hF : 100 ≤ F) {r : Int} (hr : 0 ≤ r ∧ r < 6) {σ0 τc : St} (hx : Ready σ0 r τc) {G : Nat} (hG : σ0 1 6 = (G : Int)) (hG6 : G ≤ 6) (hB : BdOK σ0 1) : ∀ (m d : Nat) (L : List Int) (σ : St), L.length + m = G → AtC F r σ0 σ L → MR (MF σ (69 + 12 * r)) (dfsO G m L).length → m < d → ∃ σ', gX10_overOrders F d σ 17 (63 + 12 * r) (69 + 12 * r) L.length = some σ' ∧ OvG F r σ0 τc L.length σ (dfsO G m L) σ' := by
  have b17 : bd 17 = 1 := by decide
  intro m
  induction m with
  | zero =>
    intro d L σ h1 h2 h3 h4
    obtain ⟨d, rfl⟩ : ∃ n', d = n' + 1 := ⟨d - 1, by omega⟩
    have e16 : σ (bd 17) 6 = (G : Int) := by rw [b17, h2.2.1.1 1 (by omega) (by omega)]; exact hG
    obtain ⟨v1, v2⟩ := h2.val hx
    obtain ⟨τa, -, rn, -⟩ := h2.1 τc hx
    have ve := value_eq hF (k := 17) rn.1.1
    rw [b17] at ve
    have ve' : gX7_value F σ 17 = some (sumN (σ 19) (σ 1 5).toNat 0) := ve
    have h3' : MR (MF σ (69 + 12 * r)) (0 + 1) := h3
    obtain ⟨σ', a1, a2, a3⟩ := madd_eq (k := 69 + 12 * r) h3' v2
    have a3c : ∀ a, a ≠ 69 + 12 * r → σ' a = σ a := fun a q => by funext b; exact a3 a b (by omega)
    refine ⟨σ', ?_, AgL.of hr a3c, ?_, by rw [a2]; exact h3'.add v2, fun N hN => ?_, fun a b q1 q2 => a3 a b q2⟩
    · rw [gX10_overOrders, e16, w32_id (a := (L.length : Int)) (by omega), w32_id (a := (G : Int)) (by omega), if_pos (by omega)]
      unfold gX10_overOrders_L21
      rw [ve', Option.bind_some, a1, Option.bind_some]
    · rw [a2, ← v1 τc hx]; rfl
    · rw [a2]
      refine MR.add ?_ v2
      have : (dfsO G 0 L).length + N = N + 1 := by show 1 + N = N + 1; omega
      rw [this] at hN
      exact hN
  | succ m ih =>
    intro d L σ h1 h2 h3 h4
    obtain ⟨d, rfl⟩ : ∃ n', d = n' + 1 := ⟨d - 1, by omega⟩
    have e16 : σ (bd 17) 6 = (G : Int) := by rw [b17, h2.2.1.1 1 (by omega) (by omega)]; exact hG
    have lp := over_33 (F := F) hF hr hx hG hG6 (L := L) (f := fun g => dfsO G m (L ++ [g])) (rc := gX10_overOrders F d) (by omega) (fun g s q1 q2 q3 q4 => by
      have := ih d (L ++ [g]) s (by rw [List.length_append]; show L.length + 1 + m = G; omega) q3 q4 (by omega)
      rw [List.length_append] at this
      exact this) G F 0 σ (by omega) (by omega) h2 h3 (by omega)
    obtain ⟨σ', d1, d2⟩ := lp
    refine ⟨σ', ?_, d2⟩
    rw [gX10_overOrders, e16, w32_id (a := (L.length : Int)) (by omega), w32_id (a := (G : Int)) (by omega), if_neg (by omega), if_pos (by omega)]
    exact d1
