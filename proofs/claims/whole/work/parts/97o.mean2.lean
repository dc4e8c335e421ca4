-- PURE LAYER: mean, ends
theorem first_2 {F : Nat} : ∀ (m k : Nat) (i : Int) (σ : St), 0 ≤ i → i + m = 9 → m < k → ∃ σ', gX11_firstOrder_L2 F k i σ = some σ' ∧ ∀ a b, σ' a b = if a = 166 ∧ i ≤ b ∧ b < 9 then b else σ a b := by
  intro m
  induction m with
  | zero =>
    intro k i σ h1 h2 h3
    obtain ⟨k, rfl⟩ : ∃ n', k = n' + 1 := ⟨k - 1, by omega⟩
    exact ⟨σ, by rw [gX11_firstOrder_L2, w32_id (a := i) (by omega), if_pos (by omega)], fun a b => by rw [if_neg (by omega)]⟩
  | succ m ih =>
    intro k i σ h1 h2 h3
    obtain ⟨k, rfl⟩ : ∃ n', k = n' + 1 := ⟨k - 1, by omega⟩
    obtain ⟨σ', d1, d2⟩ := ih k (i + 1) (up σ 166 i i) (by omega) (by omega) (by omega)
    refine ⟨σ', by rw [gX11_firstOrder_L2, w32_id (a := i) (by omega), if_neg (by omega), gd_pos (by omega)]; exact d1, fun a b => ?_⟩
    rw [d2, up_at]
    by_cases q : a = 166 ∧ b = i
    · rw [if_neg (by omega), if_pos q, if_pos (by omega), q.2]
    · have k1 : (a = 166 ∧ i + 1 ≤ b ∧ b < 9) = (a = 166 ∧ i ≤ b ∧ b < 9) := propext (by omega)
      simp only [if_neg q, k1]
def M0 : Int × Int × Int × Int := (0, 0, 0, 0)
/-- sum, how many, the least, the greatest over all orders -/
def mnO (F : Nat) (r : Int) (G : Nat) (τ : St) : Int × Int × Int × Int := ((dfsO G G []).map (VL F r τ)).foldl mAdd M0
theorem fold_ways : ∀ (R : List Int) (M : Int × Int × Int × Int), (R.foldl mAdd M).2.1 = M.2.1 + R.length := by
  intro R
  induction R with
  | nil => intro M; exact (Int.add_zero _).symm
  | cons v R ih =>
    intro M
    show (R.foldl mAdd (mAdd M v)).2.1 = _
    rw [ih]
    show M.2.1 + 1 + (R.length : Int) = M.2.1 + ((R.length + 1 : Nat) : Int)
    omega
theorem layMean_eq {F n : Nat} (hF : 1000 ≤ F) {σ s : St} {r : Int} (hB : InvB n σ) (hR : InvR σ) (hr : 0 ≤ r ∧ r < σ 0 12) (hG6 : σ 1 6 ≤ 6) {τc : St} (hx : Ready σ r τc) (hs : ∀ a b, supB a b ∨ supR a b → s a b = σ a b) :
    ∃ τ', gX11_layMean F s r = some τ' ∧ SM τ' (mnO F r (σ 1 6).toNat τc) ∧ MR (mnO F r (σ 1 6).toNat τc) 0 ∧ 0 < (mnO F r (σ 1 6).toNat τc).2.1 ∧ (∀ j, 0 ≤ j → j < 54 → τ' 162 j = σ 6 j) ∧ ∀ a b, ¬ (a = 143 ∧ (b = 26 ∨ b = 27 ∨ 35 ≤ b ∧ b ≤ 46)) → ¬ (159 ≤ a ∧ a ≤ 166) → τ' a b = s a b := by
  obtain ⟨⟨p1, p2, p3⟩, ⟨g1, g2, g3⟩, -⟩ := id hB
  have hr6 : 0 ≤ r ∧ r < 6 := by have := hR.1; omega
  have hru := hR.2.2 r hr.1 hr.2
  have b17 : bd 17 = 1 := by decide
  obtain ⟨τ1, l1, l2, l3, l4⟩ := hB.load (F := F) (by omega) (fun a b q => hs a b (Or.inl q))
  obtain ⟨τ2, f1, f2⟩ := first_2 (F := F) 9 F 0 τ1 (by omega) (by omega) (by omega)
  have t : ∀ a b, up (up τ2 143 43 0) 143 44 0 a b = if a = 143 ∧ b = 44 then 0 else if a = 143 ∧ b = 43 then 0 else τ2 a b := fun a b => rfl
  have to : ∀ a b, ¬ (a = 143 ∧ (b = 43 ∨ b = 44)) → a ≠ 166 → up (up τ2 143 43 0) 143 44 0 a b = τ1 a b := fun a b q1 q2 => by rw [t, if_neg (by omega), if_neg (by omega), f2, if_neg (by omega)]
  have toc : ∀ a, a ≠ 143 → a ≠ 166 → up (up τ2 143 43 0) 143 44 0 a = τ1 a := fun a q1 q2 => by funext b; exact to a b (by omega) q2
  have rc : ∀ a b, supR a b → up (up τ2 143 43 0) 143 44 0 a b = σ a b := fun a b q => by
    rw [to a b (by unfold supR at q; omega) (by unfold supR at q; omega), l4 a b (by unfold supR at q; omega) (by unfold supR at q; omega)]
    exact hs a b (Or.inr q)
  have ld : Loaded σ r (up (up τ2 143 43 0) 143 44 0) := by
    refine ⟨?_, hru.frame hr6 rc, fun c q1 q2 => by funext b; exact rc c b (by unfold supR; omega)⟩
    unfold RelE
    rw [b17, to 143 26 (by omega) (by omega), to 143 27 (by omega) (by omega), toc 159 (by omega) (by omega), toc 160 (by omega) (by omega), toc 161 (by omega) (by omega), toc 162 (by omega) (by omega)]
    exact l2
  have e166 : ∀ b, 0 ≤ b → b < 9 → up (up τ2 143 43 0) 143 44 0 166 b = b := fun b q1 q2 => by rw [t, if_neg (by omega), if_neg (by omega), f2, if_pos (by omega)]
  obtain ⟨o1, o2, o3, L, R, o4, o5⟩ := orders (n := (σ 1 6).toNat) (by omega)
  have len : R.length + 1 ≤ 720 := by rw [o4] at o3; exact o3
  rw [o4] at o1 o2
  have mr : MR M0 (R.length + 1) := ⟨⟨by decide, by decide⟩, ⟨by decide, by show (0 : Int) + ((R.length + 1 : Nat) : Int) ≤ 5000; omega⟩, ⟨by decide, by decide⟩, ⟨by decide, by decide⟩⟩
  obtain ⟨τ', d1, d2, d3, d4⟩ := layM_20 (F := F) hF hr6 hx hB.bd1 (G := (σ 1 6).toNat) (by omega) (by omega) R L F (up (up τ2 143 43 0) 143 44 0) M0 o1 o2 ld (by
    rw [to 143 4 (by omega) (by omega), l4 143 4 (by omega) (by omega), hs 143 4 (by unfold supB; omega), g3]; omega) (fun b q1 q2 => by rw [e166 b q1 q2]; omega) (fun j hj => by rw [e166 j (by omega) (by omega), o5 j hj]) ⟨by rw [t, if_neg (by omega), if_pos ⟨rfl, rfl⟩]; rfl, by rw [t, if_pos ⟨rfl, rfl⟩]; rfl, fun _ => rfl, fun z => absurd rfl z⟩ mr (by omega)
  have em : mnO F r (σ 1 6).toNat τc = ((L :: R).map (VL F r τc)).foldl mAdd M0 := by unfold mnO; rw [o4]
  rw [em]
  refine ⟨τ', ?_, d2, d3, ?_, fun j q1 q2 => by rw [d4 162 j (by unfold supC; omega) (by omega) (by omega), to 162 j (by omega) (by omega)]; exact l2.2.2 j q1 q2, fun a b q1 q2 => ?_⟩
  · unfold gX11_layMean gX11_firstOrder
    rw [l1, Option.bind_some, f1, Option.bind_some]; exact d1
  · rw [fold_ways, List.length_map]
    show 0 < (0 : Int) + ((R.length + 1 : Nat) : Int)
    omega
  · rw [d4 a b (by unfold supC; omega) (by omega) (by omega), to a b (by omega) (by omega), l4 a b (by omega) (by omega)]
/-- what is kept of a rule's mean over orders -/
def MeanOK (F : Nat) (σ : St) (r : Int) : Prop := (-1 ≤ σ (69 + 12 * r) 0 ∧ σ (69 + 12 * r) 0 ≤ σ 1 7) ∧ (σ 0 12 ≤ r → σ (69 + 12 * r) 0 = -1) ∧ (σ (69 + 12 * r) 0 = σ 1 7 → σ 1 6 ≤ 6 ∧ ∀ τ, Ready σ r τ → MF σ (69 + 12 * r) = mnO F r (σ 1 6).toNat τ)
theorem Ready.frame {σ σ' τ : St} {r : Int} (h : Ready σ' r τ) (hs : ∀ a, 1 ≤ a ∧ a ≤ 6 ∨ 63 + 12 * r ≤ a ∧ a ≤ 68 + 12 * r → σ' a = σ a) : Ready σ r τ := by
  obtain ⟨h1, h2, h3, h4⟩ := h
  have b17 : bd 17 = 1 := by decide
  refine ⟨h1, ?_, h3, fun c q1 q2 => by rw [h4 c q1 q2, hs c (by omega)]⟩
  unfold RelE at h2 ⊢
  rw [b17] at h2 ⊢
  rw [hs 1 (by omega), hs (1 + 1) (by omega), hs (1 + 2) (by omega), hs (1 + 3) (by omega), hs (1 + 5) (by omega)] at h2
  exact h2
theorem ready_ex {F n : Nat} (hF : 100 ≤ F) {σ : St} {r : Int} (hB : InvB n σ) (hR : InvR σ) (hr : 0 ≤ r ∧ r < σ 0 12) : ∃ τ, Ready σ r τ := by
  have hr6 : 0 ≤ r ∧ r < 6 := by have := hR.1; omega
  have b17 : bd 17 = 1 := by decide
  obtain ⟨τ, l1, l2, l3, l4⟩ := hB.load (F := F) hF (σ1 := σ) (fun _ _ _ => rfl)
  have rc : ∀ a b, supR a b → τ a b = σ a b := fun a b q => l4 a b (by unfold supR at q; omega) (by unfold supR at q; omega)
  refine ⟨τ, l3, ?_, (hR.2.2 r hr.1 hr.2).frame hr6 rc, fun c q1 q2 => by funext b; exact rc c b (by unfold supR; omega)⟩
  unfold RelE
  rw [b17]
  exact l2
theorem meanOver_eq {F n : Nat} (hF : 1000 ≤ F) (hn : n < 1000) {σ : St} {r : Int} (hB : InvB n σ) (hR : InvR σ) (hr : 0 ≤ r ∧ r < σ 0 12) (hG6 : σ 1 6 ≤ 6) (hm : MeanOK F σ r) {τc : St} (hx : Ready σ r τc) :
    ∃ σ', gX10_meanOverOrders F σ (63 + 12 * r) = some σ' ∧ MF σ' (69 + 12 * r) = mnO F r (σ 1 6).toNat τc ∧ MeanOK F σ' r ∧ ∀ a b, ¬ (17 ≤ a ∧ a ≤ 26) → ¬ (a = 69 + 12 * r ∧ 0 ≤ b ∧ b ≤ 4) → σ' a b = σ a b := by
  obtain ⟨⟨p1, p2, p3⟩, ⟨g1, g2, g3⟩, v1, -⟩ := id hB
  have hr6 : 0 ≤ r ∧ r < 6 := by have := hR.1; omega
  obtain ⟨k1, k2, k3⟩ := id hm
  unfold gX10_meanOverOrders gX2_isStale
  rw [show 63 + 12 * r + 6 = 69 + 12 * r by omega, w32_id (a := σ (69 + 12 * r) 0) (by omega), w32_id (a := σ 1 7) (by omega)]
  by_cases q : σ (69 + 12 * r) 0 = σ 1 7
  · rw [if_pos q, Option.bind_some, if_pos (by decide)]
    exact ⟨σ, rfl, (k3 q).2 τc hx, hm, fun _ _ _ _ => rfl⟩
  · rw [if_neg q, Option.bind_some, if_neg (by decide)]
    have t : ∀ a b, up (up (up (up (up σ (69 + 12 * r) 0 (σ 1 7)) (69 + 12 * r) 1 0) (69 + 12 * r) 2 0) (69 + 12 * r) 3 0) (69 + 12 * r) 4 0 a b = if a = 69 + 12 * r ∧ b = 4 then 0 else if a = 69 + 12 * r ∧ b = 3 then 0 else if a = 69 + 12 * r ∧ b = 2 then 0 else if a = 69 + 12 * r ∧ b = 1 then 0 else if a = 69 + 12 * r ∧ b = 0 then σ 1 7 else σ a b := fun a b => rfl
    unfold gX2_start
    rw [Option.bind_some]
    generalize up (up (up (up (up σ (69 + 12 * r) 0 (σ 1 7)) (69 + 12 * r) 1 0) (69 + 12 * r) 2 0) (69 + 12 * r) 3 0) (69 + 12 * r) 4 0 = s at t
    have so : ∀ a, a ≠ 69 + 12 * r → s a = σ a := fun a z => by funext b; rw [t, if_neg (by omega), if_neg (by omega), if_neg (by omega), if_neg (by omega), if_neg (by omega)]
    have st := AtC.start (F := F) hr6 hB.bd1 (σ := s) ⟨fun a y1 y2 => so a (by omega), fun c y1 y2 => so c (by omega)⟩
    have cs : clearS s 17 (69 + 12 * r) = s (69 + 12 * r) := clearS_o (by omega)
    have mf : MF (clearS s 17) (69 + 12 * r) = M0 := by
      unfold MF M0
      rw [cs, t, t, t, t, if_neg (by omega), if_neg (by omega), if_neg (by omega), if_pos (by omega), if_neg (by omega), if_neg (by omega), if_pos (by omega), if_neg (by omega), if_pos (by omega), if_pos (by omega)]
    obtain ⟨o1, o2, o3, -⟩ := orders (n := (σ 1 6).toNat) (by omega)
    have mr : MR M0 (dfsO (σ 1 6).toNat (σ 1 6).toNat []).length := ⟨⟨by decide, by decide⟩, ⟨by decide, by show (0 : Int) + ((dfsO (σ 1 6).toNat (σ 1 6).toNat []).length : Int) ≤ 5000; omega⟩, ⟨by decide, by decide⟩, ⟨by decide, by decide⟩⟩
    obtain ⟨σ', d1, d2, d3, d4, d5, d6⟩ := over_eq (F := F) (by omega) hr6 hx (G := (σ 1 6).toNat) (by omega) (by omega) hB.bd1 (σ 1 6).toNat 8 [] (clearS s 17) (by show 0 + (σ 1 6).toNat = (σ 1 6).toNat; omega) st (by rw [mf]; exact mr) (by omega)
    rw [mf] at d3
    have fo : ∀ a b, ¬ (17 ≤ a ∧ a ≤ 26) → ¬ (a = 69 + 12 * r ∧ 0 ≤ b ∧ b ≤ 4) → σ' a b = σ a b := fun a b y1 y2 => by
      rw [d6 a b y1 (by omega), clearS_o (by omega), t, if_neg (by omega), if_neg (by omega), if_neg (by omega), if_neg (by omega), if_neg (by omega)]
    have foc : ∀ a, ¬ (17 ≤ a ∧ a ≤ 26) → a ≠ 69 + 12 * r → σ' a = σ a := fun a y1 y2 => by funext b; exact fo a b y1 (by omega)
    have ev : σ' (69 + 12 * r) 0 = σ 1 7 := by rw [d6 _ 0 (by omega) (by omega), cs, t, if_neg (by omega), if_neg (by omega), if_neg (by omega), if_neg (by omega), if_pos (by omega)]
    refine ⟨σ', ?_, d3, ⟨?_, ?_, fun _ => ⟨?_, fun τ hτ => ?_⟩⟩, fo⟩
    · rw [clear_eq, Option.bind_some]
      have d1' : gX10_overOrders F 8 (clearS s 17) 17 (63 + 12 * r) (69 + 12 * r) 0 = some σ' := d1
      rw [d1', Option.bind_some]
    · rw [ev, foc 1 (by omega) (by omega)]; omega
    · rw [foc 0 (by omega) (by omega)]; omega
    · rw [foc 1 (by omega) (by omega)]; exact hG6
    · have hτ' : Ready σ r τ := hτ.frame (fun a y => foc a (by omega) (by omega))
      rw [foc 1 (by omega) (by omega), d3]
      -- the values don't ask which store
      have same : ∀ L ∈ dfsO (σ 1 6).toNat (σ 1 6).toNat [], VL F r τc L = VL F r τ L := fun L hL => by
        obtain ⟨w1, w2, w3⟩ := o2 L hL
        have st0 := AtC.start (F := F) hr6 hB.bd1 (σ := σ) ⟨fun _ _ _ => rfl, fun _ _ _ => rfl⟩
        obtain ⟨σl, hl⟩ := AtC.list (F := F) (by omega) hr6 hx hB.bd1 (G := (σ 1 6).toNat) (by omega) (by omega) L [] (clearS σ 17) (by simp; omega) w2 (by simpa using w3) st0
        rw [List.nil_append] at hl
        obtain ⟨u1, -⟩ := hl.val hx
        rw [u1 τc hx, u1 τ hτ']
      unfold mnO
      rw [List.map_congr_left same]
