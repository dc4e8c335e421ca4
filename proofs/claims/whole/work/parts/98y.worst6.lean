-- PURE LAYER: worst (6): the reference's search, op 24
theorem VW_eq {F : Nat} (hF : 100 ≤ F) {r : Int} (hr : 0 ≤ r ∧ r < 6) {n : Nat} (hn : 1 ≤ n ∧ n ≤ 3) {τc τd : St} (h1 : RuleOK τc r) (h2 : RuleOK τd r) (h3 : ∀ c, 63 + 12 * r ≤ c → c ≤ 68 + 12 * r → τc c = τd c) : VW F r τc n = VW F r τd n ∧ ∀ b, 0 ≤ VW F r τc n b ∧ VW F r τc n b ≤ 6000 := by
  have key : ∀ b, VW F r τc n b = VW F r τd n b ∧ 0 ≤ VW F r τc n b ∧ VW F r τc n b ≤ 6000 := fun b => by
    let σc : St := fun a j => if a = 27 then n else if a = 28 then 1 else if a = 29 then j else if a = 30 then 999 else if a = 32 then netw n b j else τc a j
    have so : ∀ c, 63 + 12 * r ≤ c → c ≤ 68 + 12 * r → σc c = τc c := fun c q1 q2 => by
      funext j
      show (if c = 27 then (n : Int) else if c = 28 then 1 else if c = 29 then j else if c = 30 then 999 else if c = 32 then netw n b j else τc c j) = τc c j
      rw [if_neg (by omega), if_neg (by omega), if_neg (by omega), if_neg (by omega), if_neg (by omega)]
    have hb : BN n b σc := ⟨⟨rfl, rfl⟩, fun p _ _ => ⟨rfl, rfl, rfl⟩, fun g p _ _ _ _ => rfl, fun j _ _ => by
      have := netw_01 n b j
      show 0 ≤ netw n b j ∧ netw n b j ≤ 99
      omega⟩
    obtain ⟨s1, a1, a2, a3, -⟩ := clsVW (F := F) hF hr hn hb h1 so
    obtain ⟨s2, b1', b2, -, -⟩ := clsVW (F := F) hF hr hn hb h2 (fun c q1 q2 => by rw [so c q1 q2]; exact h3 c q1 q2)
    rw [a1] at b1'
    obtain rfl := Option.some.inj b1'
    rw [a2] at b2
    exact ⟨Option.some.inj b2, a3⟩
  exact ⟨funext fun b => (key b).1, fun b => (key b).2⟩
theorem sq_bits {n : Nat} (hn : 1 ≤ n ∧ n ≤ 3) : ishl 1 ((n : Int) * n) = ((2 ^ (n * n) : Nat) : Int) ∧ 2 ^ (n * n) ≤ 512 ∧ 2 ≤ 2 ^ (n * n) := by
  have : n = 1 ∨ n = 2 ∨ n = 3 := by omega
  rcases this with rfl | rfl | rfl <;> decide
def finW (F : Nat) (x3 : Int) (M : Int × Int × Int × Int) (τ : St) : Option (Int × St) := if w32 x3 ≠ 2 then if w32 x3 ≠ 3 then (gX11_lowest F τ (w32 M.1) (w32 M.2.1) x3).bind fun r1 => some (l2i_ r1, τ) else some (M.2.2.2, τ) else some (M.2.2.1, τ)
theorem ref_49 {F : Nat} (hF : 1000 ≤ F) {r x3 : Int} (hr : 0 ≤ r ∧ r < 6) {n : Nat} (hn : 1 ≤ n ∧ n ≤ 3) {τc : St} (hl : RuleOK τc r) : ∀ (m k j : Nat) (τ : St) (M : Int × Int × Int × Int), j + m = 2 ^ (n * n) → 1 ≤ j → m < k → Ew τ → RuleOK τ r → (∀ c, 63 + 12 * r ≤ c → c ≤ 68 + 12 * r → τ c = τc c) → M = WM (VW F r τc n) n 1 (j - 1) →
    ∃ τ', gX11_worst_L49 F r n x3 k M.1 M.2.1 M.2.2.1 M.2.2.2 j τ = finW F x3 (WM (VW F r τc n) n 1 (2 ^ (n * n) - 1)) τ' ∧ Ew τ' ∧ ∀ a b, ¬ (a = 143 ∧ (b = 26 ∨ b = 27 ∨ b = 35 ∨ b = 36)) → ¬ (159 ≤ a ∧ a ≤ 165) → τ' a b = τ a b := by
  obtain ⟨hsq, hX, -⟩ := sq_bits hn
  have hVW := (VW_eq (F := F) (by omega) hr hn hl hl (fun _ _ _ => rfl)).2
  generalize hXe : 2 ^ (n * n) = X at *
  intro m
  induction m with
  | zero =>
    intro k j τ M h1 h2 h3 h4 h5 h6 h7
    obtain ⟨k, rfl⟩ : ∃ k', k = k' + 1 := ⟨k - 1, by omega⟩
    refine ⟨τ, ?_, h4, fun _ _ _ _ => rfl⟩
    rw [gX11_worst_L49, hsq, w32_id (a := (j : Int)) (by omega), if_pos (by omega), h7, show j = X by omega]
    rfl
  | succ m ih =>
    intro k j τ M h1 h2 h3 h4 h5 h6 h7
    obtain ⟨k, rfl⟩ : ∃ k', k = k' + 1 := ⟨k - 1, by omega⟩
    obtain ⟨t1, a1, a2, a3⟩ := load_eq (F := F) (by omega) hn (b := j) (by omega) h4
    have ru1 : RuleOK t1 r := h5.frame hr (fun a b q => a3 a b (by unfold supR at q; omega) (by unfold supR at q; omega))
    have rc1 : ∀ c, 63 + 12 * r ≤ c → c ≤ 68 + 12 * r → t1 c = τc c := fun c q1 q2 => by
      rw [← h6 c q1 q2]; funext b; exact a3 c b (by omega) (by omega)
    have mp := most_eq (F := F) (by omega) (τ := t1) hn (b := j) a2.2.2.1
    obtain ⟨t2, c1, c2, c3⟩ := refVW (F := F) (by omega) hr hn a2 ru1 hl rc1
    have hp := most_tab hn (b := j) (by omega)
    have hp1 := hp.2.1 h2
    have hv := hVW j
    obtain ⟨⟨w1, w2, w3, w4⟩, -⟩ := WM_rng (f := VW F r τc n) (s := 1) hn (by omega) hVW (j - 1) (by omega)
    rw [← h7] at w1 w2 w3 w4
    have m1 : 0 ≤ VW F r τc n j * M.2.1 ∧ VW F r τc n j * M.2.1 ≤ 6000 * 3 := ⟨Int.mul_nonneg hv.1 w2.1, Int.mul_le_mul hv.2 w2.2 w2.1 (by omega)⟩
    have m2 : 0 ≤ M.1 * ((mpN n j : Nat) : Int) ∧ M.1 * ((mpN n j : Nat) : Int) ≤ 6000 * 3 := ⟨Int.mul_nonneg w1.1 (by omega), Int.mul_le_mul w1.2 (by omega) (by omega) (by omega)⟩
    have t2o : ∀ a b, ¬ (a = 143 ∧ (b = 26 ∨ b = 27 ∨ b = 35 ∨ b = 36)) → ¬ (159 ≤ a ∧ a ≤ 165) → t2 a b = τ a b := fun a b q1 q2 => by rw [c3 a b (by unfold supC; omega), a3 a b q1 q2]
    have e2 : Ew t2 := fun y y1 y2 => by rw [c3 162 y (by unfold supC; omega)]; exact a2.2.2.2 y y1 y2
    obtain ⟨τ', d1, d2, d3⟩ := ih k (j + 1) t2 (wAdd M (VW F r τc n j) ((mpN n j : Nat) : Int) (j : Int)) (by omega) (by omega) (by omega) e2 (h5.frame hr (fun a b q => t2o a b (by unfold supR at q; omega) (by unfold supR at q; omega))) (fun c q1 q2 => by rw [← h6 c q1 q2]; funext b; exact t2o c b (by omega) (by omega)) (by
      rw [h7, Nat.add_sub_cancel]
      obtain ⟨i, rfl⟩ : ∃ i, j = i + 1 := ⟨j - 1, by omega⟩
      rfl)
    refine ⟨τ', ?_, d2, fun a b q1 q2 => by rw [d3 a b q1 q2, t2o a b q1 q2]⟩
    rw [← d1, gX11_worst_L49, hsq, w32_id (a := (j : Int)) (by omega), if_neg (by omega), a1, Option.bind_some, mp, Option.bind_some, c1, Option.bind_some, c2, Option.bind_some, w32_id (a := VW F r τc n j) (by omega), w32_id (a := ((mpN n j : Nat) : Int)) (by omega)]
    unfold gX11_worst_L98 gX11_worst_L119 gX11_worst_L131
    rw [w32_id (a := M.2.1) (by omega), w32_id (a := VW F r τc n j * M.2.1) (by omega), w32_id (a := M.1 * ((mpN n j : Nat) : Int)) (by omega), show (j : Int) + 1 = ((j + 1 : Nat) : Int) by omega]
    unfold wAdd
    by_cases q0 : VW F r τc n j = ((mpN n j : Nat) : Int)
    · rw [if_neg (fun w => w q0), if_pos q0]
      by_cases q : M.2.1 = 0
      · rw [if_pos q, if_pos (Or.inl q)]
      · rw [if_neg q]
        by_cases p : VW F r τc n j * M.2.1 < M.1 * ((mpN n j : Nat) : Int)
        · rw [if_neg (by omega), if_pos (Or.inr p)]
        · rw [if_pos (by omega), if_neg (by omega)]
    · rw [if_pos q0, if_neg q0, Int.add_zero]
      by_cases q : M.2.1 = 0
      · rw [if_pos q, if_pos (Or.inl q)]
      · rw [if_neg q]
        by_cases p : VW F r τc n j * M.2.1 < M.1 * ((mpN n j : Nat) : Int)
        · rw [if_neg (by omega), if_pos (Or.inr p)]
        · rw [if_pos (by omega), if_neg (by omega)]
def WorstOK (F : Nat) (σ : St) (r : Int) (n : Nat) : Prop := (σ (71 + 12 * r + n) 0 = 0 ∧ σ (71 + 12 * r + n) 1 = 0 ∧ σ (71 + 12 * r + n) 2 = 0 ∧ σ (71 + 12 * r + n) 3 = 0) ∨ (r < σ 0 12 ∧ ∀ τc, RuleOK τc r → (∀ c, 63 + 12 * r ≤ c → c ≤ 68 + 12 * r → τc c = σ c) → (σ (71 + 12 * r + n) 0, σ (71 + 12 * r + n) 1, σ (71 + 12 * r + n) 2, σ (71 + 12 * r + n) 3) = WM (VW F r τc n) n 0 (2 ^ (n * n) - 1))
theorem WorstOK.frame {F : Nat} {σ σ' : St} {r : Int} {n : Nat} (h : WorstOK F σ r n) (h1 : ∀ b, 0 ≤ b → b ≤ 3 → σ' (71 + 12 * r + n) b = σ (71 + 12 * r + n) b) (h2 : r < σ 0 12 → r < σ' 0 12 ∧ ∀ c, 63 + 12 * r ≤ c → c ≤ 68 + 12 * r → σ' c = σ c) : WorstOK F σ' r n := by
  unfold WorstOK
  rw [h1 0 (by omega) (by omega), h1 1 (by omega) (by omega), h1 2 (by omega) (by omega), h1 3 (by omega) (by omega)]
  rcases h with h | ⟨h3, h4⟩
  · exact Or.inl h
  · obtain ⟨k1, k2⟩ := h2 h3
    exact Or.inr ⟨k1, fun τc w1 w2 => h4 τc w1 (fun c q1 q2 => by rw [w2 c q1 q2, k2 c q1 q2])⟩
def OnlyW (r : Int) (n : Nat) (σ σ' : St) : Prop := ∀ a b, ¬ scr a b → a ≠ 32 → a ≠ 162 → ¬ (a = 71 + 12 * r + n ∧ 0 ≤ b ∧ b ≤ 3) → σ' a b = σ a b
/-- the class knows the worst net of n posts under rule r -/
theorem known_eq {F : Nat} (hF : 1000 ≤ F) {σ : St} {r : Int} {n : Nat} (hn : 1 ≤ n ∧ n ≤ 3) (hR : InvR σ) (hr : 0 ≤ r ∧ r < σ 0 12) (ht : TrOK σ) (hw : WorstOK F σ r n) :
    ∃ σ1, ((gX9_isKnown σ (71 + 12 * r + n)).bind fun r6 => if w32 r6 ≠ 0 then some σ else gX10_searchNets F σ (63 + 12 * r) n (71 + 12 * r + n)) = some σ1 ∧ (σ1 (71 + 12 * r + n) 0, σ1 (71 + 12 * r + n) 1, σ1 (71 + 12 * r + n) 2, σ1 (71 + 12 * r + n) 3) = WM (VW F r σ n) n 0 (2 ^ (n * n) - 1) ∧ TrOK σ1 ∧ ∀ a b, ¬ (27 ≤ a ∧ a ≤ 42) → ¬ (45 ≤ a ∧ a ≤ 49) → ¬ (a = 71 + 12 * r + n ∧ 0 ≤ b ∧ b ≤ 3) → σ1 a b = σ a b := by
  have hR1 := hR.1
  have hr6 : 0 ≤ r ∧ r < 6 := by omega
  have ru := hR.2.2 r hr.1 hr.2
  obtain ⟨hsq, hX, hX2⟩ := sq_bits hn
  have hVW := (VW_eq (F := F) (by omega) hr6 hn ru ru (fun _ _ _ => rfl)).2
  obtain ⟨wr, w1⟩ := WM_rng (f := VW F r σ n) (s := 0) hn (by omega) hVW (2 ^ (n * n) - 1) (by omega)
  unfold gX9_isKnown
  rcases hw with ⟨z0, z1, z2, z3⟩ | ⟨-, hk⟩
  · rw [z1, w32_0, if_pos (by decide), Option.bind_some, w32_0, if_neg (fun w => w rfl)]
    obtain ⟨s1, a1, a2, a3, a4⟩ := square_eq (F := F) (by omega) (n := n) (by omega) σ
    obtain ⟨σ1, d1, d2, d3, d4⟩ := search_18 hF hr6 hn ru (2 ^ (n * n) - 1) F 1 s1 (by omega) (by omega) (by omega) a2 a3 (fun j q1 q2 => by rw [a4 32 j (by omega)]; exact ht j q1 q2) (fun c q1 q2 => by funext b; exact a4 c b (by omega)) (by
      rw [a4 _ 0 (by omega), a4 _ 1 (by omega), a4 _ 2 (by omega), a4 _ 3 (by omega), z0, z1, z2, z3]
      rfl)
    refine ⟨σ1, ?_, d2, d3, fun a b q1 q2 q3 => by rw [d4 a b q1 q2 q3, a4 a b (by omega)]⟩
    unfold gX10_searchNets
    rw [a1, Option.bind_some, hsq]
    exact d1
  · have e := hk σ ru (fun _ _ _ => rfl)
    have e1 : σ (71 + 12 * r + n) 1 = (WM (VW F r σ n) n 0 (2 ^ (n * n) - 1)).2.1 := by rw [← e]
    have w1 := w1 (by omega)
    have w2 := wr.2.1
    rw [w32_id (by omega), if_neg (by omega), Option.bind_some, w32_1, if_pos (by decide)]
    exact ⟨σ, rfl, e, ht, fun _ _ _ _ _ => rfl⟩
theorem op_worst {F : Nat} (hF : 1000 ≤ F) {σ : St} {a b d : Int} (hR : InvR σ) (ht : TrOK σ) (hE : Ew σ) (hw : ∀ r (n : Nat), 0 ≤ r → r < 6 → 1 ≤ n → n ≤ 3 → WorstOK F σ r n) (ha : w32 a = a) (hb : w32 b = b) (hd : w32 d = d) :
    ∃ r σ1 σ2, gX10_worst F σ a b d = some (r, σ1) ∧ gX11_worst F σ1 a b d = some (r, σ2) ∧ (σ2 = σ ∨ ∃ n : Nat, (0 ≤ a ∧ a < σ 0 12) ∧ (1 ≤ n ∧ n ≤ 3) ∧ WorstOK F σ2 a n ∧ OnlyW a n σ σ2 ∧ TrOK σ2 ∧ Ew σ2) := by
  have hR1 := hR.1
  have mm : ∀ s : St, s 143 16 = σ 0 12 → gX11_worst F s a b d = (if 0 ≤ a ∧ a < σ 0 12 then (if 1 ≤ b ∧ b ≤ 3 then (if 0 ≤ d ∧ d ≤ 3 then gX11_worst_L49 F a b d F 1 0 0 0 1 s else some (-1, s)) else some (-1, s)) else some (-1, s)) := by
    intro s h1
    unfold gX11_worst
    rw [gX11_isRule_eq s ha (by omega), Option.bind_some, tv_if0, h1, hb, gX11_in_eq s (by rw [← hb]; exact w64w b) (by decide) (by decide), Option.bind_some, tv_if0, hd, gX11_in_eq s (by rw [← hd]; exact w64w d) (by decide) (by decide), Option.bind_some, tv_if1]
  unfold gX10_worst
  rw [gX10_isRule_eq σ ha (w32_id (by omega)), Option.bind_some, tv_if0, gX10_isIn_eq σ hb (by decide) (by decide), Option.bind_some, tv_if0, gX10_isIn_eq σ hd (by decide) (by decide), Option.bind_some, tv_if1]
  by_cases q1 : 0 ≤ a ∧ a < σ 0 12
  · by_cases q2 : 1 ≤ b ∧ b ≤ 3
    · by_cases q3 : 0 ≤ d ∧ d ≤ 3
      · obtain ⟨n, rfl⟩ : ∃ n : Nat, b = n := ⟨b.toNat, by omega⟩
        have hn : 1 ≤ n ∧ n ≤ 3 := by omega
        have hr6 : 0 ≤ a ∧ a < 6 := by omega
        have ru := hR.2.2 a q1.1 q1.2
        obtain ⟨hsq, hX, hX2⟩ := sq_bits hn
        have hVW := (VW_eq (F := F) (by omega) hr6 hn ru ru (fun _ _ _ => rfl)).2
        obtain ⟨wr, w1⟩ := WM_rng (f := VW F a σ n) (s := 0) hn (by omega) hVW (2 ^ (n * n) - 1) (by omega)
        have w1 := w1 (by omega)
        obtain ⟨σ1, k1, k2, k3, k4⟩ := known_eq hF hn hR q1 ht (hw a n hr6.1 hr6.2 hn.1 hn.2)
        have kr : ∀ x y, supR x y → σ1 x y = σ x y := fun x y q => k4 x y (by unfold supR at q; omega) (by unfold supR at q; omega) (by unfold supR at q; omega)
        obtain ⟨τ', r1, r2, r3⟩ := ref_49 hF (x3 := d) hr6 hn ru (2 ^ (n * n) - 1) F 1 σ1 (1, 0, 0, 0) (by omega) (by omega) (by omega) (fun j y1 y2 => by rw [k4 162 j (by omega) (by omega) (by omega)]; exact hE j y1 y2) (ru.frame hr6 kr) (fun c c1 c2 => by funext y; exact kr c y (by unfold supR; omega)) rfl
        have es : WM (VW F a σ n) n 1 (2 ^ (n * n) - 1) = WM (VW F a σ n) n 0 (2 ^ (n * n) - 1) := by
          obtain ⟨i, hi⟩ : ∃ i, 2 ^ (n * n) - 1 = i + 1 := ⟨2 ^ (n * n) - 2, by omega⟩
          rw [hi]; exact WM_s _ _ _ _ i
        rw [es] at r1
        generalize hM : WM (VW F a σ n) n 0 (2 ^ (n * n) - 1) = M at *
        obtain ⟨v1, v2, v3, v4⟩ := wr
        have e0 : σ1 (71 + 12 * a + n) 0 = M.1 := by rw [← k2]
        have e1 : σ1 (71 + 12 * a + n) 1 = M.2.1 := by rw [← k2]
        have e2 : σ1 (71 + 12 * a + n) 2 = M.2.2.1 := by rw [← k2]
        have e3 : σ1 (71 + 12 * a + n) 3 = M.2.2.2 := by rw [← k2]
        have mm1 := mm σ1 (by rw [kr 143 16 (by unfold supR; omega)]; exact hR1.2.2)
        rw [if_pos q1, if_pos q2, if_pos q3] at mm1
        have r1' : gX11_worst_L49 F a n d F 1 0 0 0 1 σ1 = _ := r1
        have good : σ = τ' ∨ ∃ n : Nat, (0 ≤ a ∧ a < σ 0 12) ∧ (1 ≤ n ∧ n ≤ 3) ∧ WorstOK F τ' a n ∧ OnlyW a n σ τ' ∧ TrOK τ' ∧ Ew τ' := by
          have tc : ∀ c, 63 + 12 * a ≤ c → c ≤ 68 + 12 * a → τ' c = σ c := fun c c1 c2 => by funext y; rw [r3 c y (by omega) (by omega)]; exact kr c y (by unfold supR; omega)
          refine Or.inr ⟨n, q1, hn, Or.inr ⟨?_, fun τc t1 t2 => ?_⟩, fun x y y1 y2 y3 y4 => ?_, fun j y1 y2 => ?_, r2⟩
          · rw [r3 0 12 (by omega) (by omega), kr 0 12 (by unfold supR; omega)]; exact q1.2
          · rw [r3 _ 0 (by omega) (by omega), r3 _ 1 (by omega) (by omega), r3 _ 2 (by omega) (by omega), r3 _ 3 (by omega) (by omega), k2, ← hM, (VW_eq (F := F) (by omega) hr6 hn t1 ru (fun c c1 c2 => by rw [t2 c c1 c2, tc c c1 c2])).1]
          · unfold scr at y1
            rw [r3 x y (by omega) (by omega), k4 x y (by omega) (by omega) y4]
          · rw [r3 32 j (by omega) (by omega)]; exact k3 j y1 y2
        have good : τ' = σ ∨ _ := good.imp Eq.symm id
        rw [if_pos q1, if_pos q2, if_pos q3, ha, gd_pos (by omega), w32_id (a := (n : Int) - 1) (by omega), gd_pos (by omega), show 63 + 12 * a + 8 + 1 + ((n : Int) - 1) = 71 + 12 * a + n by omega]
        have cl : ((gX9_isKnown σ (71 + 12 * a + n)).bind fun r6 => if w32 r6 ≠ 0 then gX10_worst_L64 F a n d (71 + 12 * a + n) σ else gd (0 ≤ a ∧ a < 6) ((gX10_searchNets F σ (63 + 12 * a) n (71 + 12 * a + n)).bind fun r8 => gX10_worst_L64 F a n d (71 + 12 * a + n) r8)) = gX10_worst_L64 F a n d (71 + 12 * a + n) σ1 := by
          cases hkn : gX9_isKnown σ (71 + 12 * a + n) with
          | none => rw [hkn] at k1; exact absurd k1 (by simp)
          | some r6 =>
            rw [hkn, Option.bind_some] at k1
            rw [Option.bind_some]
            by_cases z : w32 r6 ≠ 0
            · rw [if_pos z] at k1 ⊢
              rw [Option.some.inj k1]
            · rw [if_neg z] at k1 ⊢
              rw [gd_pos hr6, k1, Option.bind_some]
        rw [cl]
        unfold gX10_worst_L64
        rw [e0, e1, e2, e3, hd, w32_id (a := M.1) (by omega), w32_id (a := M.2.1) (by omega)]
        unfold finW at r1'
        rw [hd, w32_id (a := M.1) (by omega), w32_id (a := M.2.1) (by omega)] at r1'
        by_cases d2 : d = 2
        · rw [if_neg (fun w => w d2)] at r1'
          rw [if_neg (by omega), if_neg (by omega), if_pos d2]
          exact ⟨_, σ1, τ', rfl, by rw [mm1, r1'], good⟩
        · rw [if_pos d2] at r1'
          by_cases d3 : d = 3
          · rw [if_neg (fun w => w d3)] at r1'
            rw [if_neg (by omega), if_neg (by omega), if_neg d2]
            exact ⟨_, σ1, τ', rfl, by rw [mm1, r1'], good⟩
          · rw [if_pos d3] at r1'
            obtain ⟨y, l1, l2⟩ := lowest_eq (F := F) hF (σ := σ1) (τ := τ') (a := M.1) (b := M.2.1) (x4 := d) (by omega) (by omega)
            rw [l2, Option.bind_some] at r1'
            by_cases d0 : d = 0
            · rw [d0] at l1
              rw [if_pos d0, l1, Option.bind_some]
              exact ⟨_, σ1, τ', rfl, by rw [mm1, r1'], good⟩
            · have d1 : d = 1 := by omega
              rw [d1] at l1
              rw [if_neg d0, if_pos d1, l1, Option.bind_some]
              exact ⟨_, σ1, τ', rfl, by rw [mm1, r1'], good⟩
      · refine ⟨-1, σ, σ, by rw [if_pos q1, if_pos q2, if_neg q3], ?_, Or.inl rfl⟩
        rw [mm σ hR1.2.2, if_pos q1, if_pos q2, if_neg q3]
    · refine ⟨-1, σ, σ, by rw [if_pos q1, if_neg q2], ?_, Or.inl rfl⟩
      rw [mm σ hR1.2.2, if_pos q1, if_neg q2]
  · refine ⟨-1, σ, σ, by rw [if_neg q1], ?_, Or.inl rfl⟩
    rw [mm σ hR1.2.2, if_neg q1]
