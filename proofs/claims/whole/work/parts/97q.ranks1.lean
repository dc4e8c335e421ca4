-- PURE LAYER: runs with other ranks
def rkS (τ : St) (ρ : Int → Int) : St := fun a b => if a = 160 then ρ b else τ a b
theorem rkS_o {τ : St} {ρ : Int → Int} {a : Int} (h : a ≠ 160) : rkS τ ρ a = τ a := by funext b; unfold rkS; rw [if_neg h]
theorem rkS_at {τ : St} {ρ : Int → Int} (b : Int) : rkS τ ρ 160 b = ρ b := by unfold rkS; rw [if_pos rfl]
def VR (F : Nat) (r : Int) (τ : St) (ρ : Int → Int) : Int := match gX11_runByNumbers F (rkS τ ρ) r with
  | some τ' => sumN (τ' 163) (τ' 143 26).toNat 0
  | none => 0
/-- the class's trial board: that of σ0, but for the ranks -/
def TB (σ0 σ : St) (ρ : Int → Int) : Prop := (σ 27 5 = σ0 1 5 ∧ σ 27 6 = σ0 1 6) ∧ (∀ p, 0 ≤ p → p < 6 → σ 28 p = σ0 2 p ∧ σ 29 p = ρ p ∧ σ 30 p = σ0 4 p) ∧ ∀ j, 0 ≤ j → j < 54 → σ 32 j = σ0 6 j
def EB (σ0 τ : St) (ρ : Int → Int) : Prop := (τ 143 26 = σ0 1 5 ∧ τ 143 27 = σ0 1 6) ∧ (∀ p, 0 ≤ p → p < 6 → τ 159 p = σ0 2 p ∧ τ 160 p = ρ p ∧ τ 161 p = σ0 4 p) ∧ ∀ j, 0 ≤ j → j < 54 → τ 162 j = σ0 6 j
def RkOK (σ0 : St) (ρ : Int → Int) : Prop := ∀ p, 0 ≤ p → p < σ0 1 5 → 0 ≤ ρ p ∧ ρ p ≤ 99
theorem TB.bd {σ0 σ : St} {ρ : Int → Int} (h : TB σ0 σ ρ) (hB : BdOK σ0 1) (hρ : RkOK σ0 ρ) : BdOK σ 27 := by
  obtain ⟨⟨h1, h2⟩, h3, h4⟩ := h
  obtain ⟨b1', b2, b3, b4⟩ := hB
  refine ⟨by rw [h1]; exact b1', by rw [h2]; exact b2, fun p q1 q2 => ?_, fun j q1 q2 => ?_⟩
  · rw [h1] at q2
    obtain ⟨a1, a2, a3⟩ := h3 p q1 (by omega)
    obtain ⟨c1, c2, c3⟩ := b3 p q1 q2
    show (1 ≤ σ 28 p ∧ σ 28 p ≤ 3) ∧ (0 ≤ σ 29 p ∧ σ 29 p ≤ 99) ∧ (1 ≤ σ 30 p ∧ σ 30 p ≤ 999)
    rw [a1, a2, a3]
    exact ⟨c1, hρ p q1 q2, c3⟩
  · show 0 ≤ σ 32 j ∧ σ 32 j ≤ 99
    rw [h4 j q1 q2]; exact b4 j q1 q2
theorem run33 {F : Nat} (hF : 100 ≤ F) {r : Int} (hr : 0 ≤ r ∧ r < 6) {σ0 σ τ : St} {ρ : Int → Int} (hB : BdOK σ0 1) (hρ : RkOK σ0 ρ) (ht : TB σ0 σ ρ) (he : EB σ0 τ ρ) (hRu : RuleOK τ r) (hcs : ∀ c, 63 + 12 * r ≤ c → c ≤ 68 + 12 * r → τ c = σ c) :
    ∃ σ' τ', gX7_runByNumbers F σ 33 (63 + 12 * r) = some σ' ∧ gX11_runByNumbers F τ r = some τ' ∧ Rn σ' 33 τ' r (σ0 1 6) ∧ (∀ c, ¬ (33 ≤ c ∧ c ≤ 42) → σ' c = σ c) ∧ ∀ a b, ¬ supC a b → τ' a b = τ a b := by
  have b33 : bd 33 = 27 := by decide
  have hb : BdOK σ (bd 33) := by rw [b33]; exact ht.bd hB hρ
  have hE : RelE σ 33 τ := by
    unfold RelE
    rw [b33]
    obtain ⟨⟨h1, h2⟩, h3, h4⟩ := ht
    obtain ⟨⟨e1, e2⟩, e3, e4⟩ := he
    refine ⟨⟨by rw [h1]; exact e1, by rw [h2]; exact e2⟩, fun p q1 q2 => ?_, fun j q1 q2 => ?_⟩
    · obtain ⟨a1, a2, a3⟩ := h3 p q1 q2
      obtain ⟨c1, c2, c3⟩ := e3 p q1 q2
      show τ 159 p = σ 28 p ∧ τ 160 p = σ 29 p ∧ τ 161 p = σ 30 p
      rw [a1, a2, a3]
      exact ⟨c1, c2, c3⟩
    · show τ 162 j = σ 32 j
      rw [h4 j q1 q2]; exact e4 j q1 q2
  obtain ⟨σ', τ', d1, d2, d3, d4, d5⟩ := runs_eq hF (k := 33) (Or.inr (Or.inr rfl)) hr hb hE hRu hcs
  rw [b33, ht.1.2] at d3
  exact ⟨σ', τ', d1, d2, d3, fun c q => d4 c (by omega), d5⟩
theorem Loaded.eb {σ0 τ : St} {r : Int} (h : Loaded σ0 r τ) (ρ : Int → Int) : EB σ0 (rkS τ ρ) ρ := by
  have b17 : bd 17 = 1 := by decide
  obtain ⟨h1, -, -⟩ := h
  unfold RelE at h1
  rw [b17] at h1
  obtain ⟨e1, e2, e3⟩ := h1
  refine ⟨by rw [rkS_o (by omega)]; exact e1, fun p q1 q2 => ?_, fun j q1 q2 => by rw [rkS_o (by omega)]; exact e3 j q1 q2⟩
  rw [rkS_o (a := 159) (by omega), rkS_o (a := 161) (by omega), rkS_at]
  exact ⟨(e2 p q1 q2).1, rfl, (e2 p q1 q2).2.2⟩
theorem Loaded.rk {σ0 τ : St} {r : Int} (hr : 0 ≤ r ∧ r < 6) (h : Loaded σ0 r τ) (ρ : Int → Int) : RuleOK (rkS τ ρ) r ∧ ∀ c, 63 + 12 * r ≤ c → c ≤ 68 + 12 * r → rkS τ ρ c = σ0 c :=
  ⟨h.2.1.frame hr (fun a b q => by rw [rkS_o (by unfold supR at q; omega)]), fun c q1 q2 => by rw [rkS_o (by omega)]; exact h.2.2 c q1 q2⟩
/-- the class's run on a trial board with ranks ρ -/
theorem clsVR {F : Nat} (hF : 100 ≤ F) {r : Int} (hr : 0 ≤ r ∧ r < 6) {σ0 σ τc : St} {ρ : Int → Int} (hB : BdOK σ0 1) (hρ : RkOK σ0 ρ) (ht : TB σ0 σ ρ) (hl : Loaded σ0 r τc) (hcs : ∀ c, 63 + 12 * r ≤ c → c ≤ 68 + 12 * r → σ c = σ0 c) :
    ∃ σ', gX7_runByNumbers F σ 33 (63 + 12 * r) = some σ' ∧ gX7_value F σ' 33 = some (VR F r τc ρ) ∧ (0 ≤ VR F r τc ρ ∧ VR F r τc ρ ≤ 6000) ∧ ∀ c, ¬ (33 ≤ c ∧ c ≤ 42) → σ' c = σ c := by
  obtain ⟨k1, k2⟩ := hl.rk hr ρ
  obtain ⟨σ', τ', d1, d2, d3, d4, d5⟩ := run33 hF hr hB hρ ht (hl.eb ρ) k1 (fun c q1 q2 => by rw [k2 c q1 q2, hcs c q1 q2])
  have ev : VR F r τc ρ = sumN (σ' (33 + 2)) (σ' (bd 33) 5).toNat 0 := by
    unfold VR
    rw [d2]
    exact d3.rel.2.1
  refine ⟨σ', d1, by rw [ev]; exact value_eq hF d3.1.1, by rw [ev]; exact d3.val_rng, d4⟩
/-- the reference's run with ranks ρ -/
theorem refVR {F : Nat} (hF : 100 ≤ F) {r : Int} (hr : 0 ≤ r ∧ r < 6) {σ0 τ τc : St} {ρ : Int → Int} (hB : BdOK σ0 1) (hρ : RkOK σ0 ρ) (he : EB σ0 τ ρ) (hRu : RuleOK τ r) (hcs : ∀ c, 63 + 12 * r ≤ c → c ≤ 68 + 12 * r → τ c = σ0 c) (hl : Loaded σ0 r τc) :
    ∃ τ', gX11_runByNumbers F τ r = some τ' ∧ gX11_valueNow F τ' = some (VR F r τc ρ) ∧ (0 ≤ VR F r τc ρ ∧ VR F r τc ρ ≤ 6000) ∧ ∀ a b, ¬ supC a b → τ' a b = τ a b := by
  let σc : St := fun a b => if a = 27 then σ0 1 b else if a = 28 then σ0 2 b else if a = 29 then ρ b else if a = 30 then σ0 4 b else if a = 32 then σ0 6 b else σ0 a b
  have ht : TB σ0 σc ρ := ⟨⟨rfl, rfl⟩, fun p _ _ => ⟨rfl, rfl, rfl⟩, fun j _ _ => rfl⟩
  have hc : ∀ c, 63 + 12 * r ≤ c → c ≤ 68 + 12 * r → σc c = σ0 c := fun c q1 q2 => by
    funext b
    show (if c = 27 then σ0 1 b else if c = 28 then σ0 2 b else if c = 29 then ρ b else if c = 30 then σ0 4 b else if c = 32 then σ0 6 b else σ0 c b) = σ0 c b
    rw [if_neg (by omega), if_neg (by omega), if_neg (by omega), if_neg (by omega), if_neg (by omega)]
  obtain ⟨σ', τ', d1, d2, d3, d4, d5⟩ := run33 hF hr hB hρ ht he hRu (fun c q1 q2 => by rw [hcs c q1 q2, hc c q1 q2])
  obtain ⟨σ'', e1, e2, e3, e4⟩ := clsVR hF hr hB hρ ht hl hc
  rw [d1] at e1
  obtain rfl := Option.some.inj e1
  rw [value_eq hF d3.1.1] at e2
  have ev := Option.some.inj e2
  obtain ⟨r1, r2, -⟩ := d3.rel
  exact ⟨τ', d2, by rw [valueNow_eq hF r1.1, r2, ev], e3, d5⟩
-- a rule that asks for no rank
def rkC (σ : St) (ρ : Int → Int) : St := fun a b => if a = 29 then ρ b else σ a b
theorem rkC_o {σ : St} {ρ : Int → Int} {a : Int} (h : a ≠ 29) : rkC σ ρ a = σ a := by funext b; unfold rkC; rw [if_neg h]
theorem pPass_kc {k1 k2 tk tb tn : Int → Int} (h : ∀ t, t ≠ 3 → k1 t = k2 t) : ∀ (m : Nat) (i : Int), (∀ j, i ≤ j → j < i + m → tk j ≠ 3) → pPass k1 tk tb tn m i = pPass k2 tk tb tn m i := by
  intro m
  induction m with
  | zero => intro i _; rfl
  | succ m ih =>
    intro i hk
    have e : ∀ k : Int → Int, pPass k tk tb tn (m + 1) i = if tb i = 0 then (if k (tk i) > tn i then pPass k tk tb tn m (i + 1) else 0) else (if k (tk i) < tn i then pPass k tk tb tn m (i + 1) else 0) := fun k => rfl
    rw [e, e, h (tk i) (hk i (by omega) (by omega)), ih (i + 1) (fun j q1 q2 => hk j (by omega) (by omega))]
theorem pAhd_kc {k1 k2 l1 l2 kk kl : Int → Int} (h : ∀ t, t ≠ 3 → k1 t = k2 t ∧ l1 t = l2 t) : ∀ (m : Nat) (i : Int), (∀ j, i ≤ j → j < i + m → kk j ≠ 3) → pAhd k1 l1 kk kl m i = pAhd k2 l2 kk kl m i := by
  intro m
  induction m with
  | zero => intro i _; rfl
  | succ m ih =>
    intro i hk
    have e : ∀ k l : Int → Int, pAhd k l kk kl (m + 1) i = if k (kk i) = l (kk i) then pAhd k l kk kl m (i + 1) else if kl i = 0 then (if k (kk i) ≤ l (kk i) then 0 else 1) else (if k (kk i) ≥ l (kk i) then 0 else 1) := fun k l => rfl
    obtain ⟨h1, h2⟩ := h (kk i) (hk i (by omega) (by omega))
    rw [e, e, h1, h2, ih (i + 1) (fun j q1 q2 => hk j (by omega) (by omega))]
/-- the rule at x asks for no rank -/
def NoRk (σ : St) (x : Int) : Prop := (∀ i, 0 ≤ i → i < σ x 8 → σ (x + 1) i ≠ 3) ∧ ∀ i, 0 ≤ i → i < σ x 9 → σ (x + 3) i ≠ 3
theorem chC_rk {σ : St} {ρ : Int → Int} {g x : Int} (hx : 63 ≤ x) (hR : RuC σ x) (hn : NoRk σ x) : chC (rkC σ ρ) 33 g x = chC σ 33 g x := by
  have b33 : bd 33 = 27 := by decide
  have o : ∀ a, a ≠ 29 → rkC σ ρ a = σ a := fun a h => rkC_o h
  have hk : ∀ p t, t ≠ 3 → kC (rkC σ ρ) 33 g p t = kC σ 33 g p t := fun p t ht => by
    unfold kC pKey
    rw [b33, o (27 + 1) (by omega), o (33 + 2) (by omega), o (33 + 3) (by omega), o (27 + 5) (by omega), if_neg (show ¬ t = 3 from ht), if_neg (show ¬ t = 3 from ht)]
  have e1 : canC (rkC σ ρ) 33 g x = canC σ 33 g x := by
    funext p
    unfold canC
    rw [b33, o (27 + 1) (by omega), o (33 + 2) (by omega), o (27 + 3) (by omega), o (33 + 3) (by omega), o (33 + 4) (by omega), o (27 + 5) (by omega), o 27 (by omega), o x (by omega)]
  have e2 : passC (rkC σ ρ) 33 g x = passC σ 33 g x := by
    funext p
    unfold passC
    rw [o (x + 3) (by omega), o (x + 4) (by omega), o (x + 5) (by omega), o x (by omega)]
    exact pPass_kc (fun t ht => hk p t ht) _ _ (fun j q1 q2 => hn.2 j q1 (by have := hR.2.2.1; omega))
  have e3 : ahdC (rkC σ ρ) 33 g x = ahdC σ 33 g x := by
    funext p q
    unfold ahdC
    rw [o (x + 1) (by omega), o (x + 2) (by omega), o x (by omega)]
    exact pAhd_kc (fun t ht => ⟨hk p t ht, hk q t ht⟩) _ _ (fun j q1 q2 => hn.1 j q1 (by have := hR.1; omega))
  unfold chC
  rw [e1, e2, e3, b33, o 27 (by omega)]
theorem enterS_rk {σ : St} {ρ : Int → Int} {g p : Int} : enterS (rkC σ ρ) 33 g p = rkC (enterS σ 33 g p) ρ := by
  have b33 : bd 33 = 27 := by decide
  have o : ∀ a, a ≠ 29 → rkC σ ρ a = σ a := fun a h => rkC_o h
  have ew : wkC (rkC σ ρ) 33 p = wkC σ 33 p := by
    unfold wkC
    rw [b33, o (33 + 3) (by omega), o (33 + 4) (by omega), o (27 + 5) (by omega), o 27 (by omega)]
  have eo : outC (rkC σ ρ) 33 p = outC σ 33 p := by
    unfold outC
    rw [ew, b33, o (27 + 1) (by omega), o (33 + 3) (by omega)]
  have ep : payC (rkC σ ρ) 33 g p = payC σ 33 g p := by
    unfold payC
    rw [b33, o (27 + 3) (by omega), o (33 + 2) (by omega), o (27 + 5) (by omega)]
  funext a b
  by_cases z : a = 29
  · subst z
    rw [enterS_o (by omega)]
    unfold rkC
    rw [if_pos rfl, if_pos rfl]
  · rw [rkC_o z]
    by_cases y : p = -4
    · rw [y, enterS_no, enterS_no, o 33 (by omega), o a z]
    · have ed : ∀ c d, c ≠ 29 → dropS (rkC σ ρ) 33 (outC σ 33 p) p c d = dropS σ 33 (outC σ 33 p) p c d := fun c d hc => by
        unfold dropS
        split
        · rw [o c hc]
        · rw [up_at, up_at, up_at, up_at, up_at, up_at, o (33 + 1) (by omega), o 33 (by omega), o c hc]
      rw [enterS_at y, enterS_at y, o 33 (by omega), eo, ep, o (33 + 2) (by omega), ed (33 + 1) p (by omega), ed a b z]
