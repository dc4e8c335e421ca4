-- PURE LAYER: the reference's guest takes a post
def outM (τ : St) (p : Int) : Int := if cntN (τ 164) p = τ 159 p then wkM τ p else -4
def payM (τ : St) (g p : Int) : Int := if τ 162 (6 * g + p) ≥ τ 161 p - τ 163 p then τ 161 p - τ 163 p else τ 162 (6 * g + p)
theorem takes_36 {F : Nat} {τ : St} {g p : Int} (hg : 0 ≤ g ∧ g < 9) (hp : 0 ≤ p ∧ p < 6) (hw : 0 ≤ τ 162 (6 * g + p) ∧ τ 162 (6 * g + p) ≤ 99) (hb : 0 ≤ τ 163 p ∧ τ 163 p ≤ τ 161 p ∧ τ 161 p ≤ 999) : gX11_takes_L36 F g p τ = some (payM τ g p, up (up τ 163 p (τ 163 p + payM τ g p)) 164 g p) := by
  unfold gX11_takes_L36 gX11_takes_L75 payM
  rw [w32_id (a := 6 * g + p) (by omega), gd_pos (by omega), w32_id (a := p) (by omega), w32_id (a := g) (by omega), gd_pos (by omega), gd_pos (by omega), w32_id (a := τ 162 (6 * g + p)) (by omega), w32_id (a := τ 161 p - τ 163 p) (by omega)]
  by_cases q : τ 162 (6 * g + p) ≥ τ 161 p - τ 163 p
  · rw [if_pos q, if_pos q, gd_pos (by omega), gd_pos (by omega), gd_pos (by omega)]
  · rw [if_neg q, if_neg q, gd_pos (by omega), gd_pos (by omega), gd_pos (by omega)]
theorem takes_eq {F : Nat} (hF : 100 ≤ F) {τ : St} {g p : Int} (h : MOK τ) (hg : 0 ≤ g ∧ g < 9) (hp : 0 ≤ p ∧ p < τ 143 26) (hn : τ 164 g = -4) : ∃ τ', gX11_takes F τ g p = some (payM τ g p, τ') ∧ (∀ a b, τ' a b = if a = 164 ∧ b = g then p else if a = 164 ∧ b = outM τ p then (if outM τ p = -4 then τ 164 b else -4) else if a = 163 ∧ b = p then τ 163 p + payM τ g p else if a = 143 ∧ b = 36 then τ 143 36 + (if outM τ p = -4 then 0 else 1) else τ a b) ∧ (outM τ p = -4 ∨ 0 ≤ outM τ p ∧ outM τ p < 9 ∧ outM τ p ≠ g ∧ τ 164 (outM τ p) = p ∧ cntN (τ 164) p = τ 159 p) ∧ (outM τ p = -4 → cntN (τ 164) p < τ 159 p) := by
  obtain ⟨h1, h2, h3, h4, h5, h6⟩ := id h
  have r3 := h3 p hp.1 hp.2
  have r6 := h6 p hp.1 hp.2
  have r4 := cntN_rng (τ 164) p
  have r5 := h4 (6 * g + p) (by omega) (by omega)
  obtain ⟨l1, l2⟩ := lastOf_eq hF h (p := p) (by omega)
  unfold gX11_takes
  rw [heldBy_eq hF h (by omega), Option.bind_some, w32_id (a := p) (by omega), gd_pos (by omega), w32_id (a := cntN (τ 164) p) (by omega), w32_id (a := τ 159 p) (by omega)]
  by_cases q : cntN (τ 164) p = τ 159 p
  · have wn := wkM_some h hp.1 (by omega)
    have eo : outM τ p = wkM τ p := by unfold outM; rw [if_pos q]
    have wg : wkM τ p ≠ g := fun z => by
      rcases l2 with l2 | l2
      · exact wn l2
      · rw [z] at l2; omega
    rw [if_neg (fun z => z q), l1, Option.bind_some, w32_id (a := wkM τ p) (by omega), gd_pos (by omega)]
    have k36 : up τ 164 (wkM τ p) (-4) 143 36 = τ 143 36 := by rw [up_at, if_neg (by omega)]
    rw [k36]
    let τ1 := up (up τ 164 (wkM τ p) (-4)) 143 36 (τ 143 36 + 1)
    have t1 : ∀ a b, τ1 a b = if a = 143 ∧ b = 36 then τ 143 36 + 1 else if a = 164 ∧ b = wkM τ p then -4 else τ a b := fun a b => rfl
    have e162 : ∀ b, τ1 162 b = τ 162 b := fun b => by rw [t1, if_neg (by omega), if_neg (by omega)]
    have e161 : ∀ b, τ1 161 b = τ 161 b := fun b => by rw [t1, if_neg (by omega), if_neg (by omega)]
    have e163 : ∀ b, τ1 163 b = τ 163 b := fun b => by rw [t1, if_neg (by omega), if_neg (by omega)]
    have ep : payM τ1 g p = payM τ g p := by unfold payM; rw [e162, e161, e163]
    have tk := takes_36 (F := F) (τ := τ1) hg (p := p) (by omega) (by rw [e162]; exact r5) (by rw [e163, e161]; omega)
    rw [ep, e163] at tk
    refine ⟨up (up τ1 163 p (τ 163 p + payM τ g p)) 164 g p, tk, fun a b => ?_, ?_, fun z => absurd (eo ▸ z) wn⟩
    · rw [eo, if_neg wn, if_neg wn, up_at, up_at, t1]
      by_cases k1 : a = 164 ∧ b = g
      · rw [if_pos k1, if_pos k1]
      · rw [if_neg k1, if_neg k1]
        by_cases k2 : a = 163 ∧ b = p
        · rw [if_pos k2, if_neg (by omega), if_pos k2]
        · rw [if_neg k2, if_neg k2]
          by_cases k3 : a = 143 ∧ b = 36
          · rw [if_pos k3, if_neg (by omega), if_pos k3]
          · rw [if_neg k3, if_neg k3]
    · right
      rw [eo]
      rcases l2 with l2 | l2
      · exact absurd l2 wn
      · exact ⟨l2.1, by omega, wg, l2.2.2, q⟩
  · have eo : outM τ p = -4 := by unfold outM; rw [if_neg q]
    rw [if_pos q, takes_36 hg (by omega) r5 (by omega)]
    refine ⟨_, rfl, fun a b => ?_, Or.inl eo, fun _ => by omega⟩
    rw [eo, if_pos rfl, if_pos rfl, up_at, up_at]
    by_cases k1 : a = 164 ∧ b = g
    · rw [if_pos k1, if_pos k1]
    · rw [if_neg k1, if_neg k1]
      by_cases k2 : a = 163 ∧ b = p
      · rw [if_pos k2, if_neg (by omega), if_pos k2]
      · rw [if_neg k2, if_neg k2]
        by_cases k3 : a = 164 ∧ b = -4
        · rw [if_pos k3, k3.1]
        · rw [if_neg k3]
          by_cases k4 : a = 143 ∧ b = 36
          · rw [if_pos k4, k4.1, k4.2]; omega
          · rw [if_neg k4]
