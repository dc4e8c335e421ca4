-- PURE LAYER: the class's guest enters
def outC (σ : St) (k p : Int) : Int := if 0 < σ (bd k + 1) p - cntN (σ (k + 3)) p then -4 else wkC σ k p
/-- the store after guest g has entered at p (or nowhere) -/
def enterS (σ : St) (k g p : Int) : St := if p = -4 then noteS (comeS σ k g) k g p 0 (-4) 0 else noteS (comeS (takeS (dropS σ k (outC σ k p) p) k g p (payC σ k g p)) k g) k g p (payC σ k g p) (outC σ k p) 0
def paysC (σ : St) (k g p : Int) : Int := if p = -4 then 0 else payC σ k g p
theorem dropS_o {σ : St} {k x p a b : Int} (h1 : a ≠ k + 3) (h2 : ¬ (a = k + 1 ∧ b = p)) (h3 : ¬ (a = k ∧ b = 11)) : dropS σ k x p a b = σ a b := by
  unfold dropS
  split
  · rfl
  · rw [up_at, if_neg h3, up_at, if_neg h2, up_at, if_neg (by omega)]
theorem enter_eq {F : Nat} (hF : 100 ≤ F) {σ : St} {k g p : Int} (hk : k = 7 ∨ k = 17 ∨ k = 33) (hB : BdOK σ (bd k)) (hS : StOK σ k) (ha : 0 ≤ σ k 12 ∧ σ k 12 < 18) (hg : 0 ≤ g ∧ g < 9) (hp : p = -4 ∨ 0 ≤ p ∧ p < σ (bd k) 5) : gX7_enter F σ k g p = some (paysC σ k g p, enterS σ k g p) := by
  have hP := hB.1
  unfold gX7_enter paysC enterS
  rw [w32_id (a := p) (by omega)]
  by_cases q : p = -4
  · rw [if_pos q, if_pos q, if_pos q, enter_90 hg ha]
  · have hp' : 0 ≤ p ∧ p < σ (bd k) 5 := by omega
    have b3 := hB.2.2.1 p hp'.1 hp'.2
    have s2 := hS.2 p hp'.1 (by omega)
    have r4 := cntN_rng (σ (k + 3)) p
    have r5 := hB.2.2.2 (6 * g + p) (by omega) (by omega)
    have hG := hB.2.1
    obtain ⟨w1, w2⟩ := weakestC_eq hF hB hS (p := p) (by omega)
    rw [if_neg q, if_neg q, if_neg q, freeAt_eq hB hS hp', Option.bind_some, w32_id (a := σ (bd k + 1) p - cntN (σ (k + 3)) p) (by omega), w1, Option.bind_some, drop_eq (by omega) (by omega) (by omega), Option.bind_some]
    unfold outC
    by_cases z : 0 < σ (bd k + 1) p - cntN (σ (k + 3)) p
    · rw [if_pos (show σ (bd k + 1) p - cntN (σ (k + 3)) p > 0 from z), if_pos z, enter_32 hg (by omega) ha r5 (by omega)]
      rfl
    · have hb : bd k + 3 ≠ k + 3 ∧ bd k + 5 ≠ k + 3 ∧ bd k + 3 ≠ k + 1 ∧ bd k + 5 ≠ k + 1 ∧ bd k + 3 ≠ k ∧ bd k + 5 ≠ k := by
        rcases hk with hk | hk | hk <;> rw [hk] <;> decide
      have d2 : dropS σ k (wkC σ k p) p (k + 2) p = σ (k + 2) p := dropS_o (by omega) (by omega) (by omega)
      have d3 : dropS σ k (wkC σ k p) p (bd k + 3) p = σ (bd k + 3) p := dropS_o (by omega) (by omega) (by omega)
      have d5 : dropS σ k (wkC σ k p) p (bd k + 5) (6 * g + p) = σ (bd k + 5) (6 * g + p) := dropS_o (by omega) (by omega) (by omega)
      have d12 : dropS σ k (wkC σ k p) p k 12 = σ k 12 := dropS_o (by omega) (by omega) (by omega)
      have ep : payC (dropS σ k (wkC σ k p) p) k g p = payC σ k g p := by unfold payC; rw [d2, d3, d5]
      have e := enter_32 (F := F) (σ := dropS σ k (wkC σ k p) p) (k := k) (x := wkC σ k p) hg (p := p) (by omega) (by rw [d12]; exact ha) (by rw [d5]; exact r5) (by rw [d2, d3]; omega)
      rw [ep] at e
      rw [if_neg (show ¬ σ (bd k + 1) p - cntN (σ (k + 3)) p > 0 from z), if_neg z, e]
