-- PURE LAYER: rule (3): a key, both sides
theorem PR.other {b : Int → Int} {L : Int} {σ τ σ' τ' : St} (h : PR b L σ τ) (c7 : σ' 57 = σ 57) (c8 : σ' 58 = σ 58) (m3 : τ' 143 = τ 143) (m9 : τ' 149 = τ 149) (m57 : τ' 157 = τ 157) (m58 : τ' 158 = τ 158) : PR b L σ' τ' := by
  unfold PR TC TM PF PA PT at h ⊢
  rw [c7, c8, m3, m9, m57, m58]
  exact h
theorem add_key {b : Int → Int} {L R : Int} {σ τ : St} (h : QR b L R σ τ) (z : σ 57 1 = 0) (hk : σ 57 5 < 6) (hn : ¬ ∃ i, 0 ≤ i ∧ i < σ (63 + 12 * R) 8 ∧ σ (63 + 12 * R + 1) i = σ 57 5) {s : Int} (hs : s = 0 ∨ s = 1) :
    ∃ σ' τ', gX5_addKey σ (63 + 12 * R) (σ 57 5) s = some σ' ∧ (∀ F, gX11_key_L105 F s τ = gX11_next F τ') ∧ QR b L R σ' τ' ∧ frCK R σ σ' ∧ frMK R τ τ' ∧ σ' (63 + 12 * R) 8 = σ (63 + 12 * R) 8 + 1 := by
  have hR := h.2.1
  have h8 := h.2.2.1.1
  have kt := h.2.2.2 z
  have tk := h.tk
  have f10 : τ 143 10 = 0 := by rw [← h.1.2.2.1.1]; exact z
  have e15 := (h.isKey z).2 hk
  have le5 : σ (63 + 12 * R) 8 ≤ 5 := by
    have pg := pigeon 6 (σ (63 + 12 * R) 8 + 1).toNat (fun i => if i = σ (63 + 12 * R) 8 then σ 57 5 else σ (63 + 12 * R + 1) i) (fun i i1 i2 => ?_) (fun i j i1 i2 i3 => ?_)
    · omega
    · show 0 ≤ (if i = σ (63 + 12 * R) 8 then σ 57 5 else σ (63 + 12 * R + 1) i) ∧ (if i = σ (63 + 12 * R) 8 then σ 57 5 else σ (63 + 12 * R + 1) i) < ((6 : Nat) : Int)
      by_cases w : i = σ (63 + 12 * R) 8
      · rw [if_pos w]; omega
      · have v := (kt.2.1 i i1 (by omega)).1
        rw [if_neg w]; omega
    · show (if i = σ (63 + 12 * R) 8 then σ 57 5 else σ (63 + 12 * R + 1) i) ≠ (if j = σ (63 + 12 * R) 8 then σ 57 5 else σ (63 + 12 * R + 1) j)
      rw [if_neg (by omega)]
      by_cases w : j = σ (63 + 12 * R) 8
      · rw [if_pos w]
        exact fun e => hn ⟨i, i1, by omega, e⟩
      · rw [if_neg w]
        exact kt.2.2.1 i j i1 i2 (by omega)
  have bs : b1 s = s := by rcases hs with rfl | rfl <;> decide
  unfold KT at kt
  generalize hc : σ (63 + 12 * R) 8 = c at *
  have qC : ∀ a j, up (up (up σ (63 + 12 * R + 1) c (σ 57 5)) (63 + 12 * R + 2) c s) (63 + 12 * R) 8 (c + 1) a j = if a = 63 + 12 * R ∧ j = 8 then c + 1 else if a = 63 + 12 * R + 2 ∧ j = c then s else if a = 63 + 12 * R + 1 ∧ j = c then σ 57 5 else σ a j := fun a j => by simp only [up_at]
  have qM : ∀ a j, up (up τ 151 (6 * R + c) (σ 57 5 + 10 * s)) 150 R (c + 1) a j = if a = 150 ∧ j = R then c + 1 else if a = 151 ∧ j = 6 * R + c then σ 57 5 + 10 * s else τ a j := fun a j => by simp only [up_at]
  refine ⟨up (up (up σ (63 + 12 * R + 1) c (σ 57 5)) (63 + 12 * R + 2) c s) (63 + 12 * R) 8 (c + 1), up (up τ 151 (6 * R + c) (σ 57 5 + 10 * s)) 150 R (c + 1), ?_, fun F => ?_, ⟨?_, ?_, ?_, fun _ => ?_⟩, fun a j q1 q2 q3 => ?_, fun a j q1 q2 q3 q4 => ?_, ?_⟩
  · unfold gX5_addKey
    rw [hc, w32_id (a := c) (by omega), if_neg (by omega), gd_pos (by omega)]
    simp (disch := omega) only [up_cell, hc, bs]
    rw [w32_id (a := c) (by omega), gd_pos (by omega)]
  · unfold gX11_key_L105
    rw [f10, w32_0, if_neg (by decide), hR.2.2, w32_id (a := R) (by omega), gd_pos (by omega), kt.1, e15]
    have key : ∀ u : Int, u = 10 * s → gX11_key_L147 F (6 * R + c) (σ 57 5) u τ = gX11_next F (up (up τ 151 (6 * R + c) (σ 57 5 + 10 * s)) 150 R (c + 1)) := fun u hu => by
      subst hu
      unfold gX11_key_L147
      rw [w32_id (a := 6 * R + c) (by omega), gd_pos (by omega)]
      simp (disch := omega) only [up_cell]
      rw [hR.2.2, w32_id (a := R) (by omega), gd_pos (by omega), gd_pos (by omega), kt.1, bindS]
    rcases hs with rfl | rfl
    · rw [w32_0, if_pos rfl]; exact key 0 (by omega)
    · rw [w32_1, if_neg (by decide)]; exact key 10 (by omega)
  · refine h.1.other ?_ ?_ ?_ ?_ ?_ ?_ <;> simp (disch := omega) only [up_cell]
  · rw [qM, if_neg (by omega), if_neg (by omega)]; exact hR
  · rw [qC, qC, if_pos (by omega), if_neg (by omega), if_neg (by omega), if_neg (by omega)]
    exact ⟨by omega, h.2.2.1.2⟩
  · obtain ⟨k1, k2, k3, k4, k5, k6⟩ := kt
    have n8 : up (up (up σ (63 + 12 * R + 1) c (σ 57 5)) (63 + 12 * R + 2) c s) (63 + 12 * R) 8 (c + 1) (63 + 12 * R) 8 = c + 1 := up_self _ _ _ _
    have nC : ∀ a j, ¬ (a = 63 + 12 * R ∧ j = 8) → a ≠ 63 + 12 * R + 1 → a ≠ 63 + 12 * R + 2 → up (up (up σ (63 + 12 * R + 1) c (σ 57 5)) (63 + 12 * R + 2) c s) (63 + 12 * R) 8 (c + 1) a j = σ a j := fun a j w1 w2 w3 => by rw [qC, if_neg w1, if_neg (by omega), if_neg (by omega)]
    have nM : ∀ a j, a ≠ 150 → a ≠ 151 → up (up τ 151 (6 * R + c) (σ 57 5 + 10 * s)) 150 R (c + 1) a j = τ a j := fun a j w1 w2 => by rw [qM, if_neg (by omega), if_neg (by omega)]
    have n1 : ∀ j, up (up (up σ (63 + 12 * R + 1) c (σ 57 5)) (63 + 12 * R + 2) c s) (63 + 12 * R) 8 (c + 1) (63 + 12 * R + 1) j = if j = c then σ 57 5 else σ (63 + 12 * R + 1) j := fun j => by
      rw [qC, if_neg (by omega), if_neg (by omega)]
      by_cases w : j = c
      · rw [if_pos ⟨rfl, w⟩, if_pos w]
      · rw [if_neg (fun v => w v.2), if_neg w]
    have n2 : ∀ j, up (up (up σ (63 + 12 * R + 1) c (σ 57 5)) (63 + 12 * R + 2) c s) (63 + 12 * R) 8 (c + 1) (63 + 12 * R + 2) j = if j = c then s else σ (63 + 12 * R + 2) j := fun j => by
      rw [qC, if_neg (by omega)]
      by_cases w : j = c
      · rw [if_pos ⟨rfl, w⟩, if_pos w]
      · rw [if_neg (fun v => w v.2), if_neg w, if_neg (by omega)]
    have m1 : ∀ j, up (up τ 151 (6 * R + c) (σ 57 5 + 10 * s)) 150 R (c + 1) 151 j = if j = 6 * R + c then σ 57 5 + 10 * s else τ 151 j := fun j => by
      rw [qM, if_neg (by omega)]
      by_cases w : j = 6 * R + c
      · rw [if_pos ⟨rfl, w⟩, if_pos w]
      · rw [if_neg (fun v => w v.2), if_neg w]
    refine ⟨?_, fun i i1 i2 => ?_, fun i j i1 i2 i3 => ?_, ?_, fun i i1 i2 => ?_, ?_⟩
    · rw [n8, qM, if_pos ⟨rfl, rfl⟩]
    · rw [n8] at i2
      rw [n1, n2, m1]
      by_cases w : i = c
      · rw [if_pos w, if_pos w, if_pos (show 6 * R + i = 6 * R + c by omega)]
        exact ⟨by omega, hs, rfl⟩
      · rw [if_neg w, if_neg w, if_neg (show ¬ 6 * R + i = 6 * R + c by omega)]
        exact k2 i i1 (by omega)
    · rw [n8] at i3
      rw [n1, n1, if_neg (show ¬ i = c by omega)]
      by_cases w : j = c
      · rw [if_pos w]
        exact fun e => hn ⟨i, i1, by omega, e⟩
      · rw [if_neg w]
        exact k3 i j i1 i2 (by omega)
    · rw [nC _ 9 (by omega) (by omega) (by omega), nM 152 R (by omega) (by omega)]; exact k4
    · rw [nC _ 9 (by omega) (by omega) (by omega)] at i2
      rw [nC _ i (by omega) (by omega) (by omega), nC _ i (by omega) (by omega) (by omega), nC _ i (by omega) (by omega) (by omega), nM 153 _ (by omega) (by omega), nM 154 _ (by omega) (by omega), nM 155 _ (by omega) (by omega)]
      exact k5 i i1 i2
    · rw [nC _ 10 (by omega) (by omega) (by omega), nM 156 R (by omega) (by omega)]; exact k6
  · rw [qC, if_neg (by omega), if_neg (by omega), if_neg (by omega)]
  · rw [qM, if_neg (by omega), if_neg (by omega)]
  · exact up_self _ _ _ _
