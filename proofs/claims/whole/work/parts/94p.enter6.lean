-- PURE LAYER: an entering keeps a run in order
theorem enterS_st {σ : St} {k g p : Int} (hk : k = 7 ∨ k = 17 ∨ k = 33) (hB : BdOK σ (bd k)) (hS : StOK σ k) (hg : 0 ≤ g ∧ g < σ (bd k) 6) (hn : σ (k + 3) g = -4) (hc : 0 ≤ σ k 10 ∧ σ k 10 < 9) (hp : p = -4 ∨ 0 ≤ p ∧ p < σ (bd k) 5) (ho : p ≠ -4 → outC σ k p = -4 ∨ 0 ≤ outC σ k p ∧ outC σ k p < 9 ∧ σ (k + 3) (outC σ k p) = p) (hf : p ≠ -4 → outC σ k p = -4 → cntN (σ (k + 3)) p < σ (bd k + 1) p) : StOK (enterS σ k g p) k := by
  have h : ∀ i, 0 ≤ i → i ≤ 5 → ¬ (k ≤ bd k + i ∧ bd k + i ≤ k + 9) := by
    have hb : bd 7 = 1 ∧ bd 17 = 1 ∧ bd 33 = 27 := by decide
    intro i h1 h2
    rcases hk with hk | hk | hk <;> rw [hk] <;> omega
  have h0 := h 0 (by omega) (by omega)
  rw [Int.add_zero] at h0
  have hP := hB.1
  have hG := hB.2.1
  have e4 : ∀ x, 0 ≤ x → x < 9 → 0 ≤ enterS σ k g p (k + 4) x ∧ enterS σ k g p (k + 4) x ≤ 9 := by
    intro x q1 q2
    have s := (hS.1 x q1 q2).2.1
    by_cases z : p = -4
    · rw [z, enterS_no, if_neg (by omega), if_neg (by omega), if_neg (by omega), if_neg (by omega), if_neg (by omega), if_neg (by omega)]
      by_cases y : x = g
      · rw [if_pos (by omega)]; omega
      · rw [if_neg (by omega), if_neg (by omega)]; exact s
    · rw [enterS_at z, if_neg (by omega), if_neg (by omega), if_neg (by omega), if_neg (by omega), if_neg (by omega), if_neg (by omega)]
      by_cases y : x = g
      · rw [if_pos (by omega)]; omega
      · rw [if_neg (by omega), if_neg (by omega), if_neg (by omega), if_neg (by omega), if_neg (by omega), dropS_o (by omega) (by omega) (by omega)]; exact s
  unfold StOK
  rw [enterS_o h0, enterS_o (h 1 (by omega) (by omega)), enterS_o (h 3 (by omega) (by omega))]
  by_cases z : p = -4
  · have e3 : enterS σ k g p (k + 3) = σ (k + 3) := by
      funext b
      rw [z, enterS_no, if_neg (by omega), if_neg (by omega), if_neg (by omega), if_neg (by omega), if_neg (by omega), if_neg (by omega), if_neg (by omega), if_neg (by omega)]
    have e1 : enterS σ k g p (k + 1) = σ (k + 1) := by
      funext b
      rw [z, enterS_no, if_neg (by omega), if_neg (by omega), if_neg (by omega), if_neg (by omega), if_neg (by omega), if_neg (by omega), if_neg (by omega), if_neg (by omega)]
    have e2 : enterS σ k g p (k + 2) = σ (k + 2) := by
      funext b
      rw [z, enterS_no, if_neg (by omega), if_neg (by omega), if_neg (by omega), if_neg (by omega), if_neg (by omega), if_neg (by omega), if_neg (by omega), if_neg (by omega)]
    rw [e1, e2, e3]
    exact ⟨fun x q1 q2 => ⟨(hS.1 x q1 q2).1, e4 x q1 q2, (hS.1 x q1 q2).2.2⟩, hS.2⟩
  · refine ⟨fun x q1 q2 => ⟨?_, e4 x q1 q2, fun q3 => ?_⟩, fun q q1 q2 => ?_⟩
    · rw [enterS_pair z]
      have s := (hS.1 x q1 q2).1
      unfold upf prD
      split
      · omega
      · split
        · exact s
        · unfold upf
          split
          · exact Or.inl rfl
          · exact s
    · rw [enterS_pair z]
      have s := (hS.1 x q1 q2).2.2 q3
      unfold upf prD
      rw [if_neg (by omega)]
      split
      · exact s
      · unfold upf
        split
        · rfl
        · exact s
    · have hp' : 0 ≤ p ∧ p < σ (bd k) 5 := by omega
      have b3 := hB.2.2.1 p hp'.1 hp'.2
      have sp := hS.2 p hp'.1 (by omega)
      have sq := hS.2 q q1 q2
      have r5 := hB.2.2.2 (6 * g + p) (by omega) (by omega)
      have ct := enterS_cnt hp'.1 (by omega) hn (ho z) q q1
      have pr : 0 ≤ payC σ k g p ∧ payC σ k g p ≤ σ (bd k + 3) p - σ (k + 2) p := by
        have := sp.2 hp'.2
        unfold payC
        split <;> omega
      have f := hf z
      rw [ct, enterS_at z (k + 1) q, enterS_at z (k + 2) q]
      rw [if_neg (by omega), if_neg (by omega), if_neg (by omega), if_neg (by omega), if_neg (by omega), if_neg (by omega), if_neg (by omega), if_neg (by omega), if_neg (by omega), if_neg (show ¬ (k + 2 = k ∧ q = 12) by omega), if_neg (show ¬ (k + 2 = k + 9 ∧ q = σ k 12) by omega), if_neg (show ¬ (k + 2 = k + 8 ∧ q = σ k 12) by omega), if_neg (show ¬ (k + 2 = k + 7 ∧ q = σ k 12) by omega), if_neg (show ¬ (k + 2 = k + 6 ∧ q = σ k 12) by omega), if_neg (show ¬ (k + 2 = k + 5 ∧ q = σ k 12) by omega), if_neg (show ¬ (k + 2 = k + 4 ∧ q = g) by omega), if_neg (show ¬ (k + 2 = k ∧ q = 10) by omega)]
      by_cases y : q = p
      · have dd : dropS σ k (outC σ k p) p (k + 1) p = σ (k + 1) p - (if outC σ k p = -4 then 0 else 1) := by
          unfold dropS
          by_cases w : outC σ k p = -4
          · rw [if_pos w, if_pos w]; omega
          · rw [if_neg w, if_neg w, up_at, if_neg (by omega), up_at, if_pos ⟨rfl, rfl⟩]
        rw [if_pos (show k + 1 = k + 1 ∧ q = p from ⟨rfl, y⟩), if_pos (show k + 2 = k + 2 ∧ q = p from ⟨rfl, y⟩), dd, y]
        by_cases w : outC σ k p = -4
        · rw [if_pos w, if_pos ⟨rfl, w⟩]
          have := f w
          omega
        · rw [if_neg w, if_neg (fun v => w v.2)]
          omega
      · rw [if_neg (show ¬ (k + 1 = k + 1 ∧ q = p) from fun v => y v.2), if_neg (show ¬ (k + 1 = k + 3 ∧ q = g) by omega), dropS_o (a := k + 1) (by omega) (by omega) (by omega), if_neg (show ¬ (q = p ∧ outC σ k p = -4) from fun v => y v.1), if_neg (show ¬ (k + 2 = k + 2 ∧ q = p) from fun v => y v.2), if_neg (show ¬ (k + 2 = k + 1 ∧ q = p) by omega), if_neg (show ¬ (k + 2 = k + 3 ∧ q = g) by omega), dropS_o (a := k + 2) (by omega) (by omega) (by omega), Int.add_zero]
        exact sq
