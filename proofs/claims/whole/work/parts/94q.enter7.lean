-- PURE LAYER: an entering, what stands where afterwards
theorem enterS_12 {σ : St} {k g p : Int} : enterS σ k g p k 12 = σ k 12 + 1 := by
  by_cases z : p = -4
  · rw [z, enterS_no, if_pos ⟨rfl, rfl⟩]
  · rw [enterS_at z, if_pos ⟨rfl, rfl⟩]
theorem enterS_10 {σ : St} {k g p : Int} : enterS σ k g p k 10 = σ k 10 + 1 := by
  by_cases z : p = -4
  · rw [z, enterS_no]
    repeat rw [if_neg (by omega)]
    rw [if_pos ⟨rfl, rfl⟩]
  · rw [enterS_at z]
    repeat rw [if_neg (by omega)]
    rw [if_pos ⟨rfl, rfl⟩]
theorem enterS_seq {σ : St} {k g p : Int} : enterS σ k g p (k + 4) = upf (σ (k + 4)) g (σ k 10 + 1) := by
  funext b
  unfold upf
  by_cases z : p = -4
  · rw [z, enterS_no, if_neg (by omega), if_neg (by omega), if_neg (by omega), if_neg (by omega), if_neg (by omega), if_neg (by omega)]
    by_cases y : b = g
    · rw [if_pos ⟨rfl, y⟩, if_pos y]
    · rw [if_neg (fun w => y w.2), if_neg (by omega), if_neg y]
  · rw [enterS_at z, if_neg (by omega), if_neg (by omega), if_neg (by omega), if_neg (by omega), if_neg (by omega), if_neg (by omega)]
    by_cases y : b = g
    · rw [if_pos ⟨rfl, y⟩, if_pos y]
    · rw [if_neg (fun w => y w.2), if_neg (by omega), if_neg (by omega), if_neg (by omega), if_neg (by omega), if_neg y, dropS_o (by omega) (by omega) (by omega)]
theorem enterS_11 {σ : St} {k g p : Int} : enterS σ k g p k 11 = σ k 11 + (if p = -4 then 0 else if outC σ k p = -4 then 0 else 1) := by
  by_cases z : p = -4
  · rw [if_pos z, z, enterS_no]
    repeat rw [if_neg (by omega)]
    omega
  · rw [if_neg z, enterS_at z, if_neg (by omega), if_neg (by omega), if_neg (by omega), if_neg (by omega), if_neg (by omega), if_neg (by omega), if_neg (by omega), if_neg (by omega), if_neg (by omega), if_neg (by omega), if_neg (by omega)]
    unfold dropS
    by_cases y : outC σ k p = -4
    · rw [if_pos y, if_pos y]; omega
    · rw [if_neg y, if_neg y, up_at, if_pos ⟨rfl, rfl⟩]
theorem enterS_paid {σ : St} {k g p q : Int} (hq : 0 ≤ q) : enterS σ k g p (k + 2) q = σ (k + 2) q + (if q = p then payC σ k g p else 0) := by
  by_cases z : p = -4
  · rw [z, enterS_no, if_neg (by omega), if_neg (by omega), if_neg (by omega), if_neg (by omega), if_neg (by omega), if_neg (by omega), if_neg (by omega), if_neg (by omega), if_neg (by omega)]
    omega
  · rw [enterS_at z, if_neg (by omega), if_neg (by omega), if_neg (by omega), if_neg (by omega), if_neg (by omega), if_neg (by omega), if_neg (by omega), if_neg (by omega)]
    by_cases y : q = p
    · rw [if_pos ⟨rfl, y⟩, if_pos y, y]
    · rw [if_neg (fun w => y w.2), if_neg (by omega), if_neg (by omega), if_neg y, dropS_o (by omega) (by omega) (by omega)]
      omega
theorem enterS_no3 {σ : St} {k g : Int} : enterS σ k g (-4) (k + 3) = σ (k + 3) := by
  funext b
  rw [enterS_no]
  repeat rw [if_neg (by omega)]
theorem enterS_pr {σ : St} {k g p x : Int} (hp : p ≠ -4) : enterS σ k g p (k + 3) x = if x = g then p else if x = outC σ k p ∧ outC σ k p ≠ -4 then -4 else σ (k + 3) x := by
  rw [enterS_pair hp]
  unfold upf prD
  by_cases y : x = g
  · rw [if_pos y, if_pos y]
  · rw [if_neg y, if_neg y]
    by_cases w : outC σ k p = -4
    · rw [if_pos w, if_neg (fun v => v.2 w)]
    · rw [if_neg w]
      unfold upf
      by_cases v : x = outC σ k p
      · rw [if_pos v, if_pos ⟨v, w⟩]
      · rw [if_neg v, if_neg (fun u => v u.1)]
