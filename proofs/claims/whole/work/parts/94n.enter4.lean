-- PURE LAYER: what an entering leaves alone
theorem enterS_o {σ : St} {k g p c : Int} (hc : ¬ (k ≤ c ∧ c ≤ k + 9)) : enterS σ k g p c = σ c := by
  funext b
  by_cases hp : p = -4
  · rw [hp, enterS_no, if_neg (by omega), if_neg (by omega), if_neg (by omega), if_neg (by omega), if_neg (by omega), if_neg (by omega), if_neg (by omega), if_neg (by omega)]
  · rw [enterS_at hp, if_neg (by omega), if_neg (by omega), if_neg (by omega), if_neg (by omega), if_neg (by omega), if_neg (by omega), if_neg (by omega), if_neg (by omega), if_neg (by omega), if_neg (by omega), if_neg (by omega)]
    exact dropS_o (by omega) (by omega) (by omega)
theorem enterS_bd {σ : St} {k g p : Int} (hk : k = 7 ∨ k = 17 ∨ k = 33) (hB : BdOK σ (bd k)) : BdOK (enterS σ k g p) (bd k) := by
  have h : ∀ i, 0 ≤ i → i ≤ 5 → ¬ (k ≤ bd k + i ∧ bd k + i ≤ k + 9) := by
    have hb : bd 7 = 1 ∧ bd 17 = 1 ∧ bd 33 = 27 := by decide
    intro i h1 h2
    rcases hk with hk | hk | hk <;> rw [hk] <;> omega
  have h0 := h 0 (by omega) (by omega)
  rw [Int.add_zero] at h0
  unfold BdOK
  rw [enterS_o h0, enterS_o (h 1 (by omega) (by omega)), enterS_o (h 2 (by omega) (by omega)), enterS_o (h 3 (by omega) (by omega)), enterS_o (h 5 (by omega) (by omega))]
  exact hB
