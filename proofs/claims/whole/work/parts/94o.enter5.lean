-- PURE LAYER: an entering, the pairs and counts
def prD (σ : St) (k p : Int) : Int → Int := if outC σ k p = -4 then σ (k + 3) else upf (σ (k + 3)) (outC σ k p) (-4)
theorem enterS_pair {σ : St} {k g p : Int} (hp : p ≠ -4) : enterS σ k g p (k + 3) = upf (prD σ k p) g p := by
  funext b
  rw [enterS_at hp, if_neg (by omega), if_neg (by omega), if_neg (by omega), if_neg (by omega), if_neg (by omega), if_neg (by omega), if_neg (by omega), if_neg (by omega), if_neg (by omega), if_neg (by omega)]
  unfold upf
  by_cases q : b = g
  · rw [if_pos ⟨rfl, q⟩, if_pos q]
  · rw [if_neg (fun z => q z.2), if_neg q]
    unfold dropS prD
    by_cases z : outC σ k p = -4
    · rw [if_pos z, if_pos z]
    · rw [if_neg z, if_neg z, up_at, if_neg (by omega), up_at, if_neg (by omega), up_at]
      unfold upf
      by_cases y : b = outC σ k p
      · rw [if_pos ⟨rfl, y⟩, if_pos y]
      · rw [if_neg (fun w => y w.2), if_neg y]
theorem enterS_cnt {σ : St} {k g p : Int} (hp : 0 ≤ p) (hg : 0 ≤ g ∧ g < 9) (hn : σ (k + 3) g = -4) (ho : outC σ k p = -4 ∨ 0 ≤ outC σ k p ∧ outC σ k p < 9 ∧ σ (k + 3) (outC σ k p) = p) (q : Int) (hq : 0 ≤ q) : cntN (enterS σ k g p (k + 3)) q = cntN (σ (k + 3)) q + (if q = p ∧ outC σ k p = -4 then 1 else 0) := by
  rw [enterS_pair (by omega), cntN_upf _ _ _ hg]
  unfold prD
  rcases ho with ho | ho
  · rw [if_pos ho, hn, if_neg (show ¬ (-4 : Int) = q by omega)]
    by_cases z : p = q
    · rw [if_pos z, if_pos ⟨z.symm, ho⟩]; omega
    · rw [if_neg z, if_neg (fun y => z y.1.symm)]; omega
  · have hne : g ≠ outC σ k p := fun z => by rw [← z] at ho; omega
    rw [if_neg (by omega), upf_ne hne, hn, if_neg (show ¬ (-4 : Int) = q by omega), cntN_upf _ _ _ ⟨ho.1, ho.2.1⟩, ho.2.2, if_neg (show ¬ (-4 : Int) = q by omega), if_neg (show ¬ (q = p ∧ outC σ k p = -4) by omega)]
    by_cases z : p = q
    · rw [if_pos z]; omega
    · rw [if_neg z]; omega
