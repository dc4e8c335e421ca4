-- PURE LAYER: the class's guest comes
def chC (σ : St) (k g x : Int) : Int := pCh (canC σ k g x) (passC σ k g x) (ahdC σ k g x) (σ (bd k) 5).toNat (-4) 0
theorem chC_in {σ : St} {k g x : Int} (hB : BdOK σ (bd k)) : chC σ k g x = -4 ∨ 0 ≤ chC σ k g x ∧ chC σ k g x < σ (bd k) 5 ∧ canC σ k g x (chC σ k g x) ≠ 0 := by
  have hP := hB.1
  have := pCh_in (canC σ k g x) (passC σ k g x) (ahdC σ k g x) (σ (bd k) 5).toNat (-4) 0 (Or.inl rfl) (by omega)
  rcases this with h | h
  · exact Or.inl h
  · refine Or.inr ⟨h.1, ?_, h.2.2⟩
    have := h.2.1
    show pCh _ _ _ _ _ _ < _
    omega
theorem comeBy_eq {F : Nat} (hF : 100 ≤ F) {σ : St} {k g x : Int} (hk : k = 7 ∨ k = 17 ∨ k = 33) (hB : BdOK σ (bd k)) (hS : StOK σ k) (hR : RuC σ x) (ha : 0 ≤ σ k 12 ∧ σ k 12 < 18) (hg : 0 ≤ g ∧ g < 9) : gX7_comeBy F σ k g x = some (chC σ k g x, enterS σ k g (chC σ k g x)) := by
  have hP := hB.1
  have c : gX7_choose F σ k g x = some (chC σ k g x) := choose_6 hF hB hS hR hg (σ (bd k) 5).toNat F (-4) 0 (Or.inl rfl) (by omega) (by omega) (by omega)
  have hi := chC_in (g := g) (x := x) hB
  unfold gX7_comeBy
  rw [c, Option.bind_some, enter_eq hF hk hB hS ha hg (by omega), Option.bind_some]
