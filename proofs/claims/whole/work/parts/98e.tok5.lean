-- PURE LAYER: the tape's tokens (5): class's advance and the reference's next
/-- class's token t (number v) is the reference's token of kind k, value w -/
def tok (t v k w : Int) : Prop := (0 ≤ t ∧ t ≤ 9 ∧ k = 1 ∧ w = t) ∨ (t = 10 ∧ k = 3 ∧ w = 43) ∨ (t = 11 ∧ k = 3 ∧ w = 45) ∨ (t = 12 ∧ k = 3 ∧ w = 44) ∨ (t = 13 ∧ k = 3 ∧ w = 60) ∨ (t = 14 ∧ k = 3 ∧ w = 62) ∨ (t = 15 ∧ k = 3 ∧ w = 59) ∨ (t = 16 ∧ k = 2 ∧ w = v ∧ 0 ≤ v ∧ v ≤ 999) ∨ (t = 17 ∧ k = 0 ∧ w = 0)
/-- the faults of both stand alike -/
def PF (σ τ : St) : Prop := σ 57 1 = τ 143 10 ∧ (0 ≤ σ 57 1 ∧ σ 57 1 ≤ 5) ∧ (σ 57 1 ≠ 0 → σ 57 2 = τ 143 11 ∧ (0 ≤ σ 57 2 ∧ σ 57 2 ≤ 160) ∧ σ 57 5 = 18)
def PA (L : Int) (σ τ : St) : Prop := 0 ≤ σ 57 4 ∧ σ 57 4 ≤ L ∧ τ 143 12 = σ 57 4
def PT (σ τ : St) : Prop := (0 ≤ σ 57 6 ∧ σ 57 6 ≤ 160 ∧ τ 143 13 = σ 57 6) ∧ tok (σ 57 5) (σ 57 7) (τ 143 14) (τ 143 15)
def PR (b : Int → Int) (L : Int) (σ τ : St) : Prop := TC b L σ ∧ TM b L τ ∧ PF σ τ ∧ (σ 57 1 = 0 → PA L σ τ ∧ PT σ τ)
/-- only the tape's fields from 1 on / the reference's reading fields changed -/
def frC (σ σ' : St) : Prop := ∀ c j, ¬ (c = 57 ∧ 1 ≤ j ∧ j ≤ 7) → σ' c j = σ c j
def frM (τ τ' : St) : Prop := ∀ c j, ¬ (c = 143 ∧ 10 ≤ j ∧ j ≤ 15) → τ' c j = τ c j
theorem frC.refl (σ : St) : frC σ σ := fun _ _ _ => rfl
theorem frM.refl (σ : St) : frM σ σ := fun _ _ _ => rfl
theorem frC.trans {a b c : St} (h : frC a b) (g : frC b c) : frC a c := fun x y q => (g x y q).trans (h x y q)
theorem frM.trans {a b c : St} (h : frM a b) (g : frM b c) : frM a c := fun x y q => (g x y q).trans (h x y q)
theorem frC.up (σ : St) {j v : Int} (h : 1 ≤ j ∧ j ≤ 7) : frC σ (up σ 57 j v) := fun x y q => by rw [up_at, if_neg (by omega)]
theorem frM.up (σ : St) {j v : Int} (h : 10 ≤ j ∧ j ≤ 15) : frM σ (up σ 143 j v) := fun x y q => by rw [up_at, if_neg (by omega)]
theorem TC.fr {b : Int → Int} {L : Int} {σ σ' : St} (h : TC b L σ) (f : frC σ σ') : TC b L σ' := ⟨h.1, h.2.1, by rw [f 57 0 (by omega)]; exact h.2.2.1, by rw [show σ' 58 = σ 58 by funext j; exact f 58 j (by omega)]; exact h.2.2.2⟩
theorem TM.fr {b : Int → Int} {L : Int} {σ σ' : St} (h : TM b L σ) (f : frM σ σ') : TM b L σ' := ⟨h.1, h.2.1, by rw [f 143 8 (by omega)]; exact h.2.2.1, by rw [show σ' 149 = σ 149 by funext j; exact f 149 j (by omega)]; exact h.2.2.2.1, by rw [show σ' 157 = σ 157 by funext j; exact f 157 j (by omega)]; exact h.2.2.2.2.1, by rw [show σ' 158 = σ 158 by funext j; exact f 158 j (by omega)]; exact h.2.2.2.2.2⟩
/-- both fail at the same place -/
theorem fails_both {b : Int → Int} {L : Int} {σ τ : St} (hC : TC b L σ) (hM : TM b L τ) (hF : PF σ τ) {x : Int} (hx : 1 ≤ x ∧ x ≤ 5) (hp : σ 57 1 = 0 → (0 ≤ σ 57 6 ∧ σ 57 6 ≤ 160 ∧ τ 143 13 = σ 57 6)) :
    ∃ σ' τ', gX8_fail σ x = some σ' ∧ gX11_fails τ x = some τ' ∧ PR b L σ' τ' ∧ σ' 57 1 ≠ 0 ∧ frC σ σ' ∧ frM τ τ' := by
  obtain ⟨f1, f2, f3⟩ := hF
  by_cases q : σ 57 1 = 0
  · have hp := hp q
    refine ⟨up (up (up σ 57 1 x) 57 2 (σ 57 6)) 57 5 18, up (up τ 143 10 x) 143 11 (τ 143 13), ?_, ?_, ⟨((hC.up (by omega) (by omega)).up (by omega) (by omega)).up (by omega) (by omega), (hM.up (by omega) (by omega)).up (by omega) (by omega), ?_, fun h => ?_⟩, ?_, ?_, ?_⟩
    · unfold gX8_fail gX8_fail_L20
      rw [q, w32_0, if_neg (by decide), up_slot (by omega)]
    · unfold gX11_fails
      rw [← f1, q, w32_0, if_neg (by decide), up_slot (by omega)]
    · unfold PF
      simp (disch := omega) only [up_self, up_slot]
      exact ⟨trivial, by omega, fun _ => ⟨hp.2.2.symm, ⟨hp.1, hp.2.1⟩, trivial⟩⟩
    · simp (disch := omega) only [up_self, up_slot] at h
      omega
    · simp (disch := omega) only [up_self, up_slot]
      omega
    · exact ((frC.up _ (by omega)).trans (frC.up _ (by omega))).trans (frC.up _ (by omega))
    · exact (frM.up _ (by omega)).trans (frM.up _ (by omega))
  · have f3 := f3 q
    refine ⟨σ, τ, ?_, ?_, ⟨hC, hM, ⟨f1, f2, fun _ => f3⟩, fun h => absurd h q⟩, q, frC.refl σ, frM.refl τ⟩
    · unfold gX8_fail gX8_fail_L20
      rw [w32_id (by omega), if_pos q, up_same f3.2.2]
    · unfold gX11_fails
      rw [← f1, w32_id (by omega), if_pos q]
