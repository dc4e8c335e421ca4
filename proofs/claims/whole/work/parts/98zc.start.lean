-- ASSEMBLY (3): the start
theorem LL_o (d : Int) (c : Int) : ∀ l : List (Int × Int × Int), (l.all fun e => decide (e.1 ≠ c)) = true → LL d l c = fun _ => d := by
  intro l
  induction l with
  | nil => intro _; rfl
  | cons e l ih =>
    intro h
    rw [List.all_cons, Bool.and_eq_true, decide_eq_true_eq] at h
    funext j
    show (if c = e.1 ∧ j = e.2.1 then e.2.2 else LL d l c j) = d
    rw [if_neg (fun w => h.1 w.1.symm), ih h.2]
theorem i0 {c : Int} (h : (iL2.all fun e => decide (e.1 ≠ c)) = true) (j : Int) : LL 0 iL2 c j = 0 := by rw [LL_o 0 c iL2 h]
theorem i0f {c : Int} (h : (iL2.all fun e => decide (e.1 ≠ c)) = true) : LL 0 iL2 c = fun _ => 0 := LL_o 0 c iL2 h
theorem i10 {g : Int} (h : 0 ≤ g ∧ g < 9) : LL 0 iL2 10 g = -4 := by
  have : g = 0 ∨ g = 1 ∨ g = 2 ∨ g = 3 ∨ g = 4 ∨ g = 5 ∨ g = 6 ∨ g = 7 ∨ g = 8 := by omega
  rcases this with rfl | rfl | rfl | rfl | rfl | rfl | rfl | rfl | rfl <;> decide +kernel
theorem start_B : InvB 0 (LL 0 iL2) := by
  have c1 := i0f (c := 1) (by decide +kernel)
  have c143 := i0f (c := 143) (by decide +kernel)
  unfold InvB
  rw [c1, c143, i0f (c := 2) (by decide +kernel), i0f (c := 3) (by decide +kernel), i0f (c := 4) (by decide +kernel), i0f (c := 5) (by decide +kernel), i0f (c := 6) (by decide +kernel), i0f (c := 144) (by decide +kernel), i0f (c := 145) (by decide +kernel), i0f (c := 146) (by decide +kernel), i0f (c := 147) (by decide +kernel), i0f (c := 148) (by decide +kernel)]
  refine ⟨by decide, by decide, by decide, ⟨rfl, rfl, rfl, rfl, rfl⟩, fun p q1 q2 => ?_, fun g q1 q2 => ?_, fun g p _ _ _ _ => ⟨by show (0 : Int) ≤ 0 ∧ (0 : Int) ≤ 99; decide, fun _ => rfl⟩, by decide⟩
  · exact absurd q2 (by show ¬ p < 0; omega)
  · exact absurd q2 (by show ¬ g < 0; omega)
theorem start_R : InvR (LL 0 iL2) := by
  unfold InvR
  rw [i0f (c := 0) (by decide +kernel), i0f (c := 143) (by decide +kernel)]
  exact ⟨by decide, by decide, fun r q1 q2 => absurd q2 (by show ¬ r < 0; omega)⟩
theorem start_T : InvT (LL 0 iL2) := by
  refine ⟨?_, ?_, fun i _ _ => ?_, rfl, rfl⟩
  · rw [i0 (c := 57) (by decide +kernel), i0 (c := 143) (by decide +kernel)]; decide
  · rw [i0f (c := 149) (by decide +kernel), i0f (c := 58) (by decide +kernel)]
  · rw [i0 (c := 58) (by decide +kernel)]; decide
theorem start_S : InvS (LL 0 iL2) := by
  intro k k1 k2
  have z178 : LL 0 iL2 178 k = -4 ∧ LL 0 iL2 (135 + 2 * k) 1 = -4 ∧ LL 0 iL2 (135 + 2 * k) 2 = 0 ∧ (iL2.all fun e => decide (e.1 ≠ 136 + 2 * k)) = true := by
    have : k = 0 ∨ k = 1 ∨ k = 2 ∨ k = 3 := by omega
    rcases this with rfl | rfl | rfl | rfl <;> decide +kernel
  obtain ⟨a1, a2, a3, a4⟩ := z178
  refine ⟨⟨by rw [a1, a2], Or.inl a2⟩, ⟨by rw [a3]; exact i0 (c := 179) (by decide +kernel) k, by omega, by omega⟩, fun i _ _ => ?_⟩
  rw [i0 a4, i0 (c := 180) (by decide +kernel)]
  exact ⟨rfl, by decide⟩
theorem start_M : InvM (LL 0 iL2) := by
  have c7 : ∀ j, LL 0 iL2 7 j = 0 := fun j => i0 (by decide +kernel) j
  have c11 : ∀ j, LL 0 iL2 11 j = 0 := fun j => i0 (by decide +kernel) j
  have c9 : ∀ j, LL 0 iL2 9 j = 0 := fun j => i0 (by decide +kernel) j
  have c1 : ∀ j, LL 0 iL2 1 j = 0 := fun j => i0 (by decide +kernel) j
  have c143 : ∀ j, LL 0 iL2 143 j = 0 := fun j => i0 (by decide +kernel) j
  have c176 : ∀ j, LL 0 iL2 176 j = 0 := fun j => i0 (by decide +kernel) j
  have c8 : ∀ j, LL 0 iL2 8 j = 0 := fun j => i0 (by decide +kernel) j
  have lp : ∀ g, lPair (LL 0 iL2) 0 g = LL 0 iL2 10 g := fun g => by unfold lPair; rw [c7, if_neg (by decide)]
  have ls : ∀ g, lSeq (LL 0 iL2) 0 g = 0 := fun g => by unfold lSeq; rw [c7, if_neg (by decide), c11]
  have lq : ∀ p, lPaid (LL 0 iL2) 0 p = 0 := fun p => by unfold lPaid; rw [c7, if_neg (by decide), c9]
  have lc : lCnt (LL 0 iL2) 0 = 0 := by unfold lCnt; rw [c7, if_neg (by decide), c7]
  have cn : ∀ p, 0 ≤ p → cntN (LL 0 iL2 10) p = 0 := fun p hp => by
    unfold cntN
    exact sumN_zero 9 0 (fun i q1 q2 => by rw [i10 ⟨q1, by omega⟩, if_neg (by omega)])
  refine ⟨by rw [c7, c143]; decide, by rw [c7, c143], fun g q1 q2 => ?_, fun p q1 q2 => ⟨by rw [c176, c9], by rw [c8, cn p q1]⟩, fun i q1 q2 => ?_, fun i q1 q2 => ?_, lc, fun p _ _ => lq p⟩
  · rw [c1] at q2; omega
  · rw [c7] at q2
    have hi : i = 0 := by omega
    subst hi
    refine ⟨fun g g1 g2 => ⟨Or.inl (by rw [lp, i10 ⟨g1, g2⟩]), by rw [ls]; omega, fun w => absurd (by rw [lp, i10 ⟨g1, g2⟩]) w, fun _ => ⟨by rw [lp, i10 ⟨g1, g2⟩], ls g⟩⟩, ?_, fun p p1 p2 => ⟨by rw [lq]; omega, fun w => ?_, fun _ => lq p⟩, ?_⟩
    · rw [lc]
      unfold comeN
      exact (sumN_zero 9 0 (fun i _ _ => by rw [ls, if_neg (by omega)])).symm
    · rw [c1] at w; omega
    · unfold wgtN
      rw [sumN_zero 9 0 (fun i _ _ => by rw [ls, if_neg (by omega)])]; omega
  · rw [c7] at q2; omega
theorem start_A (F : Nat) : InvA F 0 (LL 0 iL2) := by
  have c17 : LL 0 iL2 1 7 = 0 := i0 (by decide +kernel) 7
  refine ⟨start_B, start_R, start_T, start_S, start_M, ⟨?_, ?_, fun q => ?_⟩, ⟨?_, fun j _ _ => i0 (c := 56) (by decide +kernel) j, fun q => ?_⟩, fun r r1 r2 => MeanOK.none ?_ (by omega), fun r r1 r2 => RkMean.none ?_ (by omega), fun r n r1 r2 n1 n2 => Or.inl ?_, fun j _ _ => ?_, fun j _ _ => ?_⟩
  · decide +kernel
  · rw [c17]; decide +kernel
  · rw [c17] at q; exact absurd q (by decide +kernel)
  · rw [c17]; decide +kernel
  · rw [c17] at q; exact absurd q (by decide +kernel)
  · have : r = 0 ∨ r = 1 ∨ r = 2 ∨ r = 3 ∨ r = 4 ∨ r = 5 := by omega
    rcases this with rfl | rfl | rfl | rfl | rfl | rfl <;> decide +kernel
  · have : r = 0 ∨ r = 1 ∨ r = 2 ∨ r = 3 ∨ r = 4 ∨ r = 5 := by omega
    rcases this with rfl | rfl | rfl | rfl | rfl | rfl <;> decide +kernel
  · have h : (iL2.all fun e => decide (e.1 ≠ 71 + 12 * r + (n : Int))) = true := by
      have h1 : r = 0 ∨ r = 1 ∨ r = 2 ∨ r = 3 ∨ r = 4 ∨ r = 5 := by omega
      have h2 : n = 1 ∨ n = 2 ∨ n = 3 := by omega
      rcases h1 with rfl | rfl | rfl | rfl | rfl | rfl <;> rcases h2 with rfl | rfl | rfl <;> decide +kernel
    exact ⟨i0 h 0, i0 h 1, i0 h 2, i0 h 3⟩
  · rw [i0 (c := 32) (by decide +kernel)]; decide
  · rw [i0 (c := 162) (by decide +kernel)]; decide
