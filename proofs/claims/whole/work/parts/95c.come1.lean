-- PURE LAYER: come and let, what both sides share
theorem record_eq {F : Nat} (hF : 100 ≤ F) {s σ : St} {A : Int} (hA : 0 ≤ A ∧ A ≤ 18) (h54 : s 143 54 = A) (h1 : s 173 = σ 173) (h2 : s 174 = σ 174) (h3 : s 175 = σ 175) (h4 : s 176 = σ 176) (h53 : s 143 53 = σ 7 10) (hg : s 143 4 = σ 1 6) :
    ∃ s', gX11_record F s = some s' ∧ s' 143 54 = A + 1 ∧ (∀ j, 0 ≤ j → j ≤ 34 → s' 177 (40 * A + j) = recF σ j) ∧ ∀ a b, ¬ (a = 143 ∧ b = 54) → ¬ (a = 177 ∧ 40 * A ≤ b) → s' a b = s a b := by
  obtain ⟨s', e, f⟩ := record_10 hF (k := 40 * A) (by omega) 9 F 0 s (by omega) (by omega) (by omega)
  refine ⟨s', by unfold gX11_record; rw [h54, e], by rw [f, if_pos ⟨rfl, rfl⟩, h54], fun j q1 q2 => ?_, fun a b q1 q2 => ?_⟩
  · rw [f, if_neg (by omega)]
    unfold recF
    by_cases z0 : j = 34
    · rw [if_pos (by omega), if_neg (by omega), if_neg (by omega), if_neg (by omega), if_neg (by omega), if_neg (by omega), hg]
    · rw [if_neg (by omega)]
      by_cases z1 : j = 33
      · rw [if_pos (by omega), if_neg (by omega), if_neg (by omega), if_neg (by omega), if_neg (by omega), if_pos z1, h53]
      · rw [if_neg (by omega)]
        by_cases z2 : 27 ≤ j
        · rw [if_pos (by omega), if_neg (by omega), if_neg (by omega), if_neg (by omega), if_pos (by omega), h4, show 40 * A + j - (40 * A + 27) = j - 27 by omega]
        · rw [if_neg (by omega)]
          by_cases z3 : 18 ≤ j
          · rw [if_pos (by omega), if_neg (by omega), if_neg (by omega), if_pos (by omega), h3, show 40 * A + j - (40 * A + 18) = j - 18 by omega]
          · rw [if_neg (by omega)]
            by_cases z4 : 9 ≤ j
            · rw [if_pos (by omega), if_neg (by omega), if_pos (by omega), h2, show 40 * A + j - (40 * A + 9) = j - 9 by omega]
            · rw [if_neg (by omega), if_pos (by omega), if_pos (by omega), h1, show 40 * A + j - 40 * A = j by omega]
  · rw [f, if_neg (by omega), if_neg (by omega), if_neg (by omega), if_neg (by omega), if_neg (by omega), if_neg (by omega), if_neg (by omega)]
theorem InvM.st {n : Nat} {σ : St} (h : InvM σ) (hB : InvB n σ) : StOK σ 7 := by
  obtain ⟨⟨p1, p2, p3⟩, ⟨g1, g2, g3⟩, -⟩ := id hB
  obtain ⟨c1, c2, c3, c4⟩ := h.cur
  have m6 := h.2.2.2.1
  refine ⟨fun g q1 q2 => ?_, fun p q1 q2 => ?_⟩
  · obtain ⟨d1, d2, d3, d4⟩ := c1 g q1 q2
    exact ⟨d1, d2, fun q => (d4 q).1⟩
  · obtain ⟨d1, d2, d3⟩ := c3 p q1 q2
    exact ⟨(m6 p q1 q2).2, fun q => ⟨(d2 q).2, d1, (d2 q).1⟩⟩
theorem InvM.loadM {F n : Nat} (hF : 100 ≤ F) {σ s : St} (h : InvM σ) (hB : InvB n σ) (hs : ∀ a b, supB a b ∨ (173 ≤ a ∧ a ≤ 176) ∨ (a = 143 ∧ b = 53) → s a b = σ a b) : ∃ τ, gX11_loadMarket F s = some τ ∧ RelB σ 7 τ (-1) ∧ τ 143 35 = σ 7 10 ∧ ∀ a b, ¬ (a = 143 ∧ (b = 26 ∨ b = 27 ∨ b = 35 ∨ b = 36)) → ¬ (159 ≤ a ∧ a ≤ 165) → τ a b = s a b := by
  obtain ⟨⟨p1, p2, p3⟩, ⟨g1, g2, g3⟩, -⟩ := id hB
  obtain ⟨c1, c2, c3, c4⟩ := h.cur
  obtain ⟨-, m4, m5, m6, -⟩ := id h
  obtain ⟨τ0, e, f1, f2, f3⟩ := hB.load hF (fun a b q => hs a b (Or.inl q))
  have t0 : τ0 143 0 = σ 1 5 := by rw [f3 143 0 (by omega) (by omega), hs 143 0 (by unfold supB; omega), p3]
  have t4 : τ0 143 4 = σ 1 6 := by rw [f3 143 4 (by omega) (by omega), hs 143 4 (by unfold supB; omega), g3]
  have t53 : τ0 143 53 = σ 7 10 := by rw [f3 143 53 (by omega) (by omega), hs 143 53 (by omega), m4]
  have tc : ∀ a b, 173 ≤ a → a ≤ 176 → τ0 a b = σ a b := fun a b q1 q2 => by rw [f3 a b (by omega) (by omega), hs a b (by omega)]
  obtain ⟨τ, d, f⟩ := loadMarket_6 hF (σ 1 6).toNat F 0 τ0 (by omega) (by omega) (by omega) (by omega) (by omega)
  have fo : ∀ a b, a ≠ 163 → a ≠ 164 → a ≠ 165 → ¬ (a = 143 ∧ b = 35) → τ a b = τ0 a b := fun a b q1 q2 q3 q4 => by rw [f, if_neg (by omega), if_neg (by omega), if_neg (by omega), if_neg (by omega)]
  refine ⟨τ, by unfold gX11_loadMarket; rw [e, Option.bind_some, d], ⟨⟨?_, ?_⟩, fun p q1 q2 => ⟨?_, ?_, ?_, ?_⟩, fun j q1 q2 => ?_, fun g q1 q2 => ⟨?_, fun _ => ?_⟩⟩, by rw [f, if_pos ⟨rfl, rfl⟩, t53], fun a b q1 q2 => by rw [fo a b (by omega) (by omega) (by omega) (by omega), f3 a b q1 q2]⟩
  · rw [fo 143 26 (by omega) (by omega) (by omega) (by omega)]; exact f1.1.1
  · rw [fo 143 27 (by omega) (by omega) (by omega) (by omega)]; exact f1.1.2
  · rw [fo 159 p (by omega) (by omega) (by omega) (by omega)]; exact (f1.2.1 p q1 q2).1
  · rw [fo 160 p (by omega) (by omega) (by omega) (by omega)]; exact (f1.2.1 p q1 q2).2.1
  · rw [fo 161 p (by omega) (by omega) (by omega) (by omega)]; exact (f1.2.1 p q1 q2).2.2
  · show τ 163 p = σ 9 p
    rw [f, if_neg (by omega), t0, t4]
    by_cases z : p < σ 1 5
    · rw [if_pos ⟨rfl, q1, z⟩, tc 176 p (by omega) (by omega)]; exact (m6 p q1 q2).1
    · rw [if_neg (by omega), if_neg (by omega), if_neg (by omega), f2.2.1 p q1 q2]; exact ((c3 p q1 q2).2.2 (by omega)).symm
  · rw [fo 162 j (by omega) (by omega) (by omega) (by omega)]; exact f1.2.2 j q1 q2
  · show τ 164 g = σ 10 g
    rw [f, if_neg (by omega), if_neg (by omega), t4]
    by_cases z : g < σ 1 6
    · rw [if_pos ⟨rfl, q1, z⟩, tc 174 g (by omega) (by omega)]; exact (m5 g q1 z).2.1
    · rw [if_neg (by omega), if_neg (by omega), (f2.2.2 g q1 q2).1]; exact ((c1 g q1 q2).2.2.2 (by omega)).1.symm
  · show τ 165 g = σ 11 g
    rw [f, if_neg (by omega), if_neg (by omega), t4, if_neg (by omega)]
    by_cases z : g < σ 1 6
    · rw [if_pos ⟨rfl, q1, z⟩, tc 175 g (by omega) (by omega)]; exact (m5 g q1 z).2.2
    · rw [if_neg (by omega), (f2.2.2 g q1 q2).2]; exact ((c1 g q1 q2).2.2.2 (by omega)).2.symm
theorem sumN_lt {f f' : Int → Int} {g : Int} : ∀ (m : Nat) (a : Int), a ≤ g → g < a + m → (∀ i, a ≤ i → i < a + m → f i ≤ f' i) → f g + 1 ≤ f' g → sumN f m a + 1 ≤ sumN f' m a := by
  have le : ∀ (m : Nat) (a : Int), (∀ i, a ≤ i → i < a + m → f i ≤ f' i) → sumN f m a ≤ sumN f' m a := by
    intro m
    induction m with
    | zero => intro a _; exact Int.le_refl _
    | succ m ih =>
      intro a h
      have h1 := ih (a + 1) (fun i q1 q2 => h i (by omega) (by omega))
      have h2 := h a (by omega) (by omega)
      show f a + sumN f m (a + 1) ≤ f' a + sumN f' m (a + 1)
      omega
  intro m
  induction m with
  | zero => intro a h1 h2 _ _; omega
  | succ m ih =>
    intro a h1 h2 h h3
    show f a + sumN f m (a + 1) + 1 ≤ f' a + sumN f' m (a + 1)
    have h4 := h a (by omega) (by omega)
    by_cases q : a = g
    · have h5 := le m (a + 1) (fun i q1 q2 => h i (by omega) (by omega))
      rw [q] at h5 ⊢
      omega
    · have h5 := ih (a + 1) (by omega) (by omega) (fun i q1 q2 => h i (by omega) (by omega)) h3
      omega
theorem comeN_upf {seq : Int → Int} {g v : Int} (hg : 0 ≤ g ∧ g < 9) (h0 : seq g = 0) (hv : 0 < v) : comeN (upf seq g v) = comeN seq + 1 ∧ comeN seq < 9 := by
  have e : comeN (upf seq g v) = comeN seq + 1 := by
    unfold comeN
    rw [sumN_chg (f := fun x => if 0 < seq x then 1 else 0) (g := g) 9 0 hg.1 (by omega) (fun i q => by show (if 0 < upf seq g v i then (1 : Int) else 0) = _; rw [upf_ne q])]
    show _ - (if 0 < seq g then (1 : Int) else 0) + (if 0 < upf seq g v g then 1 else 0) = _
    rw [upf_self, h0, if_neg (by omega), if_pos hv]
    omega
  have r := (sumN_rng (f := fun x => if 0 < upf seq g v x then (1 : Int) else 0) (lo := 0) (hi := 1) 9 0 (fun i _ _ => by by_cases q : 0 < upf seq g v i <;> simp [q])).2
  have r' : comeN (upf seq g v) ≤ 9 := by unfold comeN; omega
  exact ⟨e, by omega⟩
theorem enterS_log {σ : St} {k g p : Int} : (enterS σ k g p (k + 5) (σ k 12) = g ∧ enterS σ k g p (k + 6) (σ k 12) = p ∧ enterS σ k g p (k + 7) (σ k 12) = paysC σ k g p ∧ enterS σ k g p (k + 8) (σ k 12) = (if p = -4 then -4 else outC σ k p) ∧ enterS σ k g p (k + 9) (σ k 12) = 0) ∧ ∀ c b, k + 5 ≤ c → c ≤ k + 9 → b ≠ σ k 12 → enterS σ k g p c b = σ c b := by
  unfold paysC
  by_cases z : p = -4
  · subst z
    refine ⟨⟨?_, ?_, ?_, ?_, ?_⟩, fun c b q1 q2 q3 => ?_⟩
    · rw [enterS_no, if_neg (by omega), if_neg (by omega), if_neg (by omega), if_neg (by omega), if_neg (by omega), if_pos (by omega)]
    · rw [enterS_no, if_neg (by omega), if_neg (by omega), if_neg (by omega), if_neg (by omega), if_pos (by omega)]
    · rw [enterS_no, if_neg (by omega), if_neg (by omega), if_neg (by omega), if_pos (by omega), if_pos rfl]
    · rw [enterS_no, if_neg (by omega), if_neg (by omega), if_pos (by omega), if_pos rfl]
    · rw [enterS_no, if_neg (by omega), if_pos (by omega)]
    · rw [enterS_no, if_neg (by omega), if_neg (by omega), if_neg (by omega), if_neg (by omega), if_neg (by omega), if_neg (by omega), if_neg (by omega), if_neg (by omega)]
  · rw [if_neg z, if_neg z]
    refine ⟨⟨?_, ?_, ?_, ?_, ?_⟩, fun c b q1 q2 q3 => ?_⟩
    · rw [enterS_at z, if_neg (by omega), if_neg (by omega), if_neg (by omega), if_neg (by omega), if_neg (by omega), if_pos (by omega)]
    · rw [enterS_at z, if_neg (by omega), if_neg (by omega), if_neg (by omega), if_neg (by omega), if_pos (by omega)]
    · rw [enterS_at z, if_neg (by omega), if_neg (by omega), if_neg (by omega), if_pos (by omega)]
    · rw [enterS_at z, if_neg (by omega), if_neg (by omega), if_pos (by omega)]
    · rw [enterS_at z, if_neg (by omega), if_pos (by omega)]
    · rw [enterS_at z, if_neg (by omega), if_neg (by omega), if_neg (by omega), if_neg (by omega), if_neg (by omega), if_neg (by omega), if_neg (by omega), if_neg (by omega), if_neg (by omega), if_neg (by omega), if_neg (by omega), dropS_o (by omega) (by omega) (by omega)]
