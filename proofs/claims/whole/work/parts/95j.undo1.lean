-- PURE LAYER: undo
theorem undo_99 {F : Nat} {k : Int} (hk : 0 ≤ k ∧ k ≤ 1000) : ∀ (m n : Nat) (i : Int) (σ : St), 0 ≤ i → i + m = 6 → m < n → ∃ σ', gX11_undo_L99 F n k i σ = some (σ 143 54, σ') ∧ ∀ a b, σ' a b = if a = 143 ∧ b = 53 then σ 177 (k + 33) else if a = 176 ∧ i ≤ b ∧ b < 6 then σ 177 (k + 27 + b) else σ a b := by
  intro m
  induction m with
  | zero =>
    intro n i σ h1 h2 h3
    obtain ⟨n, rfl⟩ : ∃ n', n = n' + 1 := ⟨n - 1, by omega⟩
    have e1 : up σ 143 53 (σ 177 (k + 33)) 143 54 = σ 143 54 := by rw [up_at, if_neg (by omega)]
    refine ⟨_, by rw [gX11_undo_L99, w32_id (a := i) (by omega), if_pos (by omega), w32_id (a := k + 33) (by omega), gd_pos (by omega), e1], fun a b => ?_⟩
    rw [up_at, if_neg (show ¬ (a = 176 ∧ i ≤ b ∧ b < 6) by omega)]
  | succ m ih =>
    intro n i σ h1 h2 h3
    obtain ⟨n, rfl⟩ : ∃ n', n = n' + 1 := ⟨n - 1, by omega⟩
    have u : ∀ c b, c ≠ 176 → up σ 176 i (σ 177 (k + 27 + i)) c b = σ c b := fun c b q => by rw [up_at, if_neg (by omega)]
    obtain ⟨σ', e, f⟩ := ih n (i + 1) (up σ 176 i (σ 177 (k + 27 + i))) (by omega) (by omega) (by omega)
    rw [u 143 54 (by omega)] at e
    refine ⟨σ', by rw [gX11_undo_L99, w32_id (a := i) (by omega), if_neg (by omega), w32_id (a := k + 27 + i) (by omega), gd_pos (by omega), gd_pos (by omega), e], fun a b => ?_⟩
    rw [f, u 177 (k + 33) (by omega), u 177 _ (by omega), up_at]
    by_cases q : a = 176 ∧ b = i
    · obtain ⟨rfl, rfl⟩ := q
      rw [if_neg (by omega), if_neg (by omega), if_pos ⟨rfl, rfl⟩, if_neg (by omega), if_pos (by omega)]
    · have k1 : (a = 176 ∧ i + 1 ≤ b ∧ b < 6) = (a = 176 ∧ i ≤ b ∧ b < 6) := propext (by omega)
      simp only [if_neg q, k1]
theorem undo_30 {F : Nat} (hF : 100 ≤ F) {k : Int} (hk : 0 ≤ k ∧ k ≤ 1000) : ∀ (m n : Nat) (i : Int) (σ : St), 0 ≤ i → i + m = σ 177 (k + 34) → σ 177 (k + 34) ≤ 9 → m < n → ∃ σ', gX11_undo_L30 F n k i σ = some (σ 143 54, σ') ∧ ∀ a b, σ' a b = if a = 143 ∧ b = 53 then σ 177 (k + 33) else if a = 176 ∧ 0 ≤ b ∧ b < 6 then σ 177 (k + 27 + b) else if a = 173 ∧ i ≤ b ∧ b < σ 177 (k + 34) then σ 177 (k + b) else if a = 174 ∧ i ≤ b ∧ b < σ 177 (k + 34) then σ 177 (k + 9 + b) else if a = 175 ∧ i ≤ b ∧ b < σ 177 (k + 34) then σ 177 (k + 18 + b) else σ a b := by
  intro m
  induction m with
  | zero =>
    intro n i σ h1 h2 h4 h3
    obtain ⟨n, rfl⟩ : ∃ n', n = n' + 1 := ⟨n - 1, by omega⟩
    obtain ⟨σ', e, f⟩ := undo_99 (F := F) hk 6 F 0 σ (by omega) (by omega) (by omega)
    refine ⟨σ', by rw [gX11_undo_L30, w32_id (a := i) (by omega), w32_id (a := k + 34) (by omega), gd_pos (by omega), w32_id (a := σ 177 (k + 34)) (by omega), if_pos (by omega), e], fun a b => ?_⟩
    rw [f, if_neg (show ¬ (a = 173 ∧ i ≤ b ∧ b < σ 177 (k + 34)) by omega), if_neg (show ¬ (a = 174 ∧ i ≤ b ∧ b < σ 177 (k + 34)) by omega), if_neg (show ¬ (a = 175 ∧ i ≤ b ∧ b < σ 177 (k + 34)) by omega)]
  | succ m ih =>
    intro n i σ h1 h2 h4 h3
    obtain ⟨n, rfl⟩ : ∃ n', n = n' + 1 := ⟨n - 1, by omega⟩
    have e1 : up σ 173 i (σ 177 (k + i)) 177 (k + 9 + i) = σ 177 (k + 9 + i) := by rw [up_at, if_neg (by omega)]
    have e2 : up (up σ 173 i (σ 177 (k + i))) 174 i (σ 177 (k + 9 + i)) 177 (k + 18 + i) = σ 177 (k + 18 + i) := by rw [up_at, if_neg (by omega), up_at, if_neg (by omega)]
    have u : ∀ c b, c ≠ 173 → c ≠ 174 → c ≠ 175 → up (up (up σ 173 i (σ 177 (k + i))) 174 i (σ 177 (k + 9 + i))) 175 i (σ 177 (k + 18 + i)) c b = σ c b := fun c b q1 q2 q3 => by rw [up_at, if_neg (by omega), up_at, if_neg (by omega), up_at, if_neg (by omega)]
    obtain ⟨σ', e, f⟩ := ih n (i + 1) (up (up (up σ 173 i (σ 177 (k + i))) 174 i (σ 177 (k + 9 + i))) 175 i (σ 177 (k + 18 + i))) (by omega) (by rw [u 177 _ (by omega) (by omega) (by omega)]; omega) (by rw [u 177 _ (by omega) (by omega) (by omega)]; omega) (by omega)
    rw [u 143 54 (by omega) (by omega) (by omega)] at e
    refine ⟨σ', by rw [gX11_undo_L30, w32_id (a := i) (by omega), w32_id (a := k + 34) (by omega), gd_pos (by omega), w32_id (a := σ 177 (k + 34)) (by omega), if_neg (by omega), w32_id (a := k + i) (by omega), w32_id (a := k + 9 + i) (by omega), w32_id (a := k + 18 + i) (by omega), gd_pos (by omega), gd_pos (by omega), gd_pos (by omega), gd_pos (by omega), gd_pos (by omega), gd_pos (by omega), e1, e2, e], fun a b => ?_⟩
    rw [f, u 177 (k + 33) (by omega) (by omega) (by omega), u 177 (k + 34) (by omega) (by omega) (by omega), u 177 (k + 27 + b) (by omega) (by omega) (by omega), u 177 (k + b) (by omega) (by omega) (by omega), u 177 (k + 9 + b) (by omega) (by omega) (by omega), u 177 (k + 18 + b) (by omega) (by omega) (by omega)]
    by_cases q : (a = 173 ∨ a = 174 ∨ a = 175) ∧ b = i
    · obtain ⟨q, rfl⟩ := q
      rcases q with rfl | rfl | rfl
      · have v : up (up (up σ 173 b (σ 177 (k + b))) 174 b (σ 177 (k + 9 + b))) 175 b (σ 177 (k + 18 + b)) 173 b = σ 177 (k + b) := by rw [up_at, if_neg (by omega), up_at, if_neg (by omega), up_self]
        rw [v, if_neg (by omega), if_neg (by omega), if_neg (by omega), if_neg (by omega), if_neg (by omega), if_neg (by omega), if_neg (by omega), if_pos (by omega)]
      · have v : up (up (up σ 173 b (σ 177 (k + b))) 174 b (σ 177 (k + 9 + b))) 175 b (σ 177 (k + 18 + b)) 174 b = σ 177 (k + 9 + b) := by rw [up_at, if_neg (by omega), up_self]
        rw [v, if_neg (by omega), if_neg (by omega), if_neg (by omega), if_neg (by omega), if_neg (by omega), if_neg (by omega), if_neg (by omega), if_neg (by omega), if_pos (by omega)]
      · have v : up (up (up σ 173 b (σ 177 (k + b))) 174 b (σ 177 (k + 9 + b))) 175 b (σ 177 (k + 18 + b)) 175 b = σ 177 (k + 18 + b) := up_self _ _ _ _
        rw [v, if_neg (by omega), if_neg (by omega), if_neg (by omega), if_neg (by omega), if_neg (by omega), if_neg (by omega), if_neg (by omega), if_neg (by omega), if_neg (by omega), if_pos (by omega)]
    · have v : up (up (up σ 173 i (σ 177 (k + i))) 174 i (σ 177 (k + 9 + i))) 175 i (σ 177 (k + 18 + i)) a b = σ a b := by rw [up_at, if_neg (by omega), up_at, if_neg (by omega), up_at, if_neg (by omega)]
      have k1 : (a = 173 ∧ i + 1 ≤ b ∧ b < σ 177 (k + 34)) = (a = 173 ∧ i ≤ b ∧ b < σ 177 (k + 34)) := propext (by omega)
      have k2 : (a = 174 ∧ i + 1 ≤ b ∧ b < σ 177 (k + 34)) = (a = 174 ∧ i ≤ b ∧ b < σ 177 (k + 34)) := propext (by omega)
      have k3 : (a = 175 ∧ i + 1 ≤ b ∧ b < σ 177 (k + 34)) = (a = 175 ∧ i ≤ b ∧ b < σ 177 (k + 34)) := propext (by omega)
      simp only [v, k1, k2, k3]
/-- the class's act taken back: the level below -/
theorem back_lev {n : Nat} {σ : St} (hB : InvB n σ) (hM : InvM σ) (hA : 0 < σ 7 12) : ∃ s, gX7_takeBack σ 7 = some s ∧ s 7 12 = σ 7 12 - 1 ∧ s 7 10 = lCnt σ (σ 7 12 - 1) ∧ (∀ g, 0 ≤ g → g < 9 → s 10 g = lPair σ (σ 7 12 - 1) g ∧ s 11 g = lSeq σ (σ 7 12 - 1) g) ∧ (∀ p, 0 ≤ p → p < 6 → s 9 p = lPaid σ (σ 7 12 - 1) p) ∧ (∀ p, 0 ≤ p → p < 6 → s 8 p = cntN (s 10) p) ∧ ∀ a b, ¬ (a = 7 ∧ 10 ≤ b ∧ b ≤ 12) → ¬ (8 ≤ a ∧ a ≤ 11) → s a b = σ a b := by
  obtain ⟨m1, m4, m5, m6, m7, m8, m9⟩ := id hM
  obtain ⟨s1, s2, s3, s4, s5⟩ := m8 (σ 7 12 - 1) (by omega) (by omega)
  obtain ⟨v1, v2, v3, v4⟩ := lev_cur (σ := σ) (i := σ 7 12 - 1 + 1) (by omega)
  rw [v1, v2, v3, v4] at s1
  generalize lPair σ (σ 7 12 - 1) = pr at s1 ⊢
  generalize lSeq σ (σ 7 12 - 1) = sq at s1 ⊢
  generalize lPaid σ (σ 7 12 - 1) = pd at s1 ⊢
  generalize lCnt σ (σ 7 12 - 1) = ct at s1 ⊢
  obtain ⟨hg, hs⟩ := s1
  rcases hs with ⟨k1, k2, k3, k4, k5, k6, k7, k8⟩ | ⟨k1, k2, k3, k4, k5, k6⟩
  · have tb := takeBack_go (σ := σ) (k := 7) ⟨hA, m1.2.1⟩ hg ⟨k2, k3⟩ k1
    have e5 : σ (7 + 5) (σ 7 12 - 1) = σ 12 (σ 7 12 - 1) := rfl
    have e6 : σ (7 + 6) (σ 7 12 - 1) = σ 13 (σ 7 12 - 1) := rfl
    rw [e5, e6] at tb
    generalize σ 12 (σ 7 12 - 1) = g at *
    generalize σ 13 (σ 7 12 - 1) = p at *
    have g10 : σ 10 g = -4 := by rw [k5 g hg.1 hg.2, if_pos rfl]
    have t : ∀ a b, up (up (bk0 σ 7) (7 + 3) g p) (7 + 1) p (σ (7 + 1) p + 1) a b = if a = 8 ∧ b = p then σ 8 p + 1 else if a = 10 ∧ b = g then p else if a = 7 ∧ b = 12 then σ 7 12 - 1 else σ a b := fun a b => rfl
    generalize up (up (bk0 σ 7) (7 + 3) g p) (7 + 1) p (σ (7 + 1) p + 1) = s at *
    have c10 : s 10 = upf (σ 10) g p := by
      funext b
      unfold upf
      rw [t, if_neg (by omega)]
      by_cases w : b = g
      · rw [if_pos ⟨rfl, w⟩, if_pos w]
      · rw [if_neg (by omega), if_neg (by omega), if_neg w]
    refine ⟨s, tb, ?_, ?_, fun x y1 y2 => ⟨?_, ?_⟩, fun q y1 y2 => ?_, fun q y1 y2 => ?_, fun a b y1 y2 => ?_⟩
    · rw [t, if_neg (by omega), if_neg (by omega), if_pos ⟨rfl, rfl⟩]
    · rw [t, if_neg (by omega), if_neg (by omega), if_neg (by omega), k8]
    · rw [c10]
      unfold upf
      have := k5 x y1 y2
      by_cases w : x = g
      · rw [if_pos w, w]; exact k4.symm
      · rw [if_neg w] at this ⊢; exact this
    · rw [t, if_neg (by omega), if_neg (by omega), if_neg (by omega)]; exact k6 x y1 y2
    · rw [t, if_neg (by omega), if_neg (by omega), if_neg (by omega)]; exact k7 q y1 y2
    · rw [c10, cntN_upf _ _ _ hg, g10, if_neg (show ¬ (-4 : Int) = q by omega), t]
      have m6' := (m6 q y1 y2).2
      by_cases w : q = p
      · rw [if_pos ⟨rfl, w⟩, if_pos w.symm, ← w]; omega
      · rw [if_neg (by omega), if_neg (by omega), if_neg (by omega), if_neg (fun z => w z.symm)]; omega
    · rw [t, if_neg (by omega), if_neg (by omega), if_neg (by omega)]
  · rcases k6 with ⟨l1, l2, l3⟩ | ⟨l1, l2, l3, l4, l5⟩
    · have tb := takeBack_no (σ := σ) (k := 7) ⟨hA, m1.2.1⟩ hg l1 k1
      have e5 : σ (7 + 5) (σ 7 12 - 1) = σ 12 (σ 7 12 - 1) := rfl
      rw [e5] at tb
      generalize σ 12 (σ 7 12 - 1) = g at *
      have t : ∀ a b, up (up (bk0 σ 7) 7 10 (σ 7 10 - 1)) (7 + 4) g 0 a b = if a = 11 ∧ b = g then 0 else if a = 7 ∧ b = 10 then σ 7 10 - 1 else if a = 7 ∧ b = 12 then σ 7 12 - 1 else σ a b := fun a b => rfl
      generalize up (up (bk0 σ 7) 7 10 (σ 7 10 - 1)) (7 + 4) g 0 = s at *
      have c10 : s 10 = σ 10 := by funext b; rw [t, if_neg (by omega), if_neg (by omega), if_neg (by omega)]
      refine ⟨s, tb, ?_, ?_, fun x y1 y2 => ⟨?_, ?_⟩, fun q y1 y2 => ?_, fun q y1 y2 => ?_, fun a b y1 y2 => ?_⟩
      · rw [t, if_neg (by omega), if_neg (by omega), if_pos ⟨rfl, rfl⟩]
      · rw [t, if_neg (by omega), if_pos ⟨rfl, rfl⟩, k4]; omega
      · rw [c10]; exact l2 x y1 y2
      · have := k5 x y1 y2
        rw [t]
        by_cases w : x = g
        · rw [if_pos ⟨rfl, w⟩, w, k3]
        · rw [if_neg w] at this
          rw [if_neg (by omega), if_neg (by omega), if_neg (by omega)]; exact this
      · rw [t, if_neg (by omega), if_neg (by omega), if_neg (by omega)]; exact l3 q y1 y2
      · rw [c10, t, if_neg (by omega), if_neg (by omega), if_neg (by omega)]; exact (m6 q y1 y2).2
      · rw [t, if_neg (by omega), if_neg (by omega), if_neg (by omega)]
    · have ho : σ (7 + 8) (σ 7 12 - 1) = -4 ∨ 0 ≤ σ (7 + 8) (σ 7 12 - 1) ∧ σ (7 + 8) (σ 7 12 - 1) < 9 := by
        rcases l3 with l3 | l3
        · exact Or.inl l3
        · exact Or.inr ⟨l3.1, l3.2.1⟩
      obtain ⟨s0, hs0, tb⟩ := takeBack_in (σ := σ) (k := 7) ⟨hA, m1.2.1⟩ hg ⟨l1, l2⟩ k1 ho
      have e5 : σ (7 + 5) (σ 7 12 - 1) = σ 12 (σ 7 12 - 1) := rfl
      have e6 : σ (7 + 6) (σ 7 12 - 1) = σ 13 (σ 7 12 - 1) := rfl
      have e7 : σ (7 + 7) (σ 7 12 - 1) = σ 14 (σ 7 12 - 1) := rfl
      have e8 : σ (7 + 8) (σ 7 12 - 1) = σ 15 (σ 7 12 - 1) := rfl
      rw [e5, e6, e7] at hs0
      rw [e6, e8] at tb
      generalize σ 12 (σ 7 12 - 1) = g at *
      generalize σ 13 (σ 7 12 - 1) = p at *
      generalize σ 14 (σ 7 12 - 1) = pays at *
      generalize σ 15 (σ 7 12 - 1) = out at *
      have g10 : σ 10 g = p := by rw [l4 g hg.1 hg.2, if_pos rfl]
      have t0 : ∀ a b, s0 a b = if a = 9 ∧ b = p then σ 9 p - pays else if a = 8 ∧ b = p then σ 8 p - 1 else if a = 10 ∧ b = g then -4 else if a = 11 ∧ b = g then 0 else if a = 7 ∧ b = 10 then σ 7 10 - 1 else if a = 7 ∧ b = 12 then σ 7 12 - 1 else σ a b := fun a b => by rw [hs0]; rfl
      by_cases z : out = -4
      · rw [if_pos z] at tb
        have c10 : s0 10 = upf (σ 10) g (-4) := by
          funext b
          unfold upf
          rw [t0, if_neg (by omega), if_neg (by omega)]
          by_cases w : b = g
          · rw [if_pos ⟨rfl, w⟩, if_pos w]
          · rw [if_neg (by omega), if_neg (by omega), if_neg (by omega), if_neg (by omega), if_neg w]
        refine ⟨s0, tb, ?_, ?_, fun x y1 y2 => ⟨?_, ?_⟩, fun q y1 y2 => ?_, fun q y1 y2 => ?_, fun a b y1 y2 => ?_⟩
        · rw [t0, if_neg (by omega), if_neg (by omega), if_neg (by omega), if_neg (by omega), if_neg (by omega), if_pos ⟨rfl, rfl⟩]
        · rw [t0, if_neg (by omega), if_neg (by omega), if_neg (by omega), if_neg (by omega), if_pos ⟨rfl, rfl⟩, k4]; omega
        · rw [c10]
          unfold upf
          have := l4 x y1 y2
          by_cases w : x = g
          · rw [if_pos w, w]; exact k2.symm
          · rw [if_neg w, if_neg (by omega)] at this
            rw [if_neg w]; exact this
        · have := k5 x y1 y2
          rw [t0, if_neg (by omega), if_neg (by omega), if_neg (by omega)]
          by_cases w : x = g
          · rw [if_pos ⟨rfl, w⟩, w, k3]
          · rw [if_neg w] at this
            rw [if_neg (by omega), if_neg (by omega), if_neg (by omega)]; exact this
        · have := l5 q y1 y2
          rw [t0]
          by_cases w : q = p
          · rw [if_pos w] at this
            rw [if_pos ⟨rfl, w⟩, ← w]; omega
          · rw [if_neg w] at this
            rw [if_neg (by omega), if_neg (by omega), if_neg (by omega), if_neg (by omega), if_neg (by omega), if_neg (by omega)]; exact this
        · rw [c10, cntN_upf _ _ _ hg, g10, if_neg (show ¬ (-4 : Int) = q by omega), t0, if_neg (by omega)]
          have m6' := (m6 q y1 y2).2
          by_cases w : q = p
          · rw [if_pos ⟨rfl, w⟩, if_pos w.symm, ← w]; omega
          · rw [if_neg (by omega), if_neg (by omega), if_neg (by omega), if_neg (by omega), if_neg (by omega), if_neg (fun y => w y.symm)]; omega
        · rw [t0, if_neg (by omega), if_neg (by omega), if_neg (by omega), if_neg (by omega), if_neg (by omega), if_neg (by omega)]
      · rw [if_neg z] at tb
        have l3' : 0 ≤ out ∧ out < 9 ∧ out ≠ g ∧ pr out = p := by
          rcases l3 with l3 | l3
          · exact absurd l3 z
          · exact l3
        have o10 : σ 10 out = -4 := by rw [l4 out l3'.1 l3'.2.1, if_neg l3'.2.2.1, if_pos rfl]
        have t : ∀ a b, up (up (up s0 (7 + 3) out p) (7 + 1) p (σ (7 + 1) p)) 7 11 (σ 7 11 - 1) a b = if a = 7 ∧ b = 11 then σ 7 11 - 1 else if a = 8 ∧ b = p then σ 8 p else if a = 10 ∧ b = out then p else s0 a b := fun a b => rfl
        generalize up (up (up s0 (7 + 3) out p) (7 + 1) p (σ (7 + 1) p)) 7 11 (σ 7 11 - 1) = s at *
        have c10 : s 10 = upf (upf (σ 10) g (-4)) out p := by
          funext b
          unfold upf
          rw [t, if_neg (by omega), if_neg (by omega)]
          by_cases w : b = out
          · rw [if_pos ⟨rfl, w⟩, if_pos w]
          · rw [if_neg (by omega), if_neg w, t0, if_neg (by omega), if_neg (by omega)]
            by_cases w : b = g
            · rw [if_pos ⟨rfl, w⟩, if_pos w]
            · rw [if_neg (by omega), if_neg (by omega), if_neg (by omega), if_neg (by omega), if_neg w]
        refine ⟨s, tb, ?_, ?_, fun x y1 y2 => ⟨?_, ?_⟩, fun q y1 y2 => ?_, fun q y1 y2 => ?_, fun a b y1 y2 => ?_⟩
        · rw [t, if_neg (by omega), if_neg (by omega), if_neg (by omega), t0, if_neg (by omega), if_neg (by omega), if_neg (by omega), if_neg (by omega), if_neg (by omega), if_pos ⟨rfl, rfl⟩]
        · rw [t, if_neg (by omega), if_neg (by omega), if_neg (by omega), t0, if_neg (by omega), if_neg (by omega), if_neg (by omega), if_neg (by omega), if_pos ⟨rfl, rfl⟩, k4]; omega
        · rw [c10]
          unfold upf
          have := l4 x y1 y2
          by_cases w : x = out
          · rw [if_pos w, w]; exact l3'.2.2.2.symm
          · rw [if_neg w] at this ⊢
            by_cases w : x = g
            · rw [if_pos w, w]; exact k2.symm
            · rw [if_neg w] at this ⊢; exact this
        · have := k5 x y1 y2
          rw [t, if_neg (by omega), if_neg (by omega), if_neg (by omega), t0, if_neg (by omega), if_neg (by omega), if_neg (by omega)]
          by_cases w : x = g
          · rw [if_pos ⟨rfl, w⟩, w, k3]
          · rw [if_neg w] at this
            rw [if_neg (by omega), if_neg (by omega), if_neg (by omega)]; exact this
        · have := l5 q y1 y2
          rw [t, if_neg (by omega), if_neg (by omega), if_neg (by omega), t0]
          by_cases w : q = p
          · rw [if_pos w] at this
            rw [if_pos ⟨rfl, w⟩, ← w]; omega
          · rw [if_neg w] at this
            rw [if_neg (by omega), if_neg (by omega), if_neg (by omega), if_neg (by omega), if_neg (by omega), if_neg (by omega)]; exact this
        · rw [c10, cntN_upf _ _ _ ⟨l3'.1, l3'.2.1⟩, upf_ne l3'.2.2.1, o10, if_neg (show ¬ (-4 : Int) = q by omega), cntN_upf _ _ _ hg, g10, if_neg (show ¬ (-4 : Int) = q by omega), t, if_neg (by omega)]
          have m6' := (m6 q y1 y2).2
          by_cases w : q = p
          · rw [if_pos ⟨rfl, w⟩, if_pos w.symm, ← w]; omega
          · rw [if_neg (by omega), if_neg (by omega), t0, if_neg (by omega), if_neg (by omega), if_neg (by omega), if_neg (by omega), if_neg (by omega), if_neg (by omega), if_neg (fun y => w y.symm)]; omega
        · rw [t, if_neg (by omega), if_neg (by omega), if_neg (by omega), t0, if_neg (by omega), if_neg (by omega), if_neg (by omega), if_neg (by omega), if_neg (by omega), if_neg (by omega)]
