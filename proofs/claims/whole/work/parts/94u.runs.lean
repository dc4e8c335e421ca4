-- PURE LAYER: runs in step
def Rn (σ : St) (k : Int) (τ : St) (r n : Int) : Prop :=
  BdOK σ (bd k) ∧ StOK σ k ∧ Lk σ k τ r ∧ (σ k 12 = n ∧ σ k 10 = n ∧ 0 ≤ n ∧ τ 143 36 = σ k 11) ∧ ∀ x, 0 ≤ x → x < 9 → σ (k + 4) x = 0 → σ (k + 3) x = -4
/-- who holds a post has come: kept by an entering -/
theorem enterS_hd {σ : St} {k g p : Int} (hc : 0 ≤ σ k 10) (h : ∀ x, 0 ≤ x → x < 9 → σ (k + 4) x = 0 → σ (k + 3) x = -4) : ∀ x, 0 ≤ x → x < 9 → enterS σ k g p (k + 4) x = 0 → enterS σ k g p (k + 3) x = -4 := by
  intro x q1 q2 q3
  rw [enterS_seq] at q3
  unfold upf at q3
  by_cases y : x = g
  · rw [if_pos y] at q3; omega
  · rw [if_neg y] at q3
    have hx := h x q1 q2 q3
    by_cases z : p = -4
    · rw [z, enterS_no3]; exact hx
    · rw [enterS_pr z, if_neg y]
      split
      · rfl
      · exact hx
theorem Rn.step {F : Nat} (hF : 100 ≤ F) {σ τ : St} {k g r n : Int} (hk : k = 7 ∨ k = 17 ∨ k = 33) (hr : 0 ≤ r ∧ r < 6) (h : Rn σ k τ r n) (hn : n < 9) (hg : 0 ≤ g ∧ g < σ (bd k) 6) (h0 : σ (k + 4) g = 0) :
    ∃ p τ', gX7_comeBy F σ k g (63 + 12 * r) = some (p, enterS σ k g p) ∧ gX11_comes F τ g r = some (p, τ') ∧ Rn (enterS σ k g p) k τ' r (n + 1) ∧ ∀ a b, ¬ supC a b → τ' a b = τ a b := by
  obtain ⟨hB, hS, hL, ⟨e12, e10, n0, e36⟩, hh⟩ := h
  have hG := hB.2.1
  obtain ⟨p, τ', c1, c2, c3, c4, c5, c6, c7, c8, c9⟩ := step_eq hF hk hr hB hS hL (by omega) (by omega) hg (hh g hg.1 (by omega) h0)
  exact ⟨p, τ', c1, c2, ⟨c3, c4, c5, ⟨by rw [enterS_12, e12], by rw [enterS_10, e10], by omega, by omega⟩, enterS_hd (by omega) hh⟩, c6⟩
def RelE (σ : St) (k : Int) (τ : St) : Prop := (τ 143 26 = σ (bd k) 5 ∧ τ 143 27 = σ (bd k) 6) ∧ (∀ p, 0 ≤ p → p < 6 → τ 159 p = σ (bd k + 1) p ∧ τ 160 p = σ (bd k + 2) p ∧ τ 161 p = σ (bd k + 3) p) ∧ ∀ j, 0 ≤ j → j < 54 → τ 162 j = σ (bd k + 5) j
def FrM (τ : St) : Prop := (τ 143 35 = 0 ∧ τ 143 36 = 0) ∧ (∀ p, 0 ≤ p → p < 6 → τ 163 p = 0) ∧ ∀ g, 0 ≤ g → g < 9 → τ 164 g = -4 ∧ τ 165 g = 0
theorem clearS_bk {σ : St} {k : Int} (hk : k = 7 ∨ k = 17 ∨ k = 33) : clearS σ k (bd k) = σ (bd k) := by
  have := bd_off (i := 0) hk (by omega)
  exact clearS_o (by omega)
theorem clearS_bi {σ : St} {k i : Int} (hk : k = 7 ∨ k = 17 ∨ k = 33) (h : 0 ≤ i ∧ i ≤ 5) : clearS σ k (bd k + i) = σ (bd k + i) := by
  have := bd_off hk h
  exact clearS_o (by omega)
theorem clearS_bd {σ : St} {k : Int} (hk : k = 7 ∨ k = 17 ∨ k = 33) (hB : BdOK σ (bd k)) : BdOK (clearS σ k) (bd k) := by
  unfold BdOK
  rw [clearS_bk hk, clearS_bi hk (i := 1) (by omega), clearS_bi hk (i := 2) (by omega), clearS_bi hk (i := 3) (by omega), clearS_bi hk (i := 5) (by omega)]
  exact hB
theorem Rn.start {σ τ : St} {k r : Int} (hk : k = 7 ∨ k = 17 ∨ k = 33) (hr : 0 ≤ r ∧ r < 6) (hB : BdOK σ (bd k)) (hE : RelE σ k τ) (hF : FrM τ) (hRu : RuleOK τ r) (hcs : ∀ c, 63 + 12 * r ≤ c → c ≤ 68 + 12 * r → τ c = σ c) : Rn (clearS σ k) k τ r 0 ∧ ∀ x, 0 ≤ x → x < 9 → clearS σ k (k + 4) x = 0 := by
  have s1 : ∀ p, 0 ≤ p → p < 6 → clearS σ k (k + 1) p = 0 := fun p h1 h2 => by rw [clearS_at, if_neg (by omega), if_neg (by omega), if_neg (by omega), if_pos (by omega)]
  have s2 : ∀ p, 0 ≤ p → p < 6 → clearS σ k (k + 2) p = 0 := fun p h1 h2 => by rw [clearS_at, if_neg (by omega), if_neg (by omega), if_neg (by omega), if_pos (by omega)]
  have s3 : ∀ x, 0 ≤ x → x < 9 → clearS σ k (k + 3) x = -4 := fun p h1 h2 => by rw [clearS_at, if_neg (by omega), if_neg (by omega), if_pos (by omega)]
  have s4 : ∀ x, 0 ≤ x → x < 9 → clearS σ k (k + 4) x = 0 := fun p h1 h2 => by rw [clearS_at, if_neg (by omega), if_pos (by omega)]
  have cz : ∀ p, 0 ≤ p → cntN (clearS σ k (k + 3)) p = 0 := fun p h1 => sumN_zero 9 0 (fun i q1 q2 => by rw [s3 i q1 (by omega), if_neg (by omega)])
  have z10 : ∀ j, j = 10 ∨ j = 11 ∨ j = 12 → clearS σ k k j = 0 := fun j h => by rw [clearS_at, if_pos ⟨rfl, h⟩]
  refine ⟨⟨clearS_bd hk hB, ⟨fun g h1 h2 => ⟨Or.inl (s3 g h1 h2), by rw [s4 g h1 h2]; omega, fun _ => s3 g h1 h2⟩, fun p h1 h2 => ⟨by rw [s1 p h1 h2, cz p h1], fun h3 => ?_⟩⟩, ⟨⟨?_, fun p h1 h2 => ?_, fun j h1 h2 => ?_, fun g h1 h2 => ?_⟩, by rw [z10 10 (by omega)]; exact hF.1.1, hRu, fun c q1 q2 => ?_⟩, ⟨z10 12 (by omega), z10 10 (by omega), by omega, by rw [z10 11 (by omega)]; exact hF.1.2⟩, fun x h1 h2 _ => s3 x h1 h2⟩, s4⟩
  · rw [clearS_bk hk] at h3
    have b := hB.2.2.1 p h1 h3
    rw [clearS_bi hk (i := 1) (by omega), clearS_bi hk (i := 3) (by omega), cz p h1, s2 p h1 h2]
    omega
  · rw [clearS_bk hk]; exact hE.1
  · rw [clearS_bi hk (i := 1) (by omega), clearS_bi hk (i := 2) (by omega), clearS_bi hk (i := 3) (by omega), s2 p h1 h2]
    obtain ⟨a1, a2, a3⟩ := hE.2.1 p h1 h2
    exact ⟨a1, a2, a3, hF.2.1 p h1 h2⟩
  · rw [clearS_bi hk (i := 5) (by omega)]; exact hE.2.2 j h1 h2
  · rw [s3 g h1 h2, s4 g h1 h2]
    exact ⟨(hF.2.2 g h1 h2).1, fun _ => (hF.2.2 g h1 h2).2⟩
  · rw [clearS_o (by omega)]; exact hcs c q1 q2
theorem runs_6 {F : Nat} (hF : 100 ≤ F) {k r : Int} (hk : k = 7 ∨ k = 17 ∨ k = 33) (hr : 0 ≤ r ∧ r < 6) : ∀ (m n : Nat) (i : Int) (σ τ : St), Rn σ k τ r i → (∀ x, i ≤ x → x < 9 → σ (k + 4) x = 0) → i + m = σ (bd k) 6 → m < n →
    ∃ σ' τ', gX7_runByNumbers_L6 F k (63 + 12 * r) n i σ = some σ' ∧ gX11_runByNumbers_L6 F r n i τ = some τ' ∧ Rn σ' k τ' r (i + m) ∧ (∀ c, ¬ (k ≤ c ∧ c ≤ k + 9) → σ' c = σ c) ∧ ∀ a b, ¬ supC a b → τ' a b = τ a b := by
  intro m
  induction m with
  | zero =>
    intro n i σ τ h hx h2 h3
    obtain ⟨n, rfl⟩ : ∃ n', n = n' + 1 := ⟨n - 1, by omega⟩
    have hG := h.1.2.1
    have h0 := h.2.2.2.1.2.2.1
    refine ⟨σ, τ, ?_, ?_, by simpa using h, fun c _ => rfl, fun a b _ => rfl⟩
    · rw [gX7_runByNumbers_L6, w32_id (a := i) (by omega), w32_id (a := σ (bd k) 6) (by omega), if_pos (by omega)]
    · have e := h.2.2.1.1.1.2
      rw [gX11_runByNumbers_L6, e, w32_id (a := i) (by omega), w32_id (a := σ (bd k) 6) (by omega), if_pos (by omega)]
  | succ m ih =>
    intro n i σ τ h hx h2 h3
    obtain ⟨n, rfl⟩ : ∃ n', n = n' + 1 := ⟨n - 1, by omega⟩
    have hG := h.1.2.1
    have h0 := h.2.2.2.1.2.2.1
    have e := h.2.2.1.1.1.2
    have e10 := h.2.2.2.1.2.1
    obtain ⟨p, τ1, c1, c2, c3, c4⟩ := h.step hF hk hr (g := i) (by omega) (by omega) (hx i (by omega) (by omega))
    obtain ⟨σ', τ', d1, d2, d3, d4, d5⟩ := ih n (i + 1) (enterS σ k i p) τ1 c3 (fun x q1 q2 => by rw [enterS_seq, upf_ne (by omega)]; exact hx x (by omega) q2) (by rw [enterS_bk hk]; omega) (by omega)
    refine ⟨σ', τ', ?_, ?_, by rw [show i + ((m + 1 : Nat) : Int) = i + 1 + m by omega]; exact d3, fun c q => by rw [d4 c q, enterS_o q], fun a b q => by rw [d5 a b q, c4 a b q]⟩
    · rw [gX7_runByNumbers_L6, w32_id (a := i) (by omega), w32_id (a := σ (bd k) 6) (by omega), if_neg (by omega), c1, Option.bind_some]; exact d1
    · rw [gX11_runByNumbers_L6, e, w32_id (a := i) (by omega), w32_id (a := σ (bd k) 6) (by omega), if_neg (by omega), c2, Option.bind_some]; exact d2
theorem runs_eq {F : Nat} (hF : 100 ≤ F) {σ τ : St} {k r : Int} (hk : k = 7 ∨ k = 17 ∨ k = 33) (hr : 0 ≤ r ∧ r < 6) (hB : BdOK σ (bd k)) (hE : RelE σ k τ) (hRu : RuleOK τ r) (hcs : ∀ c, 63 + 12 * r ≤ c → c ≤ 68 + 12 * r → τ c = σ c) :
    ∃ σ' τ', gX7_runByNumbers F σ k (63 + 12 * r) = some σ' ∧ gX11_runByNumbers F τ r = some τ' ∧ Rn σ' k τ' r (σ (bd k) 6) ∧ (∀ c, ¬ (k ≤ c ∧ c ≤ k + 9) → σ' c = σ c) ∧ ∀ a b, ¬ supC a b → τ' a b = τ a b := by
  have hG := hB.2.1
  obtain ⟨τ1, f1, f2⟩ := fresh_eq hF τ
  have fo : ∀ a b, ¬ supC a b → τ1 a b = τ a b := fun a b q => by
    unfold supC at q
    rw [f2, if_neg (by omega), if_neg (by omega), if_neg (by omega), if_neg (by omega)]
  have fc : ∀ a, a ≠ 143 → a ≠ 163 → a ≠ 164 → a ≠ 165 → τ1 a = τ a := fun a q1 q2 q3 q4 => by funext b; exact fo a b (by unfold supC; omega)
  have hE1 : RelE σ k τ1 := by
    unfold RelE
    rw [fo 143 26 (by unfold supC; omega), fo 143 27 (by unfold supC; omega), fc 159 (by omega) (by omega) (by omega) (by omega), fc 160 (by omega) (by omega) (by omega) (by omega), fc 161 (by omega) (by omega) (by omega) (by omega), fc 162 (by omega) (by omega) (by omega) (by omega)]
    exact hE
  have hF1 : FrM τ1 := ⟨⟨by rw [f2, if_pos (by omega)], by rw [f2, if_pos (by omega)]⟩, fun p q1 q2 => by rw [f2, if_neg (by omega), if_neg (by omega), if_neg (by omega), if_pos (by omega)], fun g q1 q2 => ⟨by rw [f2, if_neg (by omega), if_pos (by omega)], by rw [f2, if_neg (by omega), if_neg (by omega), if_pos (by omega)]⟩⟩
  obtain ⟨st, s4⟩ := Rn.start hk hr hB hE1 hF1 (hRu.frame hr (fun a b hs => fo a b (by unfold supR at hs; unfold supC; omega))) (fun c q1 q2 => by rw [fc c (by omega) (by omega) (by omega) (by omega)]; exact hcs c q1 q2)
  obtain ⟨σ', τ', d1, d2, d3, d4, d5⟩ := runs_6 hF hk hr (σ (bd k) 6).toNat F 0 (clearS σ k) τ1 st (fun x q1 q2 => s4 x q1 q2) (by rw [clearS_bk hk]; omega) (by omega)
  refine ⟨σ', τ', ?_, ?_, ?_, fun c q => by rw [d4 c q, clearS_o (by omega)], fun a b q => by rw [d5 a b q, fo a b q]⟩
  · unfold gX7_runByNumbers
    rw [clear_eq, Option.bind_some]; exact d1
  · unfold gX11_runByNumbers
    rw [f1, Option.bind_some]; exact d2
  · rw [show (0 : Int) + ((σ (bd k) 6).toNat : Int) = σ (bd k) 6 by omega] at d3
    exact d3
