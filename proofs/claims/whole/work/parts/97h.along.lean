-- PURE LAYER: a run that has gone along a list of guests
def AlongM (F : Nat) (r : Int) : List Int → St → Option St
  | [], τ => some τ
  | g :: L, τ => (gX11_comes F τ g r).bind fun z => AlongM F r L z.2
theorem AlongM_app {F : Nat} {r g : Int} : ∀ (L : List Int) (τ : St), AlongM F r (L ++ [g]) τ = (AlongM F r L τ).bind fun τ1 => (gX11_comes F τ1 g r).bind fun z => some z.2 := by
  intro L
  induction L with
  | nil => intro τ; rfl
  | cons h L ih =>
    intro τ
    show ((gX11_comes F τ h r).bind fun z => AlongM F r (L ++ [g]) z.2) = ((gX11_comes F τ h r).bind fun z => AlongM F r L z.2).bind _
    cases gX11_comes F τ h r with
    | none => rfl
    | some z => exact ih z.2
/-- a reference's store that has the board of σ0, and nobody has come -/
def Ready (σ0 : St) (r : Int) (τ : St) : Prop := FrM τ ∧ RelE σ0 17 τ ∧ RuleOK τ r ∧ ∀ c, 63 + 12 * r ≤ c → c ≤ 68 + 12 * r → τ c = σ0 c
/-- what a run of practice stands on -/
def AgB (r : Int) (σ σ' : St) : Prop := (∀ a, 1 ≤ a → a ≤ 6 → σ' a = σ a) ∧ ∀ c, 63 + 12 * r ≤ c → c ≤ 68 + 12 * r → σ' c = σ c
def AgR (r : Int) (σ σ' : St) : Prop := AgB r σ σ' ∧ (σ' 17 10 = σ 17 10 ∧ σ' 17 11 = σ 17 11 ∧ σ' 17 12 = σ 17 12) ∧ (∀ p, 0 ≤ p → p < 6 → σ' 18 p = σ 18 p ∧ σ' 19 p = σ 19 p) ∧ ∀ g, 0 ≤ g → g < 9 → σ' 20 g = σ 20 g ∧ σ' 21 g = σ 21 g
theorem Rn.congr {σ σ' τ : St} {r n : Int} (h : Rn σ 17 τ r n) (ha : AgR r σ σ') : Rn σ' 17 τ r n := by
  obtain ⟨hB, hS, ⟨⟨h1, h2, h3, h4⟩, h5, h6, h7⟩, h8, h9⟩ := h
  obtain ⟨⟨b1', b2⟩, ⟨c1, c2, c3⟩, c4, c5⟩ := ha
  have b17 : bd 17 = 1 := by decide
  rw [b17] at hB h1 h2 h3
  have hS1 := hS.1
  have hS2 := hS.2
  rw [b17] at hS1 hS2
  have ec : ∀ p, cntN (σ' 20) p = cntN (σ 20) p := fun p => cntN_congr p (fun g q1 q2 => (c5 g q1 q2).1)
  refine ⟨?_, ⟨?_, ?_⟩, ⟨⟨?_, ?_, ?_, ?_⟩, ?_, h6, fun c q1 q2 => by rw [b2 c q1 q2]; exact h7 c q1 q2⟩, ?_, ?_⟩
  · unfold BdOK at hB ⊢
    rw [b17, b1' 1 (by omega) (by omega), b1' (1 + 1) (by omega) (by omega), b1' (1 + 2) (by omega) (by omega), b1' (1 + 3) (by omega) (by omega), b1' (1 + 5) (by omega) (by omega)]
    exact hB
  · rw [b17, b1' 1 (by omega) (by omega)]
    intro g q1 q2
    show (σ' 20 g = -4 ∨ 0 ≤ σ' 20 g ∧ σ' 20 g < σ 1 5) ∧ (0 ≤ σ' 21 g ∧ σ' 21 g ≤ 9) ∧ (σ 1 6 ≤ g → σ' 20 g = -4)
    rw [(c5 g q1 q2).1, (c5 g q1 q2).2]
    exact hS1 g q1 q2
  · rw [b17, b1' 1 (by omega) (by omega), b1' (1 + 1) (by omega) (by omega), b1' (1 + 3) (by omega) (by omega)]
    intro p q1 q2
    show σ' 18 p = cntN (σ' 20) p ∧ (p < σ 1 5 → cntN (σ' 20) p ≤ σ (1 + 1) p ∧ 0 ≤ σ' 19 p ∧ σ' 19 p ≤ σ (1 + 3) p)
    rw [ec p, (c4 p q1 q2).1, (c4 p q1 q2).2]
    exact hS2 p q1 q2
  · rw [b17, b1' 1 (by omega) (by omega)]; exact h1
  · rw [b17, b1' (1 + 1) (by omega) (by omega), b1' (1 + 2) (by omega) (by omega), b1' (1 + 3) (by omega) (by omega)]
    intro p q1 q2
    show τ 159 p = σ (1 + 1) p ∧ τ 160 p = σ (1 + 2) p ∧ τ 161 p = σ (1 + 3) p ∧ τ 163 p = σ' 19 p
    rw [(c4 p q1 q2).2]
    exact h2 p q1 q2
  · rw [b17, b1' (1 + 5) (by omega) (by omega)]; exact h3
  · intro g q1 q2
    show τ 164 g = σ' 20 g ∧ (g ≠ -1 → τ 165 g = σ' 21 g)
    rw [(c5 g q1 q2).1, (c5 g q1 q2).2]
    exact h4 g q1 q2
  · rw [c1]; exact h5
  · rw [c1, c2, c3]; exact h8
  · intro g q1 q2
    show σ' 21 g = 0 → σ' 20 g = -4
    rw [(c5 g q1 q2).1, (c5 g q1 q2).2]
    exact h9 g q1 q2
/-- the class's practice run has gone along L, and so would any reference's store -/
def AtC (F : Nat) (r : Int) (σ0 σ : St) (L : List Int) : Prop :=
  (∀ τ0, Ready σ0 r τ0 → ∃ τ, AlongM F r L τ0 = some τ ∧ Rn σ 17 τ r L.length ∧ ∀ a b, ¬ supC a b → τ a b = τ0 a b) ∧ AgB r σ0 σ ∧ (∀ g, 0 ≤ g → g < 9 → (σ 21 g = 0 ↔ g ∉ L)) ∧ L.length ≤ 9
theorem AtC.congr {F : Nat} {r : Int} {σ0 σ σ' : St} {L : List Int} (h : AtC F r σ0 σ L) (ha : AgR r σ σ') : AtC F r σ0 σ' L := by
  obtain ⟨h1, h2, h3, h4⟩ := h
  refine ⟨fun τ0 hr => ?_, ⟨fun a q1 q2 => by rw [ha.1.1 a q1 q2, h2.1 a q1 q2], fun c q1 q2 => by rw [ha.1.2 c q1 q2, h2.2 c q1 q2]⟩, fun g q1 q2 => by rw [(ha.2.2.2 g q1 q2).2]; exact h3 g q1 q2, h4⟩
  obtain ⟨τ, e1, e2, e3⟩ := h1 τ0 hr
  exact ⟨τ, e1, e2.congr ha, e3⟩
theorem AtC.start {F : Nat} {r : Int} {σ0 σ : St} (hr : 0 ≤ r ∧ r < 6) (hB : BdOK σ0 1) (h : AgB r σ0 σ) : AtC F r σ0 (clearS σ 17) [] := by
  have b17 : bd 17 = 1 := by decide
  have hB' : BdOK σ (bd 17) := by
    unfold BdOK at hB ⊢
    rw [b17, h.1 1 (by omega) (by omega), h.1 (1 + 1) (by omega) (by omega), h.1 (1 + 2) (by omega) (by omega), h.1 (1 + 3) (by omega) (by omega), h.1 (1 + 5) (by omega) (by omega)]
    exact hB
  have st : ∀ τ0, Ready σ0 r τ0 → Rn (clearS σ 17) 17 τ0 r 0 := fun τ0 hr0 => by
    obtain ⟨r1, r2, r3, r4⟩ := hr0
    refine (Rn.start (k := 17) (Or.inr (Or.inl rfl)) hr hB' ?_ r1 r3 (fun c q1 q2 => by rw [r4 c q1 q2, h.2 c q1 q2])).1
    unfold RelE at r2 ⊢
    rw [b17] at r2 ⊢
    rw [h.1 1 (by omega) (by omega), h.1 (1 + 1) (by omega) (by omega), h.1 (1 + 2) (by omega) (by omega), h.1 (1 + 3) (by omega) (by omega), h.1 (1 + 5) (by omega) (by omega)]
    exact r2
  refine ⟨fun τ0 hr0 => ⟨τ0, rfl, st τ0 hr0, fun _ _ _ => rfl⟩, ⟨fun a q1 q2 => by rw [clearS_o (by omega), h.1 a q1 q2], fun c q1 q2 => by rw [clearS_o (by omega), h.2 c q1 q2]⟩, fun g q1 q2 => ?_, by decide⟩
  have : clearS σ 17 21 g = 0 := by rw [clearS_at, if_neg (by omega), if_pos (by omega)]
  rw [this]
  simp
theorem AtC.step {F : Nat} (hF : 100 ≤ F) {r g : Int} {σ0 σ : St} {L : List Int} (hr : 0 ≤ r ∧ r < 6) (hx : ∃ τ, Ready σ0 r τ) (h : AtC F r σ0 σ L) (hL : L.length < 9) (hg : 0 ≤ g ∧ g < σ0 1 6) (hn : g ∉ L) (hG : σ0 1 6 ≤ 9) :
    ∃ p, gX7_comeBy F σ 17 g (63 + 12 * r) = some (p, enterS σ 17 g p) ∧ AtC F r σ0 (enterS σ 17 g p) (L ++ [g]) ∧ (p = -4 ∨ 0 ≤ p ∧ p < 6) ∧ (p ≠ -4 → outC σ 17 p = -4 ∨ 0 ≤ outC σ 17 p ∧ outC σ 17 p < 9 ∧ outC σ 17 p ≠ g ∧ σ 20 (outC σ 17 p) = p) ∧ σ 17 12 = L.length ∧ σ 17 10 = L.length ∧ σ 20 g = -4 ∧ σ 21 g = 0 := by
  obtain ⟨h1, h2, h3, h4⟩ := id h
  have b17 : bd 17 = 1 := by decide
  have hg6 : g < σ (bd 17) 6 := by rw [b17, h2.1 1 (by omega) (by omega)]; exact hg.2
  have z0 : σ (17 + 4) g = 0 := (h3 g hg.1 (by omega)).mpr hn
  have one : ∀ τ0, Ready σ0 r τ0 → ∃ τ p τ', AlongM F r L τ0 = some τ ∧ gX7_comeBy F σ 17 g (63 + 12 * r) = some (p, enterS σ 17 g p) ∧ gX11_comes F τ g r = some (p, τ') ∧ Rn (enterS σ 17 g p) 17 τ' r (L.length + 1) ∧ (∀ a b, ¬ supC a b → τ' a b = τ0 a b) ∧ (p = -4 ∨ 0 ≤ p ∧ p < 6) ∧ (p ≠ -4 → outC σ 17 p = -4 ∨ 0 ≤ outC σ 17 p ∧ outC σ 17 p < 9 ∧ outC σ 17 p ≠ g ∧ σ 20 (outC σ 17 p) = p) ∧ σ 17 12 = L.length ∧ σ 17 10 = L.length ∧ σ 20 g = -4 := by
    intro τ0 hr0
    obtain ⟨τ, e1, e2, e3⟩ := h1 τ0 hr0
    obtain ⟨hB, hS, hL', ⟨e12, e10, n0, e36⟩, hh⟩ := id e2
    have pn := hh g hg.1 (by omega) z0
    have hP := hB.1
    obtain ⟨p, τ', c1, c2, c3, c4, c5, c6, c7, c8, c9⟩ := step_eq hF (k := 17) (g := g) (Or.inr (Or.inl rfl)) hr hB hS hL' (by omega) (by omega) ⟨hg.1, hg6⟩ pn
    exact ⟨τ, p, τ', e1, c1, c2, ⟨c3, c4, c5, ⟨by rw [enterS_12, e12], by rw [enterS_10, e10], by omega, by omega⟩, enterS_hd (by omega) hh⟩, fun a b q => by rw [c6 a b q, e3 a b q], by omega, c8, e12, e10, pn⟩
  obtain ⟨τc, hc⟩ := hx
  obtain ⟨-, p, -, -, k1, -, -, -, k2, k3, k4, k5, k6⟩ := one τc hc
  refine ⟨p, k1, ⟨fun τ0 hr0 => ?_, ⟨fun a q1 q2 => by rw [enterS_o (by omega), h2.1 a q1 q2], fun c q1 q2 => by rw [enterS_o (by omega), h2.2 c q1 q2]⟩, fun x q1 q2 => ?_, by simp; omega⟩, k2, k3, k4, k5, k6, z0⟩
  · obtain ⟨τ, p', τ', d1, d2, d3, d4, d5, -⟩ := one τ0 hr0
    rw [k1] at d2
    have ep : p = p' := (Prod.mk.inj (Option.some.inj d2)).1
    subst ep
    refine ⟨τ', by rw [AlongM_app, d1, Option.bind_some, d3, Option.bind_some], ?_, d5⟩
    rw [List.length_append]
    exact d4
  · have es : enterS σ 17 g p 21 = upf (σ 21) g (σ 17 10 + 1) := enterS_seq
    rw [es]
    unfold upf
    by_cases y : x = g
    · rw [if_pos y]
      constructor
      · intro w; omega
      · intro w; exact absurd (by rw [y]; simp) w
    · rw [if_neg y, h3 x q1 q2]
      simp [y]
