-- PURE LAYER: worst (1): what lies beside the trial board's posts and guests doesn't matter
theorem ite_iff {p q : Prop} [Decidable p] [Decidable q] (h : p ↔ q) (a b : Int) : (if p then a else b) = if q then a else b := by
  by_cases w : p
  · rw [if_pos w, if_pos (h.1 w)]
  · rw [if_neg w, if_neg (fun v => w (h.2 v))]
def Sm (P G : Int) (σ σ' : St) : Prop := (∀ a, ¬ (28 ≤ a ∧ a ≤ 32) → σ' a = σ a) ∧ (∀ p, 0 ≤ p → p < P → σ' 28 p = σ 28 p ∧ σ' 29 p = σ 29 p ∧ σ' 30 p = σ 30 p) ∧ ∀ g p, 0 ≤ g → g < G → 0 ≤ p → p < P → σ' 32 (6 * g + p) = σ 32 (6 * g + p)
theorem pWk_w {pair seq w w' : Int → Int} {p G : Int} (h : ∀ i, 0 ≤ i → i < G → w' (6 * i + p) = w (6 * i + p)) : ∀ (m : Nat) (x i : Int), 0 ≤ i → i + m ≤ G → (x = -4 ∨ 0 ≤ x ∧ x < G) → pWk pair seq w' p m x i = pWk pair seq w p m x i := by
  intro m
  induction m with
  | zero => intro x i _ _ _; rfl
  | succ m ih =>
    intro x i h0 h1 hx
    show pWk pair seq w' p m (if pair i = p ∧ (x = -4 ∨ w' (6 * i + p) < w' (6 * x + p) ∨ (w' (6 * i + p) = w' (6 * x + p) ∧ seq x < seq i)) then i else x) (i + 1) = pWk pair seq w p m (if pair i = p ∧ (x = -4 ∨ w (6 * i + p) < w (6 * x + p) ∨ (w (6 * i + p) = w (6 * x + p) ∧ seq x < seq i)) then i else x) (i + 1)
    have e : (if pair i = p ∧ (x = -4 ∨ w' (6 * i + p) < w' (6 * x + p) ∨ (w' (6 * i + p) = w' (6 * x + p) ∧ seq x < seq i)) then i else x) = (if pair i = p ∧ (x = -4 ∨ w (6 * i + p) < w (6 * x + p) ∨ (w (6 * i + p) = w (6 * x + p) ∧ seq x < seq i)) then i else x) := by
      rcases hx with hx | hx
      · exact ite_iff ⟨fun q => ⟨q.1, Or.inl hx⟩, fun q => ⟨q.1, Or.inl hx⟩⟩ _ _
      · rw [h i h0 (by omega), h x hx.1 hx.2]
    rw [e]
    refine ih _ (i + 1) (by omega) (by omega) ?_
    split
    · right; omega
    · exact hx
theorem pCh_c {can can' pass pass' : Int → Int} {ahead ahead' : Int → Int → Int} {P : Int} (h1 : ∀ i, 0 ≤ i → i < P → can' i = can i ∧ pass' i = pass i) (h2 : ∀ i x, 0 ≤ i → i < P → 0 ≤ x → x < P → ahead' i x = ahead i x) : ∀ (m : Nat) (x i : Int), 0 ≤ i → i + m ≤ P → (x = -4 ∨ 0 ≤ x ∧ x < P) → pCh can' pass' ahead' m x i = pCh can pass ahead m x i := by
  intro m
  induction m with
  | zero => intro x i _ _ _; rfl
  | succ m ih =>
    intro x i h0 hi hx
    show pCh can' pass' ahead' m (if can' i ≠ 0 ∧ pass' i ≠ 0 ∧ (x = -4 ∨ ahead' i x ≠ 0) then i else x) (i + 1) = pCh can pass ahead m (if can i ≠ 0 ∧ pass i ≠ 0 ∧ (x = -4 ∨ ahead i x ≠ 0) then i else x) (i + 1)
    have e : (if can' i ≠ 0 ∧ pass' i ≠ 0 ∧ (x = -4 ∨ ahead' i x ≠ 0) then i else x) = (if can i ≠ 0 ∧ pass i ≠ 0 ∧ (x = -4 ∨ ahead i x ≠ 0) then i else x) := by
      obtain ⟨a1, a2⟩ := h1 i h0 (by omega)
      rw [a1, a2]
      rcases hx with hx | hx
      · exact ite_iff ⟨fun q => ⟨q.1, q.2.1, Or.inl hx⟩, fun q => ⟨q.1, q.2.1, Or.inl hx⟩⟩ _ _
      · rw [h2 i x h0 (by omega) hx.1 hx.2]
    rw [e]
    refine ih _ (i + 1) (by omega) (by omega) ?_
    split
    · right; omega
    · exact hx
theorem b33 : bd 33 = 27 := by decide
theorem Sm.key {P G : Int} {σ σ' : St} (h : Sm P G σ σ') {g p : Int} (hg : 0 ≤ g ∧ g < G) (hp : 0 ≤ p ∧ p < P) : kC σ' 33 g p = kC σ 33 g p := by
  funext t
  obtain ⟨h1, h2, h3⟩ := h
  obtain ⟨a1, a2, a3⟩ := h2 p hp.1 hp.2
  have a5 := h3 g p hg.1 hg.2 hp.1 hp.2
  unfold kC pKey
  rw [b33, h1 (33 + 2) (by omega), h1 (33 + 3) (by omega), show σ' (27 + 1) p = σ (27 + 1) p from a1, show σ' (27 + 2) p = σ (27 + 2) p from a2, show σ' (27 + 5) (6 * g + p) = σ (27 + 5) (6 * g + p) from a5]
theorem Sm.wk {P G : Int} {σ σ' : St} (h : Sm P G σ σ') (hG : σ 27 6 = G) {p : Int} (hp : 0 ≤ p ∧ p < P) : wkC σ' 33 p = wkC σ 33 p ∧ (wkC σ 33 p = -4 ∨ 0 ≤ wkC σ 33 p ∧ wkC σ 33 p < G) := by
  obtain ⟨h1, h2, h3⟩ := h
  unfold wkC
  rw [b33, h1 (33 + 3) (by omega), h1 (33 + 4) (by omega), h1 27 (by omega), hG]
  refine ⟨?_, ?_⟩
  · by_cases q : 0 ≤ G
    · exact pWk_w (G := G) (fun i i1 i2 => h3 i p i1 i2 hp.1 hp.2) G.toNat (-4) 0 (by omega) (by omega) (Or.inl rfl)
    · rw [show G.toNat = 0 by omega]; rfl
  · have := pWk_in (σ (33 + 3)) (σ (33 + 4)) (σ (27 + 5)) p G.toNat (-4) 0 (Or.inl rfl) (by omega)
    rcases this with w | w
    · exact Or.inl w
    · right; omega
theorem Sm.can {P G : Int} {σ σ' : St} (h : Sm P G σ σ') (hG : σ 27 6 = G) {g p x : Int} (hx : 63 ≤ x) (hg : 0 ≤ g ∧ g < G) (hp : 0 ≤ p ∧ p < P) : canC σ' 33 g x p = canC σ 33 g x p := by
  obtain ⟨w1, w2⟩ := h.wk hG hp
  obtain ⟨h1, h2, h3⟩ := h
  obtain ⟨a1, a2, a3⟩ := h2 p hp.1 hp.2
  have a5 := h3 g p hg.1 hg.2 hp.1 hp.2
  unfold wkC at w1 w2
  unfold canC pCan
  rw [b33] at w1 w2 ⊢
  rw [w1, h1 (33 + 2) (by omega), h1 (33 + 3) (by omega), h1 x (by omega), show σ' (27 + 1) p = σ (27 + 1) p from a1, show σ' (27 + 3) p = σ (27 + 3) p from a3, show σ' (27 + 5) (6 * g + p) = σ (27 + 5) (6 * g + p) from a5]
  generalize pWk (σ (33 + 3)) (σ (33 + 4)) (σ (27 + 5)) p (σ 27 6).toNat (-4) 0 = W at w2 ⊢
  rcases w2 with w | w
  · refine ite_iff ⟨fun q => ⟨q.1, q.2.1, ?_⟩, fun q => ⟨q.1, q.2.1, ?_⟩⟩ _ _
    · rcases q.2.2 with v | v
      · exact Or.inl v
      · exact absurd w v.2.1
    · rcases q.2.2 with v | v
      · exact Or.inl v
      · exact absurd w v.2.1
  · rw [show σ' (27 + 5) (6 * W + p) = σ (27 + 5) (6 * W + p) from h3 W p w.1 w.2 hp.1 hp.2]
theorem Sm.ch {P G : Int} {σ σ' : St} (h : Sm P G σ σ') (hP : 0 ≤ P ∧ σ 27 5 = P) (hG : σ 27 6 = G) {g x : Int} (hx : 63 ≤ x) (hg : 0 ≤ g ∧ g < G) : chC σ' 33 g x = chC σ 33 g x := by
  unfold chC
  rw [b33, h.1 27 (by omega), hP.2]
  refine pCh_c (P := P) (fun i i1 i2 => ⟨h.can hG hx hg ⟨i1, i2⟩, ?_⟩) (fun i y i1 i2 y1 y2 => ?_) P.toNat (-4) 0 (by omega) (by omega) (Or.inl rfl)
  · unfold passC
    rw [h.key hg ⟨i1, i2⟩, h.1 (x + 3) (by omega), h.1 (x + 4) (by omega), h.1 (x + 5) (by omega), h.1 x (by omega)]
  · unfold ahdC
    rw [h.key hg ⟨i1, i2⟩, h.key hg ⟨y1, y2⟩, h.1 (x + 1) (by omega), h.1 (x + 2) (by omega), h.1 x (by omega)]
theorem Sm.enter {P G : Int} {σ σ' : St} (h : Sm P G σ σ') (hG : σ 27 6 = G) {g p : Int} (hg : 0 ≤ g ∧ g < G) (hp : p = -4 ∨ 0 ≤ p ∧ p < P) : Sm P G (enterS σ 33 g p) (enterS σ' 33 g p) := by
  have o := h.1
  refine ⟨fun a ha => ?_, fun q q1 q2 => ?_, fun y q y1 y2 q1 q2 => ?_⟩
  · funext b
    by_cases y : p = -4
    · rw [y, enterS_no, enterS_no, o 33 (by omega), o a ha]
    · have hp' : 0 ≤ p ∧ p < P := by rcases hp with w | w; exact absurd w y; exact w
      obtain ⟨a1, a2, a3⟩ := h.2.1 p hp'.1 hp'.2
      have a5 := h.2.2 g p hg.1 hg.2 hp'.1 hp'.2
      have eo : outC σ' 33 p = outC σ 33 p := by
        unfold outC
        rw [(h.wk hG hp').1, b33, o (33 + 3) (by omega), show σ' (27 + 1) p = σ (27 + 1) p from a1]
      have ep : payC σ' 33 g p = payC σ 33 g p := by
        unfold payC
        rw [b33, o (33 + 2) (by omega), show σ' (27 + 3) p = σ (27 + 3) p from a3, show σ' (27 + 5) (6 * g + p) = σ (27 + 5) (6 * g + p) from a5]
      have ed : ∀ c d, ¬ (28 ≤ c ∧ c ≤ 32) → dropS σ' 33 (outC σ 33 p) p c d = dropS σ 33 (outC σ 33 p) p c d := fun c d hc => by
        unfold dropS
        split
        · rw [o c hc]
        · rw [up_at, up_at, up_at, up_at, up_at, up_at, o (33 + 1) (by omega), o 33 (by omega), o c hc]
      rw [enterS_at y, enterS_at y, o 33 (by omega), eo, ep, o (33 + 2) (by omega), ed (33 + 1) p (by omega), ed a b ha]
  · rw [enterS_o (c := 28) (by omega), enterS_o (c := 28) (by omega), enterS_o (c := 29) (by omega), enterS_o (c := 29) (by omega), enterS_o (c := 30) (by omega), enterS_o (c := 30) (by omega)]
    exact h.2.1 q q1 q2
  · rw [enterS_o (c := 32) (by omega), enterS_o (c := 32) (by omega)]
    exact h.2.2 y q y1 y2 q1 q2
theorem sm_6 {F : Nat} (hF : 100 ≤ F) {r : Int} (hr : 0 ≤ r ∧ r < 6) {P G : Int} : ∀ (m n : Nat) (i : Int) (σ σ' τ : St), Sm P G σ σ' → σ 27 5 = P → σ 27 6 = G → Rn σ' 33 τ r i → (∀ x, i ≤ x → x < 9 → σ' 37 x = 0) → i + m = G → m < n → BdOK σ 27 → ∃ s s', gX7_runByNumbers_L6 F 33 (63 + 12 * r) n i σ = some s ∧ gX7_runByNumbers_L6 F 33 (63 + 12 * r) n i σ' = some s' ∧ Sm P G s s' ∧ ∀ c, ¬ (33 ≤ c ∧ c ≤ 42) → s c = σ c := by
  intro m
  induction m with
  | zero =>
    intro n i σ σ' τ sm eP eG h hx h2 h3 h4
    obtain ⟨n, rfl⟩ : ∃ n', n = n' + 1 := ⟨n - 1, by omega⟩
    have hG : 0 ≤ σ 27 6 ∧ σ 27 6 ≤ 9 := h4.2.1
    refine ⟨σ, σ', ?_, ?_, sm, fun _ _ => rfl⟩
    · rw [gX7_runByNumbers_L6, b33, w32_id (a := i) (by omega), w32_id (a := σ 27 6) (by omega), if_pos (by omega)]
    · rw [gX7_runByNumbers_L6, b33, sm.1 27 (by omega), w32_id (a := i) (by omega), w32_id (a := σ 27 6) (by omega), if_pos (by omega)]
  | succ m ih =>
    intro n i σ σ' τ sm eP eG h hx h2 h3 h4
    obtain ⟨n, rfl⟩ : ∃ n', n = n' + 1 := ⟨n - 1, by omega⟩
    have hG : 0 ≤ σ 27 6 ∧ σ 27 6 ≤ 9 := h4.2.1
    have hP : 0 ≤ σ 27 5 ∧ σ 27 5 ≤ 6 := h4.1
    have h0 := h.2.2.2.1.2.2.1
    have e12 := h.2.2.2.1.1
    have o := sm.1
    have e27 : σ' 27 = σ 27 := o 27 (by omega)
    obtain ⟨p, τ1, c1, c2, c3, c4⟩ := h.step hF (Or.inr (Or.inr rfl)) hr (g := i) (by omega) (by rw [b33, e27]; omega) (hx i (by omega) (by omega))
    have hRu := ruc_of h.2.2.1.2.2.1 h.2.2.1.2.2.2
    have cb := comeBy_eq hF (Or.inr (Or.inr rfl)) h.1 h.2.1 hRu (by omega) (g := i) (by omega)
    rw [c1] at cb
    have ep : p = chC σ' 33 i (63 + 12 * r) := (Prod.mk.inj (Option.some.inj cb)).1
    have ec := sm.ch (g := i) (x := 63 + 12 * r) ⟨by omega, eP⟩ eG (by omega) (by omega)
    have st : StOK σ 33 := by
      have s := h.2.1
      unfold StOK at s ⊢
      rw [b33] at s ⊢
      rw [o (33 + 3) (by omega), o (33 + 4) (by omega), o (33 + 1) (by omega), o (33 + 2) (by omega), e27] at s
      refine ⟨s.1, fun p q1 q2 => ⟨(s.2 p q1 q2).1, fun q3 => ?_⟩⟩
      have w := (s.2 p q1 q2).2 q3
      obtain ⟨a1, a2, a3⟩ := sm.2.1 p q1 (by omega)
      rw [show σ' (27 + 1) p = σ (27 + 1) p from a1, show σ' (27 + 3) p = σ (27 + 3) p from a3] at w
      exact w
    have ru : RuC σ (63 + 12 * r) := by
      have s := hRu
      unfold RuC at s ⊢
      rw [o (63 + 12 * r) (by omega), o (63 + 12 * r + 1) (by omega), o (63 + 12 * r + 2) (by omega), o (63 + 12 * r + 3) (by omega), o (63 + 12 * r + 4) (by omega), o (63 + 12 * r + 5) (by omega)] at s
      exact s
    have e33 : σ' 33 = σ 33 := o 33 (by omega)
    have cb2 := comeBy_eq hF (k := 33) (Or.inr (Or.inr rfl)) (by rw [b33]; exact h4) st ru (by rw [← e33]; omega) (g := i) (by omega)
    rw [← ec, ← ep] at cb2
    have hp : p = -4 ∨ 0 ≤ p ∧ p < P := by
      have := chC_in (k := 33) (g := i) (x := 63 + 12 * r) h.1
      rw [← ep, b33, e27, eP] at this
      rcases this with w | w
      · exact Or.inl w
      · exact Or.inr ⟨w.1, w.2.1⟩
    have bd2 : BdOK (enterS σ 33 i p) 27 := by
      have := enterS_bd (σ := σ) (g := i) (p := p) (Or.inr (Or.inr rfl)) (by rw [b33]; exact h4)
      rw [b33] at this
      exact this
    obtain ⟨s, s', d1, d2, d3, d4⟩ := ih n (i + 1) (enterS σ 33 i p) (enterS σ' 33 i p) τ1 (sm.enter eG (by omega) hp) (by rw [enterS_o (by omega)]; exact eP) (by rw [enterS_o (by omega)]; exact eG) c3 (fun x q1 q2 => by
      have es : enterS σ' 33 i p 37 = upf (σ' 37) i (σ' 33 10 + 1) := enterS_seq
      rw [es, upf_ne (by omega)]; exact hx x (by omega) q2) (by omega) (by omega) bd2
    refine ⟨s, s', ?_, ?_, d3, fun c q => by rw [d4 c q, enterS_o (by omega)]⟩
    · rw [gX7_runByNumbers_L6, b33, w32_id (a := i) (by omega), w32_id (a := σ 27 6) (by omega), if_neg (by omega), cb2, Option.bind_some]; exact d1
    · rw [gX7_runByNumbers_L6, b33, e27, w32_id (a := i) (by omega), w32_id (a := σ 27 6) (by omega), if_neg (by omega), c1, Option.bind_some]; exact d2
