-- PURE LAYER: both sides come, in step
theorem bd_off {k i : Int} (hk : k = 7 ∨ k = 17 ∨ k = 33) (h : 0 ≤ i ∧ i ≤ 5) : ¬ (k ≤ bd k + i ∧ bd k + i ≤ k + 9) := by
  have hb : bd 7 = 1 ∧ bd 17 = 1 ∧ bd 33 = 27 := by decide
  rcases hk with hk | hk | hk <;> rw [hk] <;> omega
theorem enterS_bk {σ : St} {k g p : Int} (hk : k = 7 ∨ k = 17 ∨ k = 33) : enterS σ k g p (bd k) = σ (bd k) := by
  have := bd_off (i := 0) hk (by omega)
  rw [Int.add_zero] at this
  exact enterS_o this
theorem enterS_bi {σ : St} {k g p i : Int} (hk : k = 7 ∨ k = 17 ∨ k = 33) (h : 0 ≤ i ∧ i ≤ 5) : enterS σ k g p (bd k + i) = σ (bd k + i) := enterS_o (bd_off hk h)
/-- run k of the class and the reference's area stand alike, and rule r is the same for both -/
def Lk (σ : St) (k : Int) (τ : St) (r : Int) : Prop :=
  RelB σ k τ (-1) ∧ τ 143 35 = σ k 10 ∧ RuleOK τ r ∧ (∀ c, 63 + 12 * r ≤ c → c ≤ 68 + 12 * r → τ c = σ c)
theorem ruc_of {σ τ : St} {r : Int} (h : RuleOK τ r) (hc : ∀ c, 63 + 12 * r ≤ c → c ≤ 68 + 12 * r → τ c = σ c) : RuC σ (63 + 12 * r) := by
  have h1 := h.cls
  unfold RuC at h1 ⊢
  rw [hc (63 + 12 * r) (by omega) (by omega), hc (63 + 12 * r + 1) (by omega) (by omega), hc (63 + 12 * r + 2) (by omega) (by omega), hc (63 + 12 * r + 3) (by omega) (by omega), hc (63 + 12 * r + 4) (by omega) (by omega), hc (63 + 12 * r + 5) (by omega) (by omega)] at h1
  exact h1
theorem rel_out {σ τ : St} {k e p : Int} (h : RelB σ k τ e) (hB : BdOK σ (bd k)) (hS : StOK σ k) (hp : 0 ≤ p ∧ p < σ (bd k) 5) (he : σ (k + 3) e ≠ p) : outM τ p = outC σ k p := by
  have hP := hB.1
  have hw := rel_wk h hB (p := p) (by omega) he
  have s2 := (hS.2 p hp.1 (by omega)).2 hp.2
  unfold outM outC
  rw [hw, cntN_congr p (fun g q1 q2 => (h.2.2.2 g q1 q2).1), (h.2.1 p hp.1 (by omega)).1]
  by_cases q : cntN (σ (k + 3)) p = σ (bd k + 1) p
  · rw [if_pos q, if_neg (by omega)]
  · rw [if_neg q, if_pos (by omega)]
theorem rel_pay {σ τ : St} {k e g p : Int} (h : RelB σ k τ e) (hg : 0 ≤ g ∧ g < 9) (hp : 0 ≤ p ∧ p < 6) : payM τ g p = payC σ k g p := by
  obtain ⟨a1, a2, a3, a4⟩ := h.2.1 p hp.1 hp.2
  unfold payM payC
  rw [a3, a4, h.2.2.1 (6 * g + p) (by omega) (by omega)]
  by_cases q : σ (bd k + 5) (6 * g + p) ≥ σ (bd k + 3) p - σ (k + 2) p
  · rw [if_pos q]
    by_cases z : σ (bd k + 3) p - σ (k + 2) p < σ (bd k + 5) (6 * g + p)
    · rw [if_pos z]
    · rw [if_neg z]; omega
  · rw [if_neg q, if_neg (by omega)]
/-- the reference's places that a coming may change -/
def supC (a b : Int) : Prop := (a = 143 ∧ (b = 35 ∨ b = 36)) ∨ a = 163 ∨ a = 164 ∨ a = 165
/-- both have taken p in: they stand alike -/
theorem took_rel {σ τ τ' : St} {k g p : Int} (hk : k = 7 ∨ k = 17 ∨ k = 33) (hB : BdOK σ (bd k)) (hS : StOK σ k) (h : RelB σ k τ g) (hs : τ 165 g = σ k 10 + 1) (h35 : τ 143 35 = σ k 10 + 1) (hg : 0 ≤ g ∧ g < 9) (hn : σ (k + 3) g = -4) (hp : 0 ≤ p ∧ p < σ (bd k) 5)
    (ht : ∀ a b, τ' a b = if a = 164 ∧ b = g then p else if a = 164 ∧ b = outM τ p then (if outM τ p = -4 then τ 164 b else -4) else if a = 163 ∧ b = p then τ 163 p + payM τ g p else if a = 143 ∧ b = 36 then τ 143 36 + (if outM τ p = -4 then 0 else 1) else τ a b) :
    RelB (enterS σ k g p) k τ' (-1) ∧ (τ' 143 35 = enterS σ k g p k 10 ∧ τ' 143 36 + σ k 11 = τ 143 36 + enterS σ k g p k 11) ∧ ∀ a b, ¬ supC a b → τ' a b = τ a b := by
  have hP := hB.1
  have eo := rel_out h hB hS hp (show σ (k + 3) g ≠ p by omega)
  have ep := rel_pay h hg (p := p) (by omega)
  obtain ⟨h1, h2, h3, h4⟩ := h
  rw [eo, ep] at ht
  have fr : ∀ a b, ¬ supC a b → τ' a b = τ a b := fun a b hn => by
    unfold supC at hn
    rw [ht, if_neg (by omega), if_neg (by omega), if_neg (by omega), if_neg (by omega)]
  have z : p ≠ -4 := by omega
  refine ⟨⟨⟨?_, ?_⟩, fun q q1 q2 => ?_, fun j q1 q2 => ?_, fun x q1 q2 => ?_⟩, ⟨?_, ?_⟩, fr⟩
  · rw [fr 143 26 (by unfold supC; omega), enterS_bk hk]; exact h1.1
  · rw [fr 143 27 (by unfold supC; omega), enterS_bk hk]; exact h1.2
  · obtain ⟨a1, a2, a3, a4⟩ := h2 q q1 q2
    rw [fr 159 q (by unfold supC; omega), fr 160 q (by unfold supC; omega), fr 161 q (by unfold supC; omega), enterS_bi hk (i := 1) (by omega), enterS_bi hk (i := 2) (by omega), enterS_bi hk (i := 3) (by omega), enterS_paid q1]
    refine ⟨a1, a2, a3, ?_⟩
    rw [ht, if_neg (by omega), if_neg (by omega)]
    by_cases y : q = p
    · rw [if_pos ⟨rfl, y⟩, if_pos y, ← y, a4]
    · rw [if_neg (by omega), if_neg (by omega), if_neg y, a4]; omega
  · rw [fr 162 j (by unfold supC; omega), enterS_bi hk (i := 5) (by omega)]; exact h3 j q1 q2
  · obtain ⟨b1', b2⟩ := h4 x q1 q2
    refine ⟨?_, fun _ => ?_⟩
    · rw [enterS_pr z, ht]
      by_cases y : x = g
      · rw [if_pos ⟨rfl, y⟩, if_pos y]
      · rw [if_neg (by omega), if_neg y]
        by_cases w : x = outC σ k p
        · by_cases v : outC σ k p = -4
          · omega
          · rw [if_pos ⟨rfl, w⟩, if_neg v, if_pos ⟨w, v⟩]
        · rw [if_neg (by omega), if_neg (by omega), if_neg (by omega), if_neg (fun u => w u.1)]; exact b1'
    · rw [enterS_seq, ht, if_neg (by omega), if_neg (by omega), if_neg (by omega), if_neg (by omega)]
      unfold upf
      by_cases y : x = g
      · rw [if_pos y, y]; exact hs
      · rw [if_neg y]; exact b2 y
  · rw [enterS_10, ht, if_neg (by omega), if_neg (by omega), if_neg (by omega), if_neg (by omega)]; exact h35
  · rw [enterS_11, if_neg z, ht, if_neg (by omega), if_neg (by omega), if_neg (by omega), if_pos ⟨rfl, rfl⟩]; omega
theorem step_eq {F : Nat} (hF : 100 ≤ F) {σ τ : St} {k g r : Int} (hk : k = 7 ∨ k = 17 ∨ k = 33) (hr : 0 ≤ r ∧ r < 6) (hB : BdOK σ (bd k)) (hS : StOK σ k) (hL : Lk σ k τ r) (ha : 0 ≤ σ k 12 ∧ σ k 12 < 18) (hc : 0 ≤ σ k 10 ∧ σ k 10 < 9) (hg : 0 ≤ g ∧ g < σ (bd k) 6) (hn : σ (k + 3) g = -4) :
    ∃ p τ', gX7_comeBy F σ k g (63 + 12 * r) = some (p, enterS σ k g p) ∧ gX11_comes F τ g r = some (p, τ') ∧ BdOK (enterS σ k g p) (bd k) ∧ StOK (enterS σ k g p) k ∧ Lk (enterS σ k g p) k τ' r ∧ (∀ a b, ¬ supC a b → τ' a b = τ a b) ∧ (p = -4 ∨ 0 ≤ p ∧ p < σ (bd k) 5) ∧ (p ≠ -4 → (outC σ k p = -4 ∨ 0 ≤ outC σ k p ∧ outC σ k p < 9 ∧ outC σ k p ≠ g ∧ σ (k + 3) (outC σ k p) = p)) ∧ τ' 143 36 + σ k 11 = τ 143 36 + enterS σ k g p k 11 := by
  have hP := hB.1
  have hG := hB.2.1
  obtain ⟨hRel, c35, hRu, hcs⟩ := hL
  have t1 : ∀ a b, up (up τ 143 35 (τ 143 35 + 1)) 165 g (τ 143 35 + 1) a b = if a = 165 ∧ b = g then τ 143 35 + 1 else if a = 143 ∧ b = 35 then τ 143 35 + 1 else τ a b := fun a b => rfl
  have ed : gX11_comes F τ g r = gX11_comes_L26 F g r F (-4) 0 (up (up τ 143 35 (τ 143 35 + 1)) 165 g (τ 143 35 + 1)) := by
    unfold gX11_comes
    rw [w32_id (a := g) (by omega), gd_pos (by omega), up_self]
  generalize up (up τ 143 35 (τ 143 35 + 1)) 165 g (τ 143 35 + 1) = τ1 at t1 ed
  have tc : ∀ a b, ¬ (a = 165 ∧ b = g) → ¬ (a = 143 ∧ b = 35) → τ1 a b = τ a b := fun a b q1 q2 => by rw [t1, if_neg q1, if_neg q2]
  have tcl : ∀ a, a ≠ 165 → a ≠ 143 → τ1 a = τ a := fun a q1 q2 => by funext b; exact tc a b (by omega) (by omega)
  have rel1 : RelB σ k τ1 g := by
    obtain ⟨h1, h2, h3, h4⟩ := hRel
    refine ⟨?_, ?_, ?_, fun x q1 q2 => ?_⟩
    · rw [tc 143 26 (by omega) (by omega), tc 143 27 (by omega) (by omega)]; exact h1
    · rw [tcl 159 (by omega) (by omega), tcl 160 (by omega) (by omega), tcl 161 (by omega) (by omega), tcl 163 (by omega) (by omega)]; exact h2
    · rw [tcl 162 (by omega) (by omega)]; exact h3
    · rw [tcl 164 (by omega) (by omega)]
      refine ⟨(h4 x q1 q2).1, fun q3 => ?_⟩
      rw [tc 165 x (by omega) (by omega)]
      exact (h4 x q1 q2).2 (by omega)
  have mok : MOK τ1 := rel1.mok hB hS (fun x q1 q2 => by
    by_cases y : x = g
    · rw [t1, if_pos ⟨rfl, y⟩]; omega
    · rw [rel1.2.2.2 x q1 q2 |>.2 y]; exact (hS.1 x q1 q2).2.1)
  have ru1 : RuleOK τ1 r := hRu.frame hr (fun a b hs => tc a b (by unfold supR at hs; omega) (by unfold supR at hs; omega))
  have hcs1 : ∀ c, 63 + 12 * r ≤ c → c ≤ 68 + 12 * r → τ1 c = σ c := fun c q1 q2 => by rw [tcl c (by omega) (by omega)]; exact hcs c q1 q2
  have hch : pCh (canM τ1 g r) (passM τ1 g r) (ahdM τ1 g r) (σ (bd k) 5).toNat (-4) 0 = chC σ k g (63 + 12 * r) := rel_choice rel1 hB hS ⟨hg.1, by omega⟩ hn hcs1
  have e26 := comes_26 hF mok hr ru1 (g := g) ⟨hg.1, by omega⟩ (σ (bd k) 5).toNat F (-4) 0 (Or.inl rfl) (by omega) (by rw [rel1.1.1]; omega) (by omega)
  rw [hch] at e26
  have hcb := comeBy_eq hF hk hB hS (ruc_of hRu hcs) ha (g := g) ⟨hg.1, by omega⟩
  have hin := chC_in (g := g) (x := 63 + 12 * r) hB
  generalize chC σ k g (63 + 12 * r) = p at e26 hcb hin
  rw [e26] at ed
  by_cases z : p = -4
  · subst z
    rw [if_pos rfl] at ed
    refine ⟨-4, τ1, hcb, ed, enterS_bd hk hB, enterS_st hk hB hS hg hn hc (Or.inl rfl) (fun q => absurd rfl q) (fun q => absurd rfl q), ⟨⟨?_, ?_, ?_, fun x q1 q2 => ⟨?_, fun _ => ?_⟩⟩, ?_, ru1, fun c q1 q2 => ?_⟩, fun a b q => tc a b (by unfold supC at q; omega) (by unfold supC at q; omega), Or.inl rfl, fun q => absurd rfl q, ?_⟩
    · rw [enterS_bk hk]; exact rel1.1
    · intro q q1 q2
      rw [enterS_bi hk (i := 1) (by omega), enterS_bi hk (i := 2) (by omega), enterS_bi hk (i := 3) (by omega), enterS_paid q1, if_neg (by omega), Int.add_zero]
      exact rel1.2.1 q q1 q2
    · rw [enterS_bi hk (i := 5) (by omega)]; exact rel1.2.2.1
    · rw [enterS_no3]; exact (rel1.2.2.2 x q1 q2).1
    · rw [enterS_seq]
      unfold upf
      by_cases y : x = g
      · rw [if_pos y, t1, if_pos ⟨rfl, y⟩, c35]
      · rw [if_neg y]; exact (rel1.2.2.2 x q1 q2).2 y
    · rw [enterS_10, t1, if_neg (by omega), if_pos ⟨rfl, rfl⟩, c35]
    · rw [enterS_o (by omega)]; exact hcs1 c q1 q2
    · rw [enterS_11, if_pos rfl, tc 143 36 (by omega) (by omega)]; omega
  · have hp : 0 ≤ p ∧ p < σ (bd k) 5 := by omega
    rw [if_neg z] at ed
    obtain ⟨τ', d1, d2, d3, d4⟩ := takes_eq hF mok (g := g) (p := p) ⟨hg.1, by omega⟩ (by rw [rel1.1.1]; exact hp) (by rw [(rel1.2.2.2 g hg.1 (by omega)).1]; exact hn)
    rw [d1, Option.bind_some] at ed
    have eo := rel_out rel1 hB hS hp (show σ (k + 3) g ≠ p by omega)
    rw [eo] at d3 d4
    have ecn : cntN (τ1 164) p = cntN (σ (k + 3)) p := cntN_congr p (fun x q1 q2 => (rel1.2.2.2 x q1 q2).1)
    rw [ecn, (rel1.2.1 p hp.1 (by omega)).1] at d4
    obtain ⟨k1, k2, k3⟩ := took_rel (τ' := τ') hk hB hS rel1 (by rw [t1, if_pos ⟨rfl, rfl⟩, c35]) (by rw [t1, if_neg (by omega), if_pos ⟨rfl, rfl⟩, c35]) ⟨hg.1, by omega⟩ hn hp d2
    have d3' : outC σ k p = -4 ∨ 0 ≤ outC σ k p ∧ outC σ k p < 9 ∧ outC σ k p ≠ g ∧ σ (k + 3) (outC σ k p) = p := by
      rcases d3 with d3 | d3
      · exact Or.inl d3
      · exact Or.inr ⟨d3.1, d3.2.1, d3.2.2.1, by rw [← (rel1.2.2.2 _ d3.1 d3.2.1).1]; exact d3.2.2.2.1⟩
    refine ⟨p, τ', hcb, ed, enterS_bd hk hB, enterS_st hk hB hS hg hn hc (Or.inr hp) (fun _ => by rcases d3' with q | q; exact Or.inl q; exact Or.inr ⟨q.1, q.2.1, q.2.2.2⟩) (fun _ => d4), ⟨k1, k2.1, ru1.frame hr (fun a b hs => k3 a b (by unfold supR at hs; unfold supC; omega)), fun c q1 q2 => ?_⟩, fun a b q => ?_, Or.inr hp, fun _ => d3', by have := k2.2; rw [tc 143 36 (by omega) (by omega)] at this; exact this⟩
    · rw [enterS_o (by omega), ← hcs1 c q1 q2]; funext b; exact k3 c b (by unfold supC; omega)
    · rw [k3 a b q]; exact tc a b (by unfold supC at q; omega) (by unfold supC at q; omega)
