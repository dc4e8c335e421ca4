-- PURE LAYER: meanOfRanks
def TrOK (σ : St) : Prop := ∀ j, 0 ≤ j → j < 54 → 0 ≤ σ 32 j ∧ σ 32 j ≤ 99
theorem idL_at {P b : Nat} (h : b < P) : lF (idL P) b = b := by
  unfold lF idL
  rw [Int.toNat_natCast, List.getD_eq_getElem?_getD, List.getElem?_map, List.getElem?_range h]
  rfl
theorem idL_ok (P : Nat) : LOK P (idL P) := ⟨by unfold idL; simp, fun b hb => by rw [idL_at hb]; omega⟩
theorem rho_id {σ : St} {p : Int} : rhoL σ (idL (σ 1 5).toNat) p = σ 3 p := by
  unfold rhoL
  by_cases z : 0 ≤ p ∧ p < σ 1 5
  · rw [if_pos z]
    have := idL_at (P := (σ 1 5).toNat) (b := p.toNat) (by omega)
    rw [Int.toNat_of_nonneg z.1] at this
    rw [this]
  · rw [if_neg z]
theorem loaded_ex {F n : Nat} (hF : 100 ≤ F) {σ : St} {r : Int} (hB : InvB n σ) (hR : InvR σ) (hr : 0 ≤ r ∧ r < σ 0 12) : ∃ τ, Loaded σ r τ := by
  obtain ⟨τ, -, h2, h3, h4⟩ := ready_ex hF hB hR hr
  exact ⟨τ, h2, h3, h4⟩
/-- the class's mean over ranks is worked out anew -/
theorem rkNew {F n : Nat} (hF : 1000 ≤ F) {σ : St} {r : Int} (hB : InvB n σ) (hR : InvR σ) (hr : 0 ≤ r ∧ r < σ 0 12) {τc : St} (hl : Loaded σ r τc) :
    ∃ s5 s6 v σ', gX2_start σ (70 + 12 * r) (σ 1 7) = some s5 ∧ gX0_copyOf s5 27 1 = some s6 ∧ gX5_asksRank F s6 (63 + 12 * r) = some v ∧ s6 1 5 = σ 1 5 ∧ (v = 0 ∨ v = 1) ∧ gX10_overRanks F 8 s6 33 (63 + 12 * r) (70 + 12 * r) (if v = 0 then σ 1 5 else 0) = some σ' ∧ ((σ' (70 + 12 * r) 1 = rsum F σ r τc ∧ σ' (70 + 12 * r) 2 = rway σ) ∨ (NoRk σ (63 + 12 * r) ∧ σ' (70 + 12 * r) 1 = VR F r τc (rhoL σ (idL (σ 1 5).toNat)) ∧ σ' (70 + 12 * r) 2 = 1)) ∧ σ' (70 + 12 * r) 0 = σ 1 7 ∧ TrOK σ' ∧ ∀ a b, ¬ (27 ≤ a ∧ a ≤ 42) → ¬ (a = 70 + 12 * r ∧ 0 ≤ b ∧ b ≤ 4) → σ' a b = σ a b := by
  obtain ⟨⟨p1, p2, p3⟩, ⟨g1, g2, g3⟩, v1, -⟩ := id hB
  have hr6 : 0 ≤ r ∧ r < 6 := by have := hR.1; omega
  have hP6 : (σ 1 5).toNat ≤ 6 := by omega
  have hPe : σ 1 5 = ((σ 1 5).toNat : Int) := by omega
  have hru := (hR.2.2 r hr.1 hr.2).cls
  have t : ∀ a b, up (up (up (up (up σ (70 + 12 * r) 0 (σ 1 7)) (70 + 12 * r) 1 0) (70 + 12 * r) 2 0) (70 + 12 * r) 3 0) (70 + 12 * r) 4 0 a b = if a = 70 + 12 * r ∧ b = 4 then 0 else if a = 70 + 12 * r ∧ b = 3 then 0 else if a = 70 + 12 * r ∧ b = 2 then 0 else if a = 70 + 12 * r ∧ b = 1 then 0 else if a = 70 + 12 * r ∧ b = 0 then σ 1 7 else σ a b := fun a b => rfl
  have e5 : gX2_start σ (70 + 12 * r) (σ 1 7) = some (up (up (up (up (up σ (70 + 12 * r) 0 (σ 1 7)) (70 + 12 * r) 1 0) (70 + 12 * r) 2 0) (70 + 12 * r) 3 0) (70 + 12 * r) 4 0) := rfl
  generalize up (up (up (up (up σ (70 + 12 * r) 0 (σ 1 7)) (70 + 12 * r) 1 0) (70 + 12 * r) 2 0) (70 + 12 * r) 3 0) (70 + 12 * r) 4 0 = s5 at t e5
  have so : ∀ a, a ≠ 70 + 12 * r → s5 a = σ a := fun a z => by funext b; rw [t, if_neg (by omega), if_neg (by omega), if_neg (by omega), if_neg (by omega), if_neg (by omega)]
  obtain ⟨s6, c1, c2, c3, c4, c5⟩ := copyOf_eq (σ := s5)
  have so6 : ∀ a, ¬ (27 ≤ a ∧ a ≤ 32) → a ≠ 70 + 12 * r → s6 a = σ a := fun a q1 q2 => by rw [c5 a q1, so a q2]
  have ru6 : RuC s6 (63 + 12 * r) := by
    have s := hru
    unfold RuC at s ⊢
    rw [so6 (63 + 12 * r) (by omega) (by omega), so6 (63 + 12 * r + 1) (by omega) (by omega), so6 (63 + 12 * r + 2) (by omega) (by omega), so6 (63 + 12 * r + 3) (by omega) (by omega), so6 (63 + 12 * r + 4) (by omega) (by omega), so6 (63 + 12 * r + 5) (by omega) (by omega)]
    exact s
  have h9 := ru6.2.2.1
  obtain ⟨v, a1, a2⟩ := asks_2 (F := F) (by omega) ru6 (s6 (63 + 12 * r) 9).toNat F 0 (by omega) (by omega) (by omega)
  rw [so 1 (by omega)] at c2
  have tb : TB σ s6 (rhoL σ (idL (σ 1 5).toNat)) := by
    refine ⟨c2, fun p q1 q2 => ?_, fun j q1 q2 => by rw [c4 j q1 q2, so 6 (by omega)]⟩
    rw [rho_id, (c3 p q1 q2).1, (c3 p q1 q2).2.1, (c3 p q1 q2).2.2, so 2 (by omega), so 3 (by omega), so 4 (by omega)]
    exact ⟨rfl, rfl, rfl⟩
  have rcs : ∀ c, 63 + 12 * r ≤ c → c ≤ 68 + 12 * r → s6 c = σ c := fun c q1 q2 => so6 c (by omega) (by omega)
  have m6 : ∀ b, s6 (70 + 12 * r) b = s5 (70 + 12 * r) b := fun b => by rw [c5 (70 + 12 * r) (by omega)]
  have mf : MF s6 (70 + 12 * r) = M0 := by
    unfold MF M0
    rw [m6, m6, m6, m6, t, t, t, t, if_neg (by omega), if_neg (by omega), if_neg (by omega), if_pos (by omega), if_neg (by omega), if_neg (by omega), if_pos (by omega), if_neg (by omega), if_pos (by omega), if_pos (by omega)]
  have pm := perms hP6
  obtain ⟨-, -, o3, -⟩ := orders hP6
  have ln := pm.length_eq
  have mr : ∀ N : Nat, N ≤ 720 → MR (MF s6 (70 + 12 * r)) N := fun N hN => by
    rw [mf]
    exact ⟨⟨by decide, by decide⟩, ⟨by decide, by show (0 : Int) + (N : Int) ≤ 5000; omega⟩, ⟨by decide, by decide⟩, ⟨by decide, by decide⟩⟩
  have fin : ∀ (R : List (List Int)) (σ' : St), TB σ σ' (rhoL σ (idL (σ 1 5).toNat)) → OvS F r σ τc s6 R σ' → σ' (70 + 12 * r) 1 = suml (R.map fun L => VR F r τc (rhoL σ L)) ∧ σ' (70 + 12 * r) 2 = R.length ∧ σ' (70 + 12 * r) 0 = σ 1 7 ∧ TrOK σ' ∧ ∀ a b, ¬ (27 ≤ a ∧ a ≤ 42) → ¬ (a = 70 + 12 * r ∧ 0 ≤ b ∧ b ≤ 4) → σ' a b = σ a b := by
    intro R σ' h1 h2
    obtain ⟨x1, x2, x3⟩ := h2
    rw [mf] at x1
    have y1 : (MF σ' (70 + 12 * r)).1 = suml (R.map fun L => VR F r τc (rhoL σ L)) := by rw [x1, fold_sum]; exact Int.zero_add _
    have y2 : (MF σ' (70 + 12 * r)).2.1 = R.length := by rw [x1, fold_ways, List.length_map]; exact Int.zero_add _
    refine ⟨y1, y2, ?_, fun j q1 q2 => ?_, fun a b q1 q2 => ?_⟩
    · rw [x3 _ 0 (by omega) (by omega) (by omega), m6, t, if_neg (by omega), if_neg (by omega), if_neg (by omega), if_neg (by omega), if_pos (by omega)]
    · rw [h1.2.2 j q1 q2]; exact hB.worth j q1 q2
    · rw [x3 a b (by omega) (by omega) (by omega)]
      by_cases z : a = 70 + 12 * r
      · rw [z, m6, t, if_neg (by omega), if_neg (by omega), if_neg (by omega), if_neg (by omega), if_neg (by omega)]
      · rw [so6 a (by omega) z]
  have s15 : s6 1 5 = σ 1 5 := by rw [so6 1 (by omega) (by omega)]
  rcases a2 with a2 | a2
  · obtain ⟨σ', d1, d2, d3⟩ := overR_eq (F := F) (by omega) hr6 hPe hP6 hB.bd1 hl (σ 1 5).toNat 8 0 (idL (σ 1 5).toNat) s6 (by omega) (idL_ok _) tb rcs (mr _ (by omega)) (by omega)
    obtain ⟨y1, y2, y3, y4, y5⟩ := fin _ σ' d2 d3
    refine ⟨s5, s6, v, σ', e5, c1, a1, s15, Or.inr a2, ?_, Or.inl ⟨?_, ?_⟩, y3, y4, y5⟩
    · rw [if_neg (by omega)]; exact d1
    · rw [y1]; exact suml_perm (pm.map _)
    · rw [y2, ln]; rfl
  · obtain ⟨σ', d1, d2, d3⟩ := overR_eq (F := F) (by omega) hr6 hPe hP6 hB.bd1 hl 0 8 (σ 1 5).toNat (idL (σ 1 5).toNat) s6 (by omega) (idL_ok _) tb rcs (mr 1 (by omega)) (by omega)
    obtain ⟨y1, y2, y3, y4, y5⟩ := fin _ σ' d2 d3
    refine ⟨s5, s6, v, σ', e5, c1, a1, s15, Or.inl a2.1, ?_, Or.inr ⟨?_, ?_, ?_⟩, y3, y4, y5⟩
    · rw [if_pos a2.1, hPe]; exact d1
    · have w := a2.2
      rw [so6 (63 + 12 * r) (by omega) (by omega), so6 (63 + 12 * r + 1) (by omega) (by omega), so6 (63 + 12 * r + 3) (by omega) (by omega)] at w
      exact w
    · rw [y1]; exact Int.add_zero _
    · rw [y2]; rfl
/-- the reference's answer, from a store that has board and rules of σ -/
theorem rkRef {F n : Nat} (hF : 1000 ≤ F) {σ s : St} {r x2 : Int} (hB : InvB n σ) (hR : InvR σ) (hr : 0 ≤ r ∧ r < σ 0 12) {τc : St} (hl : Loaded σ r τc) (hs : ∀ a b, supB a b ∨ supR a b → s a b = σ a b) :
    ∃ τ', ((gX11_loadMain F s).bind fun r3 => (gX11_firstOrder F r3).bind fun r4 => gX11_meanOfRanks_L38 F r x2 F 0 0 1 r4) = ((gX11_lowest F τ' (rsum F σ r τc) (rway σ) x2).bind fun r1 => some (r1, τ')) ∧ (0 ≤ rsum F σ r τc ∧ rsum F σ r τc ≤ 6000 * rway σ) ∧ (0 < rway σ ∧ rway σ ≤ 720) ∧ (NoRk σ (63 + 12 * r) → rsum F σ r τc = rway σ * VR F r τc (rhoL σ (idL (σ 1 5).toNat)) ∧ 0 ≤ VR F r τc (rhoL σ (idL (σ 1 5).toNat)) ∧ VR F r τc (rhoL σ (idL (σ 1 5).toNat)) ≤ 6000) ∧ (∀ j, 0 ≤ j → j < 54 → τ' 162 j = σ 6 j) ∧ ∀ a b, ¬ (a = 143 ∧ (b = 26 ∨ b = 27 ∨ b = 35 ∨ b = 36)) → ¬ (159 ≤ a ∧ a ≤ 166) → τ' a b = s a b := by
  obtain ⟨⟨p1, p2, p3⟩, ⟨g1, g2, g3⟩, v1, ⟨c1, c2, c3, c4, c5⟩, -⟩ := id hB
  have hr6 : 0 ≤ r ∧ r < 6 := by have := hR.1; omega
  have hP6 : (σ 1 5).toNat ≤ 6 := by omega
  have hPe : σ 1 5 = ((σ 1 5).toNat : Int) := by omega
  obtain ⟨τ1, l1, l2, l3, l4⟩ := hB.load (F := F) (by omega) (fun a b q => hs a b (Or.inl q))
  obtain ⟨τ2, f1, f2⟩ := first_2 (F := F) 9 F 0 τ1 (by omega) (by omega) (by omega)
  have to : ∀ a b, a ≠ 166 → τ2 a b = τ1 a b := fun a b q => by rw [f2, if_neg (by omega)]
  have rc : ∀ a b, supR a b → τ2 a b = σ a b := fun a b q => by
    rw [to a b (by unfold supR at q; omega), l4 a b (by unfold supR at q; omega) (by unfold supR at q; omega)]
    exact hs a b (Or.inr q)
  have ld : LdR σ r τ2 := by
    refine ⟨⟨by rw [to 143 26 (by omega)]; exact l2.1.1, by rw [to 143 27 (by omega)]; exact l2.1.2, by rw [to 143 0 (by omega), l4 143 0 (by omega) (by omega), hs 143 0 (by unfold supB; omega), p3]⟩, fun p q1 q2 => ?_, fun j q1 q2 => by rw [to 162 j (by omega)]; exact l2.2.2 j q1 q2, (hR.2.2 r hr.1 hr.2).frame hr6 rc, fun c q1 q2 => by funext b; exact rc c b (by unfold supR; omega), fun b => by rw [to 145 b (by omega), l4 145 b (by omega) (by omega), hs 145 b (by unfold supB; omega), c2]⟩
    obtain ⟨x1, x2', x3⟩ := l2.2.1 p q1 q2
    rw [to 159 p (by omega), to 160 p (by omega), to 161 p (by omega)]
    exact ⟨x1, x3, fun _ => x2'⟩
  have e166 : ∀ b, 0 ≤ b → b < 9 → τ2 166 b = b := fun b q1 q2 => by rw [f2, if_pos (by omega)]
  obtain ⟨o1, o2, o3, L, R, o4, o5⟩ := orders hP6
  have len : R.length + 1 ≤ 720 := by rw [o4] at o3; exact o3
  have o1' := o1
  have o2' := o2
  rw [o4] at o1' o2'
  obtain ⟨τ', d1, d2, d3⟩ := rks_38 (F := F) hF (x2 := x2) hr6 hB.bd1 hl hPe hP6 R L F τ2 0 0 o1' o2' ld (fun b q1 q2 => by rw [e166 b q1 q2]; omega) (fun j hj => by rw [e166 j (by omega) (by omega), o5 j hj]) (by omega)
  have es : rsum F σ r τc = suml ((L :: R).map fun L => VR F r τc (rhoL σ L)) := by unfold rsum; rw [o4]
  have ew : rway σ = ((L :: R).length : Int) := by unfold rway; rw [o4]
  have bnd : ∀ (S : List (List Int)), (∀ X ∈ S, 0 ≤ VR F r τc (rhoL σ X) ∧ VR F r τc (rhoL σ X) ≤ 6000) → 0 ≤ suml (S.map fun L => VR F r τc (rhoL σ L)) ∧ suml (S.map fun L => VR F r τc (rhoL σ L)) ≤ 6000 * (S.length : Int) := by
    intro S
    induction S with
    | nil => intro _; exact ⟨Int.le_refl 0, by show (0 : Int) ≤ 6000 * ((0 : Nat) : Int); decide⟩
    | cons X S ih =>
      intro h
      have i := ih (fun Y hY => h Y (List.mem_cons_of_mem _ hY))
      have x := h X (by simp)
      show 0 ≤ VR F r τc (rhoL σ X) + suml (S.map fun L => VR F r τc (rhoL σ L)) ∧ VR F r τc (rhoL σ X) + suml (S.map fun L => VR F r τc (rhoL σ L)) ≤ 6000 * ((S.length + 1 : Nat) : Int)
      omega
  have hw : 0 < rway σ ∧ rway σ ≤ 720 := by
    rw [ew]
    have : (L :: R).length = R.length + 1 := rfl
    omega
  refine ⟨τ', ?_, by rw [es, ew]; exact bnd _ d2, hw, fun hn => ?_, fun j q1 q2 => by rw [d3 162 j (by unfold supC; omega) (by omega) (by omega), to 162 j (by omega)]; exact l2.2.2 j q1 q2, fun a b q1 q2 => ?_⟩
  · unfold gX11_firstOrder
    rw [l1, Option.bind_some, f1, Option.bind_some, d1, es, ew, Int.zero_add, Int.zero_add]
  · have lokd : LOK (σ 1 5).toNat L := by
      obtain ⟨w1, w2, w3⟩ := o2' L (by simp)
      refine ⟨w1, fun b hb => ?_⟩
      rw [o5 b hb]; omega
    have all : ∀ X ∈ L :: R, VR F r τc (rhoL σ X) = VR F r τc (rhoL σ (idL (σ 1 5).toNat)) := fun X hX => by
      obtain ⟨w1, w2, w3⟩ := o2' X hX
      refine VR_no (by omega) hr6 hB.bd1 (LOK.rk (P := (σ 1 5).toNat) ⟨w1, fun b hb => ?_⟩ hB.bd1 hPe) ((idL_ok _).rk hB.bd1 hPe) hl hn
      unfold lF
      rw [Int.toNat_natCast]
      have hb' : b < X.length := by rw [w1]; exact hb
      rw [List.getD_eq_getElem?_getD, List.getElem?_eq_getElem hb']
      exact w2 _ (List.getElem_mem hb')
    have mul : ∀ (S : List (List Int)), (∀ X ∈ S, VR F r τc (rhoL σ X) = VR F r τc (rhoL σ (idL (σ 1 5).toNat))) → suml (S.map fun L => VR F r τc (rhoL σ L)) = (S.length : Int) * VR F r τc (rhoL σ (idL (σ 1 5).toNat)) := by
      intro S
      induction S with
      | nil => intro _; show (0 : Int) = ((0 : Nat) : Int) * _; simp
      | cons X S ih =>
        intro h
        have i := ih (fun Y hY => h Y (List.mem_cons_of_mem _ hY))
        have x := h X (by simp)
        show VR F r τc (rhoL σ X) + suml (S.map fun L => VR F r τc (rhoL σ L)) = ((S.length + 1 : Nat) : Int) * _
        rw [i, x, show ((S.length + 1 : Nat) : Int) = (S.length : Int) + 1 by omega, Int.add_mul]
        omega
    refine ⟨by rw [es, ew]; exact mul _ all, ?_⟩
    rw [← all L (by simp)]
    exact d2 L (by simp)
  · rw [d3 a b (by unfold supC; omega) (by omega) (by omega), to a b (by omega), l4 a b q1 (by omega)]
