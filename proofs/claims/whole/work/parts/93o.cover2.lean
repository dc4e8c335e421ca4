-- PURE LAYER: cover
theorem op_cover {F n : Nat} (hF : 100 ≤ F) {σ : St} {v : Int} (hB : InvB n σ) (hv : w64 v = v) :
    ∃ r σ1 σ2, gX10_cover F σ v = some (r, σ1) ∧ gX11_cover F σ1 v = some (r, σ2) ∧ ∀ k j, k ≠ 62 → k ≠ 167 → σ2 k j = σ k j := by
  obtain ⟨⟨p1, p2, p3⟩, ⟨g1, g2, g3⟩, v1, ⟨c1, c2, c3, c4, c5⟩, b5, b6, b7, b8⟩ := id hB
  have vr := w64_rng v
  rw [hv] at vr
  have pw := powP_rng (m := (σ 1 5).toNat) (by omega)
  have mm : ∀ s : St, s 143 0 = σ 1 5 → gX11_cover F s v = (if 0 ≤ v ∧ v ≤ powP (σ 1 5).toNat - 1 then gX11_cover_L48 F v F 0 v 0 s else some ((-1), s)) := by
    intro s h1
    unfold gX11_cover
    rw [cover_5 F v s (by omega) (σ 1 5).toNat F 1 0 (by omega) (by omega) (by omega), Int.one_mul, gX11_in_eq s hv (by decide) (w64_id (by omega)), Option.bind_some, tv_if1]
  unfold gX10_cover gX10_readPrices
  rw [hv]
  by_cases h0 : v ≥ 0
  · obtain ⟨σ1, s1, s2⟩ := readPrices_eq F v (σ 1 5).toNat F v 0 σ (by omega) (by omega) (by omega) (by omega) (by omega)
    have q0 := (quoP_0 (σ 1 5).toNat v h0).1
    have u : ∀ k j, k ≠ 62 → σ1 k j = σ k j := fun k j q => by rw [s2, if_neg (by omega)]
    have uc : ∀ k, k ≠ 62 → σ1 k = σ k := fun k q => by funext j; exact u k j q
    rw [if_pos h0, s1, Option.bind_some]
    show ∃ r σ3 σ2, (if w32 (tv (quoP (σ 1 5).toNat v = 0)) ≠ 0 then gX10_cover_L15 F v F 0 0 σ1 else some (-1, σ1)) = some (r, σ3) ∧ _
    rw [tv_if1]
    by_cases h1 : v ≤ powP (σ 1 5).toNat - 1
    · rw [if_pos (q0.mpr h1)]
      have w15 : σ1 1 5 = σ 1 5 := u 1 5 (by omega)
      have w16 : σ1 1 6 = σ 1 6 := u 1 6 (by omega)
      have wp : ∀ j, 0 ≤ j → j < σ 1 5 → σ1 62 j = prcP j.toNat v := fun j y1 y2 => by rw [s2, if_pos (by omega), show j - 0 = j by omega]
      have hq : ∀ j, 0 ≤ j → j < σ1 1 5 → 0 ≤ σ1 62 j ∧ σ1 62 j ≤ 99 := fun j y1 y2 => by rw [wp j y1 (by omega)]; exact prcP_rng _ _
      have hw : ∀ j, 0 ≤ j → j < 54 → 0 ≤ σ1 6 j ∧ σ1 6 j ≤ 99 := fun j y1 y2 => by rw [uc 6 (by omega)]; exact hB.worth j y1 y2
      have x := cover_15 F v σ1 (by omega) (σ 1 5).toNat F 0 0 (by omega) (by omega) (by omega)
      rw [cover_57 F hF v σ1 (by omega) (by omega) hw hq (σ 1 6).toNat F _ 0 (by omega) (by omega) (by omega)] at x
      obtain ⟨σ2, m1, m2⟩ := cover_48 F v (σ 1 5).toNat F 0 v 0 σ1 (by omega) (by omega) (by rw [u 143 0 (by omega)]; omega) (by rw [u 143 0 (by omega)]; omega) (by omega)
      have y0 : σ2 143 0 = σ 1 5 := by rw [m2, if_neg (by omega), u 143 0 (by omega), p3]
      have y4 : σ2 143 4 = σ 1 6 := by rw [m2, if_neg (by omega), u 143 4 (by omega), g3]
      have yc : ∀ k, k ≠ 62 → k ≠ 167 → σ2 k = σ k := fun k q1 q2 => by funext j; rw [m2, if_neg (by omega), u k j q1]
      have yp : ∀ j, 0 ≤ j → j < σ 1 5 → σ2 167 j = prcP j.toNat v := fun j z1 z2 => by rw [m2, if_pos (by omega), show j - 0 = j by omega]
      rw [cover_108 F hF v σ2 (by omega) (by omega) (fun j z1 z2 => by rw [yc 148 (by omega) (by omega), c5]; exact hB.worth j z1 z2) (fun j z1 z2 => by rw [yp j z1 (by omega)]; exact prcP_rng _ _) (σ 1 6).toNat F _ 0 (by omega) (by omega) (by omega)] at m1
      have e1 : sumN (fun p => σ1 2 p * σ1 62 p) (σ 1 5).toNat 0 = sumN (fun j => σ1 144 j * prcP (j - 0).toNat v) (σ 1 5).toNat 0 := sumN_congr _ _ (fun j z1 z2 => by
        show σ1 2 j * σ1 62 j = σ1 144 j * prcP (j - 0).toNat v
        rw [uc 2 (by omega), uc 144 (by omega), c1, wp j z1 (by omega), show j - 0 = j by omega])
      have e2 : sumN (fun g => gmx (σ1 6) (σ1 62) g (σ1 1 5).toNat 0 0) (σ 1 6).toNat 0 = sumN (fun g => gmx (σ2 148) (σ2 167) g (σ2 143 0).toNat 0 0) (σ 1 6).toNat 0 := sumN_congr _ _ (fun g z1 z2 => by
        show gmx (σ1 6) (σ1 62) g (σ1 1 5).toNat 0 0 = gmx (σ2 148) (σ2 167) g (σ2 143 0).toNat 0 0
        rw [w15, y0]
        refine gmx_congr _ _ _ (fun j z3 z4 => ⟨?_, ?_⟩)
        · rw [uc 6 (by omega), yc 148 (by omega) (by omega), c5]
        · rw [wp j z3 (by omega), yp j z3 (by omega)])
      refine ⟨_, σ1, σ2, x, ?_, fun k j z1 z2 => by rw [m2, if_neg (by omega), u k j z1]⟩
      rw [mm σ1 (by rw [u 143 0 (by omega), p3]), if_pos ⟨h0, h1⟩, m1, e1, e2]
    · rw [if_neg (fun z => h1 (q0.mp z))]
      refine ⟨-1, σ1, σ1, rfl, ?_, fun k j z1 z2 => u k j z1⟩
      rw [mm σ1 (by rw [u 143 0 (by omega), p3]), if_neg (by omega)]
  · rw [if_neg h0, Option.bind_some]
    refine ⟨-1, σ, σ, ?_, ?_, fun k j z1 z2 => rfl⟩
    · show (if w32 0 ≠ 0 then _ else some (-1, σ)) = some (-1, σ)
      rw [w32_id (a := 0) (by omega), if_neg (by omega)]
    · rw [mm σ p3, if_neg (by omega)]
