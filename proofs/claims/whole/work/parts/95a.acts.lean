-- PURE LAYER: an act more, an act less
theorem LVal.congr {P Gn : Int} {room budget pair seq paid pair' seq' paid' : Int → Int} {cnt i : Int} (h : LVal P Gn room budget pair seq paid cnt i) (h1 : ∀ g, 0 ≤ g → g < 9 → pair' g = pair g ∧ seq' g = seq g) (h2 : ∀ p, 0 ≤ p → p < 6 → paid' p = paid p) : LVal P Gn room budget pair' seq' paid' cnt i := by
  obtain ⟨a1, a2, a3, a4⟩ := h
  have ec : ∀ p, cntN pair' p = cntN pair p := fun p => cntN_congr p (fun g q1 q2 => (h1 g q1 q2).1)
  refine ⟨fun g q1 q2 => ?_, ?_, fun p q1 q2 => ?_, ?_⟩
  · rw [(h1 g q1 q2).1, (h1 g q1 q2).2]; exact a1 g q1 q2
  · rw [a2]
    exact (sumN_congr 9 0 (fun g q1 q2 => by rw [(h1 g q1 (by omega)).2])).symm
  · rw [h2 p q1 q2, ec]; exact a3 p q1 q2
  · have : wgtN pair' seq' = wgtN pair seq := sumN_congr 9 0 (fun g q1 q2 => by rw [(h1 g q1 (by omega)).1, (h1 g q1 (by omega)).2])
    rw [this]; exact a4
theorem LStep.congr {pair seq paid pair' seq' paid' pairA seqA paidA pairA' seqA' paidA' : Int → Int} {cnt cnt' g p pays out goes : Int} (h : LStep pair seq paid cnt pair' seq' paid' cnt' g p pays out goes) (h1 : ∀ g, 0 ≤ g → g < 9 → pairA g = pair g ∧ seqA g = seq g) (h2 : ∀ p, 0 ≤ p → p < 6 → paidA p = paid p) (h3 : ∀ g, 0 ≤ g → g < 9 → pairA' g = pair' g ∧ seqA' g = seq' g) (h4 : ∀ p, 0 ≤ p → p < 6 → paidA' p = paid' p) : LStep pairA seqA paidA cnt pairA' seqA' paidA' cnt' g p pays out goes := by
  obtain ⟨hg, h⟩ := h
  refine ⟨hg, ?_⟩
  have eg := h1 g hg.1 hg.2
  rcases h with ⟨k1, k2, k3, k4, k5, k6, k7, k8⟩ | ⟨k1, k2, k3, k4, k5, k6⟩
  · left
    exact ⟨k1, k2, k3, by rw [eg.1]; exact k4, fun x q1 q2 => by rw [(h3 x q1 q2).1, (h1 x q1 q2).1]; exact k5 x q1 q2, fun x q1 q2 => by rw [(h3 x q1 q2).2, (h1 x q1 q2).2]; exact k6 x q1 q2, fun q q1 q2 => by rw [h4 q q1 q2, h2 q q1 q2]; exact k7 q q1 q2, k8⟩
  · right
    refine ⟨k1, by rw [eg.1]; exact k2, by rw [eg.2]; exact k3, k4, fun x q1 q2 => by rw [(h3 x q1 q2).2, (h1 x q1 q2).2]; exact k5 x q1 q2, ?_⟩
    rcases k6 with ⟨l1, l2, l3⟩ | ⟨l1, l2, l3, l4, l5⟩
    · exact Or.inl ⟨l1, fun x q1 q2 => by rw [(h3 x q1 q2).1, (h1 x q1 q2).1]; exact l2 x q1 q2, fun q q1 q2 => by rw [h4 q q1 q2, h2 q q1 q2]; exact l3 q q1 q2⟩
    · refine Or.inr ⟨l1, l2, ?_, fun x q1 q2 => by rw [(h3 x q1 q2).1, (h1 x q1 q2).1]; exact l4 x q1 q2, fun q q1 q2 => by rw [h4 q q1 q2, h2 q q1 q2]; exact l5 q q1 q2⟩
      rcases l3 with l3 | l3
      · exact Or.inl l3
      · exact Or.inr ⟨l3.1, l3.2.1, l3.2.2.1, by rw [(h1 out l3.1 l3.2.1).1]; exact l3.2.2.2⟩
/-- what a record writes down -/
def recF (σ : St) (j : Int) : Int := if j < 9 then σ 173 j else if j < 18 then σ 174 (j - 9) else if j < 27 then σ 175 (j - 18) else if j < 33 then σ 176 (j - 27) else if j = 33 then σ 7 10 else σ 1 6
theorem lev_up {σ : St} {i : Int} (h : i < σ 7 12) : (∀ g, lPair σ i g = if g < kp σ i 34 then kp σ i (9 + g) else -4) ∧ (∀ g, lSeq σ i g = if g < kp σ i 34 then kp σ i (18 + g) else 0) ∧ (∀ p, lPaid σ i p = kp σ i (27 + p)) ∧ lCnt σ i = kp σ i 33 :=
  ⟨fun g => if_pos h, fun g => if_pos h, fun p => if_pos h, if_pos h⟩
theorem lev_cur {σ : St} {i : Int} (h : ¬ i < σ 7 12) : lPair σ i = σ 10 ∧ lSeq σ i = σ 11 ∧ lPaid σ i = σ 9 ∧ lCnt σ i = σ 7 10 :=
  ⟨by funext g; exact if_neg h, by funext g; exact if_neg h, by funext g; exact if_neg h, if_neg h⟩
theorem InvM.push {σ σ2 : St} {g p pays out goes : Int} (h : InvM σ) (hG : 0 ≤ σ 1 6 ∧ σ 1 6 ≤ 9) (hgG : g < σ 1 6) (b5 : σ2 1 5 = σ 1 5) (b6 : σ2 1 6 = σ 1 6) (b2 : σ2 2 = σ 2) (b4 : σ2 4 = σ 4)
    (a12 : σ2 7 12 = σ 7 12 + 1) (a54 : σ2 143 54 = σ 7 12 + 1) (a53 : σ2 143 53 = σ2 7 10)
    (cg : ∀ g, 0 ≤ g → g < σ 1 6 → σ2 173 g = (if 0 < σ2 11 g then 1 else 0) ∧ σ2 174 g = σ2 10 g ∧ σ2 175 g = σ2 11 g)
    (cp : ∀ p, 0 ≤ p → p < 6 → σ2 176 p = σ2 9 p ∧ σ2 8 p = cntN (σ2 10) p)
    (kr : ∀ j, 0 ≤ j → j ≤ 34 → σ2 177 (40 * σ 7 12 + j) = recF σ j) (ko : ∀ j, 0 ≤ j → j < 40 * σ 7 12 → σ2 177 j = σ 177 j)
    (lg : σ2 12 (σ 7 12) = g ∧ σ2 13 (σ 7 12) = p ∧ σ2 14 (σ 7 12) = pays ∧ σ2 15 (σ 7 12) = out ∧ σ2 16 (σ 7 12) = goes)
    (lo : ∀ c, 12 ≤ c → c ≤ 16 → ∀ i, 0 ≤ i → i < σ 7 12 → σ2 c i = σ c i)
    (hv : LVal (σ 1 5) (σ 1 6) (σ 2) (σ 4) (σ2 10) (σ2 11) (σ2 9) (σ2 7 10) (σ 7 12 + 1))
    (hs : LStep (σ 10) (σ 11) (σ 9) (σ 7 10) (σ2 10) (σ2 11) (σ2 9) (σ2 7 10) g p pays out goes) : InvM σ2 := by
  have hcur := h.cur
  obtain ⟨⟨m1, m2, m3⟩, m4, m5, m6, m7, m8, m9⟩ := id h
  have kA : ∀ j, 0 ≤ j → j ≤ 34 → kp σ2 (σ 7 12) j = recF σ j := kr
  have kB : ∀ i j, 0 ≤ i → i < σ 7 12 → 0 ≤ j → j ≤ 34 → kp σ2 i j = kp σ i j := fun i j q1 q2 q3 q4 => ko _ (by omega) (by omega)
  have r33 : recF σ 33 = σ 7 10 := by unfold recF; rw [if_neg (by omega), if_neg (by omega), if_neg (by omega), if_neg (by omega), if_pos rfl]
  have r34 : recF σ 34 = σ 1 6 := by unfold recF; rw [if_neg (by omega), if_neg (by omega), if_neg (by omega), if_neg (by omega), if_neg (by omega)]
  have rpr : ∀ x, 0 ≤ x → x < 9 → recF σ (9 + x) = σ 174 x := fun x q1 q2 => by unfold recF; rw [if_neg (by omega), if_pos (by omega), show 9 + x - 9 = x by omega]
  have rsq : ∀ x, 0 ≤ x → x < 9 → recF σ (18 + x) = σ 175 x := fun x q1 q2 => by unfold recF; rw [if_neg (by omega), if_neg (by omega), if_pos (by omega), show 18 + x - 18 = x by omega]
  have rpd : ∀ x, 0 ≤ x → x < 6 → recF σ (27 + x) = σ 176 x := fun x q1 q2 => by unfold recF; rw [if_neg (by omega), if_neg (by omega), if_neg (by omega), if_pos (by omega), show 27 + x - 27 = x by omega]
  have rcm : ∀ x, 0 ≤ x → x < 9 → recF σ x = σ 173 x := fun x q1 q2 => by unfold recF; rw [if_pos (by omega)]
  have E : ∀ i, 0 ≤ i → i ≤ σ 7 12 → (∀ x, 0 ≤ x → x < 9 → lPair σ2 i x = lPair σ i x ∧ lSeq σ2 i x = lSeq σ i x) ∧ (∀ q, 0 ≤ q → q < 6 → lPaid σ2 i q = lPaid σ i q) ∧ lCnt σ2 i = lCnt σ i := by
    intro i q1 q2
    obtain ⟨u1, u2, u3, u4⟩ := lev_up (σ := σ2) (i := i) (by omega)
    by_cases z : i = σ 7 12
    · obtain ⟨v1, v2, v3, v4⟩ := lev_cur (σ := σ) (i := i) (by omega)
      rw [v1, v2, v3, v4, u4]
      rw [z] at u1 u2 u3 ⊢
      refine ⟨fun x y1 y2 => ?_, fun q y1 y2 => ?_, by rw [kA 33 (by omega) (by omega), r33]⟩
      · have c := hcur.1 x y1 y2
        rw [u1, u2, kA 34 (by omega) (by omega), kA (9 + x) (by omega) (by omega), kA (18 + x) (by omega) (by omega), r34, rpr x y1 y2, rsq x y1 y2]
        by_cases w : x < σ 1 6
        · rw [if_pos w, if_pos w]; exact (m5 x y1 w).2
        · rw [if_neg w, if_neg w]
          have := c.2.2.2 (by omega)
          exact ⟨this.1.symm, this.2.symm⟩
      · rw [u3, kA (27 + q) (by omega) (by omega), rpd q y1 y2]; exact (m6 q y1 y2).1
    · obtain ⟨v1, v2, v3, v4⟩ := lev_up (σ := σ) (i := i) (by omega)
      refine ⟨fun x y1 y2 => ?_, fun q y1 y2 => ?_, ?_⟩
      · rw [u1, u2, v1, v2, kB i 34 q1 (by omega) (by omega) (by omega), kB i (9 + x) q1 (by omega) (by omega) (by omega), kB i (18 + x) q1 (by omega) (by omega) (by omega)]
        exact ⟨rfl, rfl⟩
      · rw [u3, v3, kB i (27 + q) q1 (by omega) (by omega) (by omega)]
      · rw [u4, v4, kB i 33 q1 (by omega) (by omega) (by omega)]
  obtain ⟨w1, w2, w3, w4⟩ := lev_cur (σ := σ2) (i := σ 7 12 + 1) (by omega)
  have wr : wgtN (σ2 10) (σ2 11) ≤ 18 := by
    have := (sumN_rng (f := fun g => if 0 < σ2 11 g then (if σ2 10 g = -4 then (2 : Int) else 1) else 0) (lo := 0) (hi := 2) 9 0 (fun j _ _ => by
      show 0 ≤ (if 0 < σ2 11 j then (if σ2 10 j = -4 then (2 : Int) else 1) else 0) ∧ (if 0 < σ2 11 j then (if σ2 10 j = -4 then (2 : Int) else 1) else 0) ≤ 2
      repeat' split
      all_goals omega)).2
    unfold wgtN
    omega
  have hv4 := hv.2.2.2
  refine ⟨⟨by omega, by omega, by omega⟩, a53, by rw [b6]; exact cg, cp, fun i q1 q2 => ?_, fun i q1 q2 => ?_, ?_⟩
  · rw [b5, b6, b2, b4]
    by_cases z : i = σ 7 12 + 1
    · rw [z, w1, w2, w3, w4]; exact hv
    · obtain ⟨e1, e2, e3⟩ := E i q1 (by omega)
      rw [e3]
      exact (m7 i q1 (by omega)).congr e1 e2
  · rw [a12] at q2
    by_cases z : i = σ 7 12
    · obtain ⟨e1, e2, e3⟩ := E i q1 (by omega)
      obtain ⟨v1, v2, v3, v4⟩ := lev_cur (σ := σ) (i := i) (by omega)
      rw [v1, v2] at e1
      rw [v3] at e2
      rw [v4] at e3
      refine ⟨?_, ?_⟩
      · rw [e3, z, w1, w2, w3, w4, lg.1, lg.2.1, lg.2.2.1, lg.2.2.2.1, lg.2.2.2.2]
        rw [z] at e1 e2
        exact hs.congr e1 e2 (fun _ _ _ => ⟨rfl, rfl⟩) (fun _ _ _ => rfl)
      · rw [z, kA 34 (by omega) (by omega), r34, b6]
        refine ⟨hG.1, by omega, fun x y1 y2 => ?_, by rw [lg.1]; exact hgG⟩
        rw [kA x (by omega) (by omega), kA (18 + x) (by omega) (by omega), rcm x y1 (by omega), rsq x y1 (by omega), (m5 x y1 y2).2.2]
        exact (m5 x y1 y2).1
    · obtain ⟨e1, e2, e3⟩ := E i q1 (by omega)
      obtain ⟨f1, f2, f3⟩ := E (i + 1) (by omega) (by omega)
      obtain ⟨s1, s2, s3, s4, s5⟩ := m8 i q1 (by omega)
      refine ⟨?_, ?_⟩
      · rw [e3, f3, lo 12 (by omega) (by omega) i q1 (by omega), lo 13 (by omega) (by omega) i q1 (by omega), lo 14 (by omega) (by omega) i q1 (by omega), lo 15 (by omega) (by omega) i q1 (by omega), lo 16 (by omega) (by omega) i q1 (by omega)]
        exact s1.congr e1 e2 f1 f2
      · rw [kB i 34 q1 (by omega) (by omega) (by omega), b6]
        refine ⟨s2, s3, fun x y1 y2 => ?_, by rw [lo 12 (by omega) (by omega) i q1 (by omega)]; exact s5⟩
        rw [kB i x q1 (by omega) (by omega) (by omega), kB i (18 + x) q1 (by omega) (by omega) (by omega)]
        exact s4 x y1 y2
  · obtain ⟨e1, e2, e3⟩ := E 0 (by omega) m1
    exact ⟨by rw [e3]; exact m9.1, fun q y1 y2 => by rw [e2 q y1 y2]; exact m9.2 q y1 y2⟩
theorem InvM.pop {σ σ2 : St} (h : InvM σ) (hA : 0 < σ 7 12) (hG : 0 ≤ σ 1 6 ∧ σ 1 6 ≤ 9) (b5 : σ2 1 5 = σ 1 5) (b6 : σ2 1 6 = σ 1 6) (b2 : σ2 2 = σ 2) (b4 : σ2 4 = σ 4)
    (a12 : σ2 7 12 = σ 7 12 - 1) (a54 : σ2 143 54 = σ 7 12 - 1) (a53 : σ2 143 53 = σ2 7 10)
    (cg : ∀ g, 0 ≤ g → g < σ 1 6 → σ2 173 g = (if 0 < σ2 11 g then 1 else 0) ∧ σ2 174 g = σ2 10 g ∧ σ2 175 g = σ2 11 g)
    (cp : ∀ p, 0 ≤ p → p < 6 → σ2 176 p = σ2 9 p ∧ σ2 8 p = cntN (σ2 10) p)
    (ko : σ2 177 = σ 177) (lo : ∀ c, 12 ≤ c → c ≤ 16 → σ2 c = σ c)
    (hv1 : ∀ g, 0 ≤ g → g < 9 → σ2 10 g = lPair σ (σ 7 12 - 1) g ∧ σ2 11 g = lSeq σ (σ 7 12 - 1) g) (hv2 : ∀ p, 0 ≤ p → p < 6 → σ2 9 p = lPaid σ (σ 7 12 - 1) p) (hv3 : σ2 7 10 = lCnt σ (σ 7 12 - 1)) : InvM σ2 := by
  obtain ⟨⟨m1, m2, m3⟩, m4, m5, m6, m7, m8, m9⟩ := id h
  have kk : kp σ2 = kp σ := by funext i j; unfold kp; rw [ko]
  have E : ∀ i, 0 ≤ i → i ≤ σ 7 12 - 1 → (∀ x, 0 ≤ x → x < 9 → lPair σ2 i x = lPair σ i x ∧ lSeq σ2 i x = lSeq σ i x) ∧ (∀ q, 0 ≤ q → q < 6 → lPaid σ2 i q = lPaid σ i q) ∧ lCnt σ2 i = lCnt σ i := by
    intro i q1 q2
    by_cases z : i = σ 7 12 - 1
    · obtain ⟨v1, v2, v3, v4⟩ := lev_cur (σ := σ2) (i := i) (by omega)
      rw [v1, v2, v3, v4, z]
      exact ⟨hv1, hv2, hv3⟩
    · obtain ⟨u1, u2, u3, u4⟩ := lev_up (σ := σ2) (i := i) (by omega)
      obtain ⟨v1, v2, v3, v4⟩ := lev_up (σ := σ) (i := i) (by omega)
      exact ⟨fun x _ _ => ⟨by rw [u1, v1, kk], by rw [u2, v2, kk]⟩, fun q _ _ => by rw [u3, v3, kk], by rw [u4, v4, kk]⟩
  refine ⟨⟨by omega, by omega, by omega⟩, a53, by rw [b6]; exact cg, cp, fun i q1 q2 => ?_, fun i q1 q2 => ?_, ?_⟩
  · rw [b5, b6, b2, b4]
    obtain ⟨e1, e2, e3⟩ := E i q1 (by omega)
    rw [e3]
    exact (m7 i q1 (by omega)).congr e1 e2
  · rw [a12] at q2
    obtain ⟨e1, e2, e3⟩ := E i q1 (by omega)
    obtain ⟨f1, f2, f3⟩ := E (i + 1) (by omega) (by omega)
    obtain ⟨s1, s2⟩ := m8 i q1 (by omega)
    refine ⟨?_, by rw [kk, b6, lo 12 (by omega) (by omega)]; exact s2⟩
    rw [e3, f3, lo 12 (by omega) (by omega), lo 13 (by omega) (by omega), lo 14 (by omega) (by omega), lo 15 (by omega) (by omega), lo 16 (by omega) (by omega)]
    exact s1.congr e1 e2 f1 f2
  · obtain ⟨e1, e2, e3⟩ := E 0 (by omega) (by omega)
    exact ⟨by rw [e3]; exact m9.1, fun q y1 y2 => by rw [e2 q y1 y2]; exact m9.2 q y1 y2⟩
