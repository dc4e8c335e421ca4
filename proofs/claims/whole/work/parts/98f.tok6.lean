-- PURE LAYER: the tape's tokens (6): class's advance and the reference's next, by kinds
theorem sIx_tab : ∀ x : Fin 256, sIx (i2c_ x.val) = some (if x.val = 43 then 0 else if x.val = 45 then 1 else if x.val = 44 then 2 else if x.val = 60 then 3 else if x.val = 62 then 4 else if x.val = 59 then 5 else -1) := by decide +kernel
theorem sIx_at {x : Int} (h : 0 ≤ x ∧ x ≤ 255) : sIx (i2c_ x) = some (if x = 43 then 0 else if x = 45 then 1 else if x = 44 then 2 else if x = 60 then 3 else if x = 62 then 4 else if x = 59 then 5 else -1) := by
  have e := sIx_tab ⟨x.toNat, by omega⟩
  have c : ∀ k : Nat, (x.toNat = k) = (x = (k : Int)) := fun k => propext (by omega)
  simp only [c, Int.toNat_of_nonneg h.1] at e
  exact e
/-- both stand before a token at e -/
def BF (b : Int → Int) (L e : Int) (σ τ : St) : Prop := TC b L σ ∧ TM b L τ ∧ (σ 57 1 = 0 ∧ τ 143 10 = 0) ∧ (σ 57 4 = e ∧ σ 57 6 = e) ∧ (τ 143 12 = e ∧ τ 143 13 = e ∧ τ 143 15 = 0) ∧ 0 ≤ e ∧ e ≤ L
theorem BF.pf {b : Int → Int} {L e : Int} {σ τ : St} (h : BF b L e σ τ) : PF σ τ := ⟨by rw [h.2.2.1.1, h.2.2.1.2], by rw [h.2.2.1.1]; omega, fun q => absurd h.2.2.1.1 q⟩
def Done (b : Int → Int) (L : Int) (σ τ : St) (x y : Option St) : Prop := ∃ σ' τ', x = some σ' ∧ y = some τ' ∧ PR b L σ' τ' ∧ frC σ σ' ∧ frM τ τ'
theorem read_name {F : Nat} (hF : 300 ≤ F) {b : Int → Int} {L e : Int} {σ τ : St} (h : BF b L e σ τ) (hl : e < L ∧ 97 ≤ b e ∧ b e ≤ 122) : Done b L σ τ (gX8_readName F σ) (gX11_next_L84 F F τ) := by
  obtain ⟨hC, hM, ⟨z1, z2⟩, ⟨c4, c6⟩, ⟨m12, m13, m15⟩, e0, e1⟩ := id h
  have q1 := hC.1
  obtain ⟨d, d1, d2, d3, d4⟩ := stop_ex (fun x => 97 ≤ x ∧ x ≤ 122) b L (L - e).toNat e (by omega)
  have x1 := rdName_L0 F d2 (d - e).toNat F σ hC (by omega) (by omega) (by omega) (by rw [c4]; exact d3) d4
  have x2 := nxt_L84 F d2 (d - e).toNat F τ hM (by omega) (by omega) (by omega) (by rw [m12]; exact d3)
  obtain ⟨n, hn⟩ : ∃ n, F - (d - e).toNat = n + 1 := ⟨F - (d - e).toNat - 1, by omega⟩
  have hC1 : TC b L (up σ 57 4 d) := hC.up (by omega) (by omega)
  have fC1 : frC σ (up σ 57 4 d) := frC.up _ (by omega)
  have s4 : up σ 57 4 d 57 4 = d := up_self _ _ _ _
  have s6 : up σ 57 4 d 57 6 = e := by rw [up_slot (by omega), c6]
  have s1 : up σ 57 4 d 57 1 = 0 := by rw [up_slot (by omega), z1]
  generalize up σ 57 4 d = σ1 at *
  have hM1 : TM b L (up (up τ 143 12 d) 143 14 1) := (hM.up (by omega) (by omega)).up (by omega) (by omega)
  have fM1 : frM τ (up (up τ 143 12 d) 143 14 1) := (frM.up _ (by omega)).trans (frM.up _ (by omega))
  have t12 : up (up τ 143 12 d) 143 14 1 143 12 = d := by rw [up_slot (by omega), up_self]
  have t13 : up (up τ 143 12 d) 143 14 1 143 13 = e := by rw [up_slot (by omega), up_slot (by omega), m13]
  have t14 : up (up τ 143 12 d) 143 14 1 143 14 = 1 := up_self _ _ _ _
  have t10 : up (up τ 143 12 d) 143 14 1 143 10 = 0 := by rw [up_slot (by omega), up_slot (by omega), z2]
  have y : gX11_next_L84 F F τ = (gX11_nameAt F (up (up τ 143 12 d) 143 14 1) e d).bind fun r3 => if w32 r3 ≠ -4 then some (up (up (up τ 143 12 d) 143 14 1) 143 15 r3) else gX11_fails (up (up (up τ 143 12 d) 143 14 1) 143 15 r3) 1 := by
    have nl : ¬ (97 ≤ (if d < L then b d else -4) ∧ (if d < L then b d else -4) ≤ 122) := by
      rcases d4 with d4 | d4
      · rw [if_neg (by omega)]; omega
      · by_cases w : d < L
        · rw [if_pos w]; exact d4
        · rw [if_neg w]; omega
    have rg : -4 ≤ (if d < L then b d else -4) ∧ (if d < L then b d else -4) ≤ 255 := by
      by_cases w : d < L
      · have := hC.2.1 d (by omega) (by omega)
        rw [if_pos w]; omega
      · rw [if_neg w]; omega
    rw [x2, hn, gX11_next_L84, up_self, (hM.up (by omega) (by omega)).byte (by omega), Option.bind_some, in_eq _ rg (by omega) (by omega), Option.bind_some, w32_tv, tv_neg nl, if_pos rfl, t12, t13]
    simp only [up_self, bindS]
  rw [y]
  generalize up (up τ 143 12 d) 143 14 1 = τ1 at *
  unfold gX8_readName gX8_readName_L39 at *
  rw [x1]
  unfold gX11_nameAt
  have hbC : ∀ j, 0 ≤ j → j < 160 → 0 ≤ σ1 58 j ∧ σ1 58 j ≤ 255 := by rw [hC1.2.2.2]; exact hC.2.1
  have hbM : ∀ j, 0 ≤ j → j < 160 → 0 ≤ τ1 149 j ∧ τ1 149 j ≤ 255 := by rw [hM1.2.2.2.1]; exact hC.2.1
  have u := readName_L41_eq (F := F) (by omega) σ1 (p := e) (a := d) (by omega) s4 s6 hbC (fun j j1 j2 => by rw [hC1.2.2.2]; have := d3 j j1 j2; omega) 10 F 0 (by omega) (by omega) (by omega)
  have v := nameAt_L2_eq (F := F) (by omega) τ1 (p := e) (a := d) (L := L) (by omega) (by omega) hM1.2.2.1 hM1.2.2.2.2.1 hM1.2.2.2.2.2 hbM 10 F 0 (by omega) (by omega) (by omega)
  rw [hC1.2.2.2] at u
  rw [hM1.2.2.2.1] at v
  rcases u with ⟨i, i1, i2, i3, i4, i5⟩ | ⟨i1, i2⟩
  · rcases v with ⟨k, k1, k2, k3, k4, k5⟩ | ⟨k1, k2⟩
    · have ik : k = i := by
        rcases Int.lt_trichotomy k i with w | w | w
        · exact absurd k3 (i4 k k1 w)
        · exact w
        · exact absurd i3 (k4 i i1 w)
      subst ik
      refine ⟨_, _, i5, by rw [k5, Option.bind_some, w32_id (a := k) (by omega), if_pos (show k ≠ -4 by omega)], ⟨hC1.up (by omega) (by omega), hM1.up (by omega) (by omega), ?_, fun _ => ?_⟩, fC1.trans (frC.up _ (by omega)), fM1.trans (frM.up _ (by omega))⟩
      · unfold PF
        simp (disch := omega) only [up_self, up_slot, s1, t10]
        exact ⟨trivial, by omega, fun q => absurd rfl q⟩
      · unfold PA PT tok
        simp (disch := omega) only [up_self, up_slot, s4, s6, t12, t13, t14]
        exact ⟨⟨by omega, by omega, trivial⟩, ⟨by omega, by omega, trivial⟩, Or.inl ⟨i1, by omega, trivial, trivial⟩⟩
    · exact absurd i3 (k1 i i1 i2)
  · rcases v with ⟨k, k1, k2, k3, k4, k5⟩ | ⟨k1, k2⟩
    · exact absurd k3 (i1 k k1 k2)
    · rw [i2, k2, Option.bind_some, w32_m4, if_neg (fun w => w rfl)]
      obtain ⟨σ', τ', g1, g2, g3, g4, g5, g6⟩ := fails_both hC1 (hM1.up (k := 143) (j := 15) (v := -4) (by omega) (by omega)) ⟨by rw [s1, up_slot (by omega), t10], by omega, fun q => absurd s1 q⟩ (x := 1) (by omega) (fun _ => ⟨by omega, by omega, by rw [up_slot (by omega), t13, s6]⟩)
      exact ⟨σ', τ', g1, g2, g3, fC1.trans g5, (fM1.trans (frM.up _ (by omega))).trans g6⟩
