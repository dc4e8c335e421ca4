-- PURE LAYER: undo
theorem LStep.other {pair seq paid pair' seq' paid' : Int → Int} {cnt cnt' g p pays out goes : Int} (h : LStep pair seq paid cnt pair' seq' paid' cnt' g p pays out goes) {x : Int} (hx : 0 ≤ x ∧ x < 9) (hn : x ≠ g) : seq' x = seq x ∧ (pair x = -4 → pair' x = -4) := by
  obtain ⟨hg, hs⟩ := h
  rcases hs with ⟨k1, k2, k3, k4, k5, k6, k7, k8⟩ | ⟨k1, k2, k3, k4, k5, k6⟩
  · exact ⟨k6 x hx.1 hx.2, fun z => by rw [k5 x hx.1 hx.2, if_neg hn]; exact z⟩
  · refine ⟨by rw [k5 x hx.1 hx.2, if_neg hn], fun z => ?_⟩
    rcases k6 with ⟨l1, l2, l3⟩ | ⟨l1, l2, l3, l4, l5⟩
    · rw [l2 x hx.1 hx.2]; exact z
    · rw [l4 x hx.1 hx.2, if_neg hn]
      split
      · rfl
      · exact z
theorem op_undo {F n : Nat} (hF : 100 ≤ F) {σ : St} (hB : InvB n σ) (hM : InvM σ) :
    ∃ r σ1 σ2, gX10_undo σ = some (r, σ1) ∧ gX11_undo F σ1 = some (r, σ2) ∧ InvM σ2 ∧ OnlyM σ σ2 := by
  obtain ⟨⟨p1, p2, p3⟩, ⟨g1, g2, g3⟩, -⟩ := id hB
  obtain ⟨m1, m4, m5, m6, m7, m8, m9⟩ := id hM
  by_cases hA : σ 7 12 = 0
  · refine ⟨-4, σ, σ, ?_, ?_, hM, fun _ _ _ _ => rfl⟩
    · unfold gX10_undo
      rw [hA, if_neg (by decide)]
    · unfold gX11_undo
      rw [m1.2.2, hA, if_neg (by decide)]
  · obtain ⟨s, b1', b2, b3, b4, b5, b6, b7⟩ := back_lev hB hM (by omega)
    obtain ⟨s1, s2, s3, s4, s5⟩ := m8 (σ 7 12 - 1) (by omega) (by omega)
    obtain ⟨v1, v2, v3, v4⟩ := lev_cur (σ := σ) (i := σ 7 12 - 1 + 1) (by omega)
    rw [v1, v2, v3, v4] at s1
    obtain ⟨u1, u2, u3, u4⟩ := lev_up (σ := σ) (i := σ 7 12 - 1) (by omega)
    have hgr := s1.1
    have t54 : s 143 54 = σ 7 12 := by rw [b7 143 54 (by omega) (by omega)]; exact m1.2.2
    have e54 : up s 143 54 (σ 7 12 - 1) 143 54 = σ 7 12 - 1 := up_self _ _ _ _
    have t177 : ∀ j, up s 143 54 (σ 7 12 - 1) 177 (40 * (σ 7 12 - 1) + j) = kp σ (σ 7 12 - 1) j := fun j => by rw [up_at, if_neg (by omega), b7 177 _ (by omega) (by omega)]; rfl
    obtain ⟨σ2, d, f⟩ := undo_30 hF (k := 40 * (σ 7 12 - 1)) (by omega) (kp σ (σ 7 12 - 1) 34).toNat F 0 (up s 143 54 (σ 7 12 - 1)) (by omega) (by rw [t177]; omega) (by rw [t177]; omega) (by omega)
    have f' : ∀ a b, σ2 a b = if a = 143 ∧ b = 53 then kp σ (σ 7 12 - 1) 33 else if a = 176 ∧ 0 ≤ b ∧ b < 6 then kp σ (σ 7 12 - 1) (27 + b) else if a = 173 ∧ 0 ≤ b ∧ b < kp σ (σ 7 12 - 1) 34 then kp σ (σ 7 12 - 1) b else if a = 174 ∧ 0 ≤ b ∧ b < kp σ (σ 7 12 - 1) 34 then kp σ (σ 7 12 - 1) (9 + b) else if a = 175 ∧ 0 ≤ b ∧ b < kp σ (σ 7 12 - 1) 34 then kp σ (σ 7 12 - 1) (18 + b) else up s 143 54 (σ 7 12 - 1) a b := fun a b => by
      rw [f, t177, t177, t177, show 40 * (σ 7 12 - 1) + 27 + b = 40 * (σ 7 12 - 1) + (27 + b) by omega, show 40 * (σ 7 12 - 1) + 9 + b = 40 * (σ 7 12 - 1) + (9 + b) by omega, show 40 * (σ 7 12 - 1) + 18 + b = 40 * (σ 7 12 - 1) + (18 + b) by omega, t177, t177, t177]
    clear f
    rw [e54] at d
    have fo : ∀ a b, ¬ (a = 143 ∧ (b = 53 ∨ b = 54)) → a ≠ 173 → a ≠ 174 → a ≠ 175 → a ≠ 176 → σ2 a b = s a b := fun a b y1 y2 y3 y4 y5 => by rw [f', if_neg (by omega), if_neg (by omega), if_neg (by omega), if_neg (by omega), if_neg (by omega), up_at, if_neg (by omega)]
    have fc : ∀ a, a ≠ 143 → a ≠ 173 → a ≠ 174 → a ≠ 175 → a ≠ 176 → σ2 a = s a := fun a y1 y2 y3 y4 y5 => by funext b; exact fo a b (by omega) y2 y3 y4 y5
    refine ⟨σ 7 12 - 1, s, σ2, ?_, ?_, ?_, ?_⟩
    · unfold gX10_undo
      rw [w32_id (a := σ 7 12) (by omega), if_pos hA, b1', Option.bind_some, b2]
    · unfold gX11_undo
      rw [t54, w32_id (a := σ 7 12) (by omega), if_pos hA, e54]; exact d
    · refine hM.pop (by omega) ⟨g1, g2⟩ ?_ ?_ ?_ ?_ ?_ ?_ ?_ (fun x y1 y2 => ?_) (fun q y1 y2 => ?_) ?_ (fun c y1 y2 => ?_) (fun x y1 y2 => ?_) (fun q y1 y2 => ?_) ?_
      · rw [fo 1 5 (by omega) (by omega) (by omega) (by omega) (by omega), b7 1 5 (by omega) (by omega)]
      · rw [fo 1 6 (by omega) (by omega) (by omega) (by omega) (by omega), b7 1 6 (by omega) (by omega)]
      · funext b; rw [fo 2 b (by omega) (by omega) (by omega) (by omega) (by omega), b7 2 b (by omega) (by omega)]
      · funext b; rw [fo 4 b (by omega) (by omega) (by omega) (by omega) (by omega), b7 4 b (by omega) (by omega)]
      · rw [fo 7 12 (by omega) (by omega) (by omega) (by omega) (by omega), b2]
      · rw [f', if_neg (by omega), if_neg (by omega), if_neg (by omega), if_neg (by omega), if_neg (by omega), e54]
      · rw [f', if_pos ⟨rfl, rfl⟩, fo 7 10 (by omega) (by omega) (by omega) (by omega) (by omega), b3, u4]
      · rw [fc 10 (by omega) (by omega) (by omega) (by omega) (by omega), fc 11 (by omega) (by omega) (by omega) (by omega) (by omega), (b4 x y1 (by omega)).1, (b4 x y1 (by omega)).2, u1, u2]
        by_cases w : x < kp σ (σ 7 12 - 1) 34
        · have x3 : σ2 173 x = kp σ (σ 7 12 - 1) x := by rw [f', if_neg (by omega), if_neg (by omega), if_pos (by omega)]
          have x4 : σ2 174 x = kp σ (σ 7 12 - 1) (9 + x) := by rw [f', if_neg (by omega), if_neg (by omega), if_neg (by omega), if_pos (by omega)]
          have x5 : σ2 175 x = kp σ (σ 7 12 - 1) (18 + x) := by rw [f', if_neg (by omega), if_neg (by omega), if_neg (by omega), if_neg (by omega), if_pos (by omega)]
          rw [x3, x4, x5, if_pos w, if_pos w]
          exact ⟨s4 x y1 w, rfl, rfl⟩
        · obtain ⟨o1, o2⟩ := s1.other (x := x) (by omega) (by omega)
          have o2' := o2 (by rw [u1, if_neg w])
          rw [u2, if_neg w] at o1
          have mx := m5 x y1 y2
          rw [o1, o2'] at mx
          have z1 : ∀ c, c = 173 ∨ c = 174 ∨ c = 175 → σ2 c x = σ c x := fun c hc => by rw [f', if_neg (by omega), if_neg (by omega), if_neg (by omega), if_neg (by omega), if_neg (by omega), up_at, if_neg (by omega), b7 c x (by omega) (by omega)]
          rw [z1 173 (by omega), z1 174 (by omega), z1 175 (by omega), if_neg w, if_neg w]
          exact mx
      · rw [fc 9 (by omega) (by omega) (by omega) (by omega) (by omega), fc 8 (by omega) (by omega) (by omega) (by omega) (by omega), fc 10 (by omega) (by omega) (by omega) (by omega) (by omega), b5 q y1 y2, u3, f', if_neg (by omega), if_pos (by omega)]
        exact ⟨rfl, b6 q y1 y2⟩
      · funext b
        rw [fo 177 b (by omega) (by omega) (by omega) (by omega) (by omega), b7 177 b (by omega) (by omega)]
      · funext b
        rw [fo c b (by omega) (by omega) (by omega) (by omega) (by omega), b7 c b (by omega) (by omega)]
      · rw [fc 10 (by omega) (by omega) (by omega) (by omega) (by omega), fc 11 (by omega) (by omega) (by omega) (by omega) (by omega)]
        exact b4 x y1 y2
      · rw [fc 9 (by omega) (by omega) (by omega) (by omega) (by omega)]; exact b5 q y1 y2
      · rw [fo 7 10 (by omega) (by omega) (by omega) (by omega) (by omega)]; exact b3
    · intro a b y1 y2
      unfold supM at y1
      unfold scr at y2
      rw [fo a b (by omega) (by omega) (by omega) (by omega) (by omega), b7 a b (by omega) (by omega)]
