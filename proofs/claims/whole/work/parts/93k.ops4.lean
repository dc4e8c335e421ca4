-- PURE LAYER: post
theorem gX11_post_L104_eq (F : Nat) (x1 x2 x3 : Int) (σ : St) (hg : 0 ≤ σ 143 0 ∧ σ 143 0 < 6) (hz : ∀ g, 0 ≤ g → g < 9 → σ 148 (6 * g + σ 143 0) = 0) : ∀ (m n : Nat) (i : Int), 0 ≤ i → i + m = 9 → m < n → gX11_post_L104 F x1 x2 x3 n i σ = some (σ 143 0, up σ 143 0 (σ 143 0 + 1)) := by
  intro m
  induction m with
  | zero =>
    intro n i h1 h2 h3
    obtain ⟨n, rfl⟩ : ∃ n', n = n' + 1 := ⟨n - 1, by omega⟩
    rw [gX11_post_L104, w32_id (a := i) (by omega), if_pos (by omega), up_self]
    congr 2
    omega
  | succ m ih =>
    intro n i h1 h2 h3
    obtain ⟨n, rfl⟩ : ∃ n', n = n' + 1 := ⟨n - 1, by omega⟩
    rw [gX11_post_L104, w32_id (a := i) (by omega), if_neg (by omega), w32_id (a := 6 * i + σ 143 0) (by omega), gd_pos (by omega), up_id (hz i h1 (by omega)), ih n (i + 1) (by omega) (by omega) (by omega)]
theorem op_post {F n : Nat} (hF : 100 ≤ F) {σ : St} {a b c : Int} (hB : InvB n σ) (hM : InvM σ) (ha : w32 a = a) (hb : w32 b = b) (hc : w32 c = c) :
    ∃ r σ1 σ2, gX10_post F σ a b c = some (r, σ1) ∧ gX11_post F σ1 a b c = some (r, σ2) ∧ InvB (n + 1) σ2 ∧ InvM σ2 ∧ ChgB σ σ2 := by
  obtain ⟨⟨p1, p2, p3⟩, ⟨g1, g2, g3⟩, v1, ⟨c1, c2, c3, c4, c5⟩, b5, b6, b7, b8⟩ := id hB
  have x1 : gX10_isIn σ a 1 3 = some (tv (1 ≤ a ∧ a ≤ 3)) := gX10_isIn_eq σ ha (by decide) (by decide)
  have x2 : gX10_isIn σ b 0 99 = some (tv (0 ≤ b ∧ b ≤ 99)) := gX10_isIn_eq σ hb (by decide) (by decide)
  have x3 : gX10_isIn σ c 1 999 = some (tv (1 ≤ c ∧ c ≤ 999)) := gX10_isIn_eq σ hc (by decide) (by decide)
  have m1 : ∀ s : St, gX11_in s (w32 a) 1 3 = some (tv (1 ≤ a ∧ a ≤ 3)) := fun s => gX11_in32 s ha (by decide) (by decide)
  have m2 : ∀ s : St, gX11_in s (w32 b) 0 99 = some (tv (0 ≤ b ∧ b ≤ 99)) := fun s => gX11_in32 s hb (by decide) (by decide)
  have m3 : ∀ s : St, gX11_in s (w32 c) 1 999 = some (tv (1 ≤ c ∧ c ≤ 999)) := fun s => gX11_in32 s hc (by decide) (by decide)
  have cr := (hM.cur.cnt_rng ⟨g1, g2⟩).2
  have ec : w32 (σ 7 10) = σ 7 10 := w32_id (by omega)
  have eP : w32 (σ 1 5) = σ 1 5 := w32_id (by omega)
  have ar : gX0_allRooms F σ 1 = some (sumN (σ 2) (σ 1 5).toNat 0) := gX0_allRooms_eq (by omega) σ 1 ⟨p1, p2⟩
  have s0 : 0 ≤ sumN (σ 2) (σ 1 5).toNat 0 := by
    have := (sumN_rng (f := σ 2) (lo := 0) (hi := 3) (σ 1 5).toNat 0 (fun i q1 q2 => by have := (b5 i q1 (by omega)).1; omega)).1
    omega
  by_cases h1 : 1 ≤ a ∧ a ≤ 3
  · by_cases h2 : 0 ≤ b ∧ b ≤ 99
    · by_cases h3 : 1 ≤ c ∧ c ≤ 999
      · by_cases h4 : σ 7 10 ≤ 0
        · by_cases h5 : σ 1 5 ≥ 6
          · refine ⟨-3, σ, σ, ?_, ?_, hB.next, hM, ChgB.rf σ⟩
            · unfold gX10_post
              rw [x1, Option.bind_some, tv_if0, if_pos h1, x2, Option.bind_some, tv_if0, if_pos h2, x3, Option.bind_some, tv_if1, if_pos h3, ec, if_pos h4, eP, if_pos h5]
            · unfold gX11_post
              rw [m1, Option.bind_some, tv_if0, if_pos h1, m2, Option.bind_some, tv_if0, if_pos h2, m3, Option.bind_some, tv_if1, if_pos h3, hM.came (by omega) ⟨g1, g2⟩ g3 rfl, Option.bind_some, ec, if_pos h4, p3, eP, if_pos (by omega)]
          · have er : w32 (sumN (σ 2) (σ 1 5).toNat 0 + a) = sumN (σ 2) (σ 1 5).toNat 0 + a := w32_id (by omega)
            by_cases h6 : sumN (σ 2) (σ 1 5).toNat 0 + a ≤ 10
            · let σ1 := up (up (up (up (up σ 2 (σ 1 5) a) 3 (σ 1 5) b) 4 (σ 1 5) c) 1 5 (σ 1 5 + 1)) 1 7 (σ 1 7 + 1)
              have s1 : ∀ q j, σ1 q j = if q = 2 ∧ j = σ 1 5 then a else if q = 3 ∧ j = σ 1 5 then b else if q = 4 ∧ j = σ 1 5 then c else if q = 1 ∧ j = 5 then σ 1 5 + 1 else if q = 1 ∧ j = 7 then σ 1 7 + 1 else σ q j := by
                intro q j
                show up (up (up (up (up σ 2 (σ 1 5) a) 3 (σ 1 5) b) 4 (σ 1 5) c) 1 5 (σ 1 5 + 1)) 1 7 (σ 1 7 + 1) q j = _
                rw [up_at, up_at, up_at, up_at, up_at]
                by_cases k1 : q = 1 ∧ j = 7
                · rw [if_pos k1, if_neg (by omega), if_neg (by omega), if_neg (by omega), if_neg (by omega), if_pos k1]
                · rw [if_neg k1, if_neg k1]
                  by_cases k2 : q = 1 ∧ j = 5
                  · rw [if_pos k2, if_neg (by omega), if_neg (by omega), if_neg (by omega), if_pos k2]
                  · rw [if_neg k2, if_neg k2]
                    by_cases k3 : q = 4 ∧ j = σ 1 5
                    · rw [if_pos k3, if_neg (by omega), if_neg (by omega), if_pos k3]
                    · rw [if_neg k3, if_neg k3]
                      by_cases k4 : q = 3 ∧ j = σ 1 5
                      · rw [if_pos k4, if_neg (by omega), if_pos k4]
                      · rw [if_neg k4, if_neg k4]
              have u1 : ∀ q j, q ≠ 1 → q ≠ 2 → q ≠ 3 → q ≠ 4 → σ1 q j = σ q j := fun q j k1 k2 k3 k4 => by
                rw [s1, if_neg (by omega), if_neg (by omega), if_neg (by omega), if_neg (by omega), if_neg (by omega)]
              let τ := up (up (up σ1 144 (σ 1 5) a) 145 (σ 1 5) b) 146 (σ 1 5) c
              have t1 : ∀ q j, τ q j = if q = 144 ∧ j = σ 1 5 then a else if q = 145 ∧ j = σ 1 5 then b else if q = 146 ∧ j = σ 1 5 then c else σ1 q j := by
                intro q j
                show up (up (up σ1 144 (σ 1 5) a) 145 (σ 1 5) b) 146 (σ 1 5) c q j = _
                rw [up_at, up_at, up_at]
                by_cases k1 : q = 146 ∧ j = σ 1 5
                · rw [if_pos k1, if_neg (by omega), if_neg (by omega), if_pos k1]
                · rw [if_neg k1, if_neg k1]
                  by_cases k2 : q = 145 ∧ j = σ 1 5
                  · rw [if_pos k2, if_neg (by omega), if_pos k2]
                  · rw [if_neg k2, if_neg k2]
              have t0 : τ 143 0 = σ 1 5 := by rw [t1, if_neg (by omega), if_neg (by omega), if_neg (by omega), u1 143 0 (by omega) (by omega) (by omega) (by omega)]; exact p3
              have lp := gX11_post_L104_eq F a b c τ (by omega) (fun g q1 q2 => by
                rw [t0, t1, if_neg (by omega), if_neg (by omega), if_neg (by omega), u1 148 _ (by omega) (by omega) (by omega) (by omega), c5]
                exact (b7 g (σ 1 5) q1 q2 p1 (by omega)).2 (Or.inr (Int.le_refl _))) 9 F 0 (by omega) (by omega) (by omega)
              rw [t0] at lp
              let σ2 := up τ 143 0 (σ 1 5 + 1)
              have s2 : ∀ q j, σ2 q j = if q = 143 ∧ j = 0 then σ 1 5 + 1 else τ q j := fun q j => rfl
              have o : ∀ q j, ¬ (q = 143 ∧ j = 0) → ¬ ((144 ≤ q ∧ q ≤ 146 ∨ 2 ≤ q ∧ q ≤ 4) ∧ j = σ 1 5) → ¬ (q = 1 ∧ (j = 5 ∨ j = 7)) → σ2 q j = σ q j := fun q j k1 k2 k3 => by
                rw [s2, if_neg k1, t1, if_neg (by omega), if_neg (by omega), if_neg (by omega), s1, if_neg (by omega), if_neg (by omega), if_neg (by omega), if_neg (by omega), if_neg (by omega)]
              have oc : ∀ q, q ≠ 143 → ¬ (144 ≤ q ∧ q ≤ 146) → ¬ (1 ≤ q ∧ q ≤ 4) → σ2 q = σ q := fun q k1 k2 k3 => by funext j; exact o q j (by omega) (by omega) (by omega)
              have e5 : σ2 1 5 = σ 1 5 + 1 := by rw [s2, if_neg (by omega), t1, if_neg (by omega), if_neg (by omega), if_neg (by omega), s1, if_neg (by omega), if_neg (by omega), if_neg (by omega), if_pos (by omega)]
              have e7 : σ2 1 7 = σ 1 7 + 1 := by rw [s2, if_neg (by omega), t1, if_neg (by omega), if_neg (by omega), if_neg (by omega), s1, if_neg (by omega), if_neg (by omega), if_neg (by omega), if_neg (by omega), if_pos (by omega)]
              have e6 : σ2 1 6 = σ 1 6 := o 1 6 (by omega) (by omega) (by omega)
              have f2 : σ2 2 = upf (σ 2) (σ 1 5) a := by
                funext j; unfold upf
                by_cases k : j = σ 1 5
                · rw [s2, if_neg (by omega), t1, if_neg (by omega), if_neg (by omega), if_neg (by omega), s1, if_pos (by omega), if_pos k]
                · rw [o 2 j (by omega) (by omega) (by omega), if_neg k]
              have f3 : σ2 3 = upf (σ 3) (σ 1 5) b := by
                funext j; unfold upf
                by_cases k : j = σ 1 5
                · rw [s2, if_neg (by omega), t1, if_neg (by omega), if_neg (by omega), if_neg (by omega), s1, if_neg (by omega), if_pos (by omega), if_pos k]
                · rw [o 3 j (by omega) (by omega) (by omega), if_neg k]
              have f4 : σ2 4 = upf (σ 4) (σ 1 5) c := by
                funext j; unfold upf
                by_cases k : j = σ 1 5
                · rw [s2, if_neg (by omega), t1, if_neg (by omega), if_neg (by omega), if_neg (by omega), s1, if_neg (by omega), if_neg (by omega), if_pos (by omega), if_pos k]
                · rw [o 4 j (by omega) (by omega) (by omega), if_neg k]
              have f144 : σ2 144 = upf (σ 2) (σ 1 5) a := by
                funext j; unfold upf
                by_cases k : j = σ 1 5
                · rw [s2, if_neg (by omega), t1, if_pos (by omega), if_pos k]
                · rw [o 144 j (by omega) (by omega) (by omega), if_neg k, c1]
              have f145 : σ2 145 = upf (σ 3) (σ 1 5) b := by
                funext j; unfold upf
                by_cases k : j = σ 1 5
                · rw [s2, if_neg (by omega), t1, if_neg (by omega), if_pos (by omega), if_pos k]
                · rw [o 145 j (by omega) (by omega) (by omega), if_neg k, c2]
              have f146 : σ2 146 = upf (σ 4) (σ 1 5) c := by
                funext j; unfold upf
                by_cases k : j = σ 1 5
                · rw [s2, if_neg (by omega), t1, if_neg (by omega), if_neg (by omega), if_pos (by omega), if_pos k]
                · rw [o 146 j (by omega) (by omega) (by omega), if_neg k, c3]
              refine ⟨σ 1 5, σ1, σ2, ?_, ?_, ?_, ?_, ?_⟩
              · unfold gX10_post gX0_addPost
                rw [x1, Option.bind_some, tv_if0, if_pos h1, x2, Option.bind_some, tv_if0, if_pos h2, x3, Option.bind_some, tv_if1, if_pos h3, ec, if_pos h4, eP, if_neg h5, ar, Option.bind_some, er, if_pos h6]
                have k1 : up σ (1 + 1) (σ 1 5) a 1 5 = σ 1 5 := by rw [up_at, if_neg (by omega)]
                rw [k1, eP]
                have k2 : up (up σ (1 + 1) (σ 1 5) a) (1 + 2) (σ 1 5) b 1 5 = σ 1 5 := by rw [up_at, if_neg (by omega), k1]
                rw [k2, eP]
                have k3 : up (up (up σ (1 + 1) (σ 1 5) a) (1 + 2) (σ 1 5) b) (1 + 3) (σ 1 5) c 1 5 = σ 1 5 := by rw [up_at, if_neg (by omega), k2]
                rw [k3]
                have k4 : ∀ v, up (up (up (up σ (1 + 1) (σ 1 5) a) (1 + 2) (σ 1 5) b) (1 + 3) (σ 1 5) c) 1 5 v 1 7 = σ 1 7 := fun v => by rw [up_at, if_neg (by omega), up_at, if_neg (by omega), up_at, if_neg (by omega), up_at, if_neg (by omega)]
                rw [k4]
                have k5 : ∀ v w, up (up (up (up (up σ (1 + 1) (σ 1 5) a) (1 + 2) (σ 1 5) b) (1 + 3) (σ 1 5) c) 1 5 v) 1 7 w 1 5 = v := fun v w => by rw [up_at, if_neg (by omega), up_self]
                rw [k5, gd_pos (by omega), gd_pos (by omega), gd_pos (by omega), Option.bind_some]
                show some (σ 1 5 + 1 - 1, σ1) = some (σ 1 5, σ1)
                rw [show σ 1 5 + 1 - 1 = σ 1 5 by omega]
              · unfold gX11_post
                have w0 : σ1 143 0 = σ 1 5 := by rw [u1 143 0 (by omega) (by omega) (by omega) (by omega)]; exact p3
                have w4 : σ1 143 4 = σ 1 6 := by rw [u1 143 4 (by omega) (by omega) (by omega) (by omega)]; exact g3
                have wr : gX11_roomSum F σ1 = some (sumN (σ 2) (σ 1 5).toNat 0) := by
                  rw [gX11_roomSum_eq (by omega) σ1 (by omega), w0, show σ1 144 = σ 144 by funext j; exact u1 144 j (by omega) (by omega) (by omega) (by omega), c1]
                rw [m1, Option.bind_some, tv_if0, if_pos h1, m2, Option.bind_some, tv_if0, if_pos h2, m3, Option.bind_some, tv_if1, if_pos h3, hM.came (by omega) ⟨g1, g2⟩ w4 (by funext j; exact u1 173 j (by omega) (by omega) (by omega) (by omega)), Option.bind_some, ec, if_pos h4, w0, eP, if_neg (by omega), wr, Option.bind_some, er, if_pos h6]
                have k1 : up σ1 144 (σ 1 5) a 143 0 = σ 1 5 := by rw [up_at, if_neg (by omega), w0]
                rw [k1, eP]
                have k2 : up (up σ1 144 (σ 1 5) a) 145 (σ 1 5) b 143 0 = σ 1 5 := by rw [up_at, if_neg (by omega), k1]
                rw [k2, eP, gd_pos (by omega), gd_pos (by omega), gd_pos (by omega)]
                exact lp
              · refine ⟨?_, ?_, ?_, ?_, ?_, ?_, ?_, ?_⟩
                · rw [e5, s2 143 0, if_pos (by omega)]; omega
                · rw [e6, o 143 4 (by omega) (by omega) (by omega)]; exact ⟨g1, g2, g3⟩
                · rw [e7]; omega
                · rw [f2, f3, f4, f144, f145, f146, oc 147 (by omega) (by omega) (by omega), oc 5 (by omega) (by omega) (by omega), oc 148 (by omega) (by omega) (by omega), oc 6 (by omega) (by omega) (by omega)]
                  exact ⟨rfl, rfl, rfl, c4, c5⟩
                · intro p q1 q2
                  rw [e5] at q2
                  rw [f2, f3, f4]
                  unfold upf
                  by_cases q : p = σ 1 5
                  · rw [if_pos q, if_pos q, if_pos q]; exact ⟨h1, h2, h3⟩
                  · rw [if_neg q, if_neg q, if_neg q]; exact b5 p q1 (by omega)
                · intro g q1 q2
                  rw [e6] at q2
                  rw [oc 5 (by omega) (by omega) (by omega)]
                  exact b6 g q1 q2
                · intro g p q1 q2 q3 q4
                  rw [e5, e6, oc 6 (by omega) (by omega) (by omega)]
                  obtain ⟨w1, w2⟩ := b7 g p q1 q2 q3 q4
                  exact ⟨w1, fun z => w2 (by omega)⟩
                · rw [e5, f2, show (σ 1 5 + 1).toNat = (σ 1 5).toNat + 1 by omega, sumN_app]
                  rw [sumN_congr (g := σ 2) (σ 1 5).toNat 0 (fun i q1 q2 => upf_ne (by omega))]
                  show _ + (upf (σ 2) (σ 1 5) a (0 + ((σ 1 5).toNat : Int)) + 0) ≤ 10
                  rw [show (0 + ((σ 1 5).toNat : Int)) = σ 1 5 by omega, upf_self]
                  omega
              · obtain ⟨i1, i2, i3, i4, i5, i6, i7⟩ := id hM
                obtain ⟨z1, z2⟩ := hM.none (by omega)
                have cu := hM.cur
                have n0 : σ2 7 10 = σ 7 10 := o 7 10 (by omega) (by omega) (by omega)
                have n1 : σ2 7 12 = σ 7 12 := o 7 12 (by omega) (by omega) (by omega)
                have k0 : kp σ2 = kp σ := by funext i j; unfold kp; rw [oc 177 (by omega) (by omega) (by omega)]
                have k1 : lPair σ2 = lPair σ := by funext i g; unfold lPair; rw [k0, n1, oc 10 (by omega) (by omega) (by omega)]
                have k2 : lSeq σ2 = lSeq σ := by funext i g; unfold lSeq; rw [k0, n1, oc 11 (by omega) (by omega) (by omega)]
                have k3 : lPaid σ2 = lPaid σ := by funext i g; unfold lPaid; rw [k0, n1, oc 9 (by omega) (by omega) (by omega)]
                have k4 : lCnt σ2 = lCnt σ := by funext i; unfold lCnt; rw [k0, n1, n0]
                refine ⟨?_, ?_, ?_, ?_, ?_, ?_, ?_⟩
                · rw [n1, o 143 54 (by omega) (by omega) (by omega)]; exact i1
                · rw [n0, o 143 53 (by omega) (by omega) (by omega)]; exact i2
                · intro g q1 q2
                  rw [e6] at q2
                  rw [oc 10 (by omega) (by omega) (by omega), oc 11 (by omega) (by omega) (by omega), oc 173 (by omega) (by omega) (by omega), oc 174 (by omega) (by omega) (by omega), oc 175 (by omega) (by omega) (by omega)]
                  exact i3 g q1 q2
                · intro p q1 q2
                  rw [oc 176 (by omega) (by omega) (by omega), oc 9 (by omega) (by omega) (by omega), oc 8 (by omega) (by omega) (by omega), oc 10 (by omega) (by omega) (by omega)]
                  exact i4 p q1 q2
                · intro i q1 q2
                  rw [n1] at q2
                  rw [k1, k2, k3, k4, e5, e6, f2, f4]
                  obtain ⟨w1, w2, w3, w4⟩ := i5 i q1 q2
                  have wi : i = 0 := by omega
                  refine ⟨fun g y1 y2 => ⟨by have := (w1 g y1 y2).1; omega, (w1 g y1 y2).2⟩, w2, fun p y1 y2 => ?_, w4⟩
                  obtain ⟨y3, y4, y5⟩ := w3 p y1 y2
                  refine ⟨y3, fun y6 => ?_, fun y6 => y5 (by omega)⟩
                  unfold upf
                  by_cases q : p = σ 1 5
                  · have y7 := y5 (by omega)
                    have y8 : cntN (lPair σ i) p = 0 := sumN_zero 9 0 (fun g v1 v2 => by
                      have v3 : lPair σ i g = -4 := by unfold lPair; rw [if_neg (by omega)]; exact (z2 g v1 (by omega)).1
                      show (if lPair σ i g = p then (1 : Int) else 0) = 0
                      rw [v3, if_neg (by omega)])
                    rw [if_pos q, if_pos q, y7, y8]
                    omega
                  · rw [if_neg q, if_neg q]
                    exact y4 (by omega)
                · intro i q1 q2
                  rw [n1] at q2
                  omega
                · rw [k3, k4]; exact i7
              · refine ⟨fun q j q1 q2 => ?_, Or.inr (by rw [e7]; omega)⟩
                unfold supB at q1
                unfold supM at q2
                exact o q j (by omega) (by omega) (by omega)
            · refine ⟨-3, σ, σ, ?_, ?_, hB.next, hM, ChgB.rf σ⟩
              · unfold gX10_post
                rw [x1, Option.bind_some, tv_if0, if_pos h1, x2, Option.bind_some, tv_if0, if_pos h2, x3, Option.bind_some, tv_if1, if_pos h3, ec, if_pos h4, eP, if_neg h5, ar, Option.bind_some, er, if_neg h6]
              · unfold gX11_post
                have wr : gX11_roomSum F σ = some (sumN (σ 2) (σ 1 5).toNat 0) := by
                  rw [gX11_roomSum_eq (by omega) σ (by omega), p3, c1]
                rw [m1, Option.bind_some, tv_if0, if_pos h1, m2, Option.bind_some, tv_if0, if_pos h2, m3, Option.bind_some, tv_if1, if_pos h3, hM.came (by omega) ⟨g1, g2⟩ g3 rfl, Option.bind_some, ec, if_pos h4, p3, eP, if_neg (by omega), wr, Option.bind_some, er, if_neg h6]
        · refine ⟨-2, σ, σ, ?_, ?_, hB.next, hM, ChgB.rf σ⟩
          · unfold gX10_post
            rw [x1, Option.bind_some, tv_if0, if_pos h1, x2, Option.bind_some, tv_if0, if_pos h2, x3, Option.bind_some, tv_if1, if_pos h3, ec, if_neg h4]
          · unfold gX11_post
            rw [m1, Option.bind_some, tv_if0, if_pos h1, m2, Option.bind_some, tv_if0, if_pos h2, m3, Option.bind_some, tv_if1, if_pos h3, hM.came (by omega) ⟨g1, g2⟩ g3 rfl, Option.bind_some, ec, if_neg h4]
      · refine ⟨-1, σ, σ, ?_, ?_, hB.next, hM, ChgB.rf σ⟩
        · unfold gX10_post
          rw [x1, Option.bind_some, tv_if0, if_pos h1, x2, Option.bind_some, tv_if0, if_pos h2, x3, Option.bind_some, tv_if1, if_neg h3]
        · unfold gX11_post
          rw [m1, Option.bind_some, tv_if0, if_pos h1, m2, Option.bind_some, tv_if0, if_pos h2, m3, Option.bind_some, tv_if1, if_neg h3]
    · refine ⟨-1, σ, σ, ?_, ?_, hB.next, hM, ChgB.rf σ⟩
      · unfold gX10_post
        rw [x1, Option.bind_some, tv_if0, if_pos h1, x2, Option.bind_some, tv_if0, if_neg h2]
      · unfold gX11_post
        rw [m1, Option.bind_some, tv_if0, if_pos h1, m2, Option.bind_some, tv_if0, if_neg h2]
  · refine ⟨-1, σ, σ, ?_, ?_, hB.next, hM, ChgB.rf σ⟩
    · unfold gX10_post
      rw [x1, Option.bind_some, tv_if0, if_neg h1]
    · unfold gX11_post
      rw [m1, Option.bind_some, tv_if0, if_neg h1]
