-- PURE LAYER: mean over ranks, the reference
def suml : List Int → Int
  | [] => 0
  | v :: R => v + suml R
theorem suml_perm {l l' : List Int} (h : l.Perm l') : suml l = suml l' := by
  induction h with
  | nil => rfl
  | cons x _ ih => show x + _ = x + _; rw [ih]
  | swap x y l => show y + (x + _) = x + (y + _); omega
  | trans _ _ h1 h2 => rw [h1, h2]
theorem fold_sum : ∀ (R : List Int) (M : Int × Int × Int × Int), (R.foldl mAdd M).1 = M.1 + suml R := by
  intro R
  induction R with
  | nil => intro M; exact (Int.add_zero _).symm
  | cons v R ih =>
    intro M
    show (R.foldl mAdd (mAdd M v)).1 = _
    rw [ih]
    show M.1 + v + suml R = M.1 + (v + suml R)
    omega
def LdR (σ0 : St) (r : Int) (τ : St) : Prop := (τ 143 26 = σ0 1 5 ∧ τ 143 27 = σ0 1 6 ∧ τ 143 0 = σ0 1 5) ∧ (∀ p, 0 ≤ p → p < 6 → τ 159 p = σ0 2 p ∧ τ 161 p = σ0 4 p ∧ (σ0 1 5 ≤ p → τ 160 p = σ0 3 p)) ∧ (∀ j, 0 ≤ j → j < 54 → τ 162 j = σ0 6 j) ∧ RuleOK τ r ∧ (∀ c, 63 + 12 * r ≤ c → c ≤ 68 + 12 * r → τ c = σ0 c) ∧ ∀ b, τ 145 b = σ0 3 b
theorem LdR.frame {σ0 τ τ' : St} {r : Int} (hr : 0 ≤ r ∧ r < 6) (h : LdR σ0 r τ) (hs : ∀ a b, ¬ supC a b → a ≠ 166 → ¬ (a = 160 ∧ 0 ≤ b ∧ b < σ0 1 5) → τ' a b = τ a b) : LdR σ0 r τ' := by
  obtain ⟨⟨h1, h2, h3⟩, h4, h5, h6, h7, h8⟩ := h
  refine ⟨⟨by rw [hs 143 26 (by unfold supC; omega) (by omega) (by omega)]; exact h1, by rw [hs 143 27 (by unfold supC; omega) (by omega) (by omega)]; exact h2, by rw [hs 143 0 (by unfold supC; omega) (by omega) (by omega)]; exact h3⟩, fun p q1 q2 => ?_, fun j q1 q2 => by rw [hs 162 j (by unfold supC; omega) (by omega) (by omega)]; exact h5 j q1 q2, h6.frame hr (fun a b q => hs a b (by unfold supR at q; unfold supC; omega) (by unfold supR at q; omega) (by unfold supR at q; omega)), fun c q1 q2 => by rw [← h7 c q1 q2]; funext b; exact hs c b (by unfold supC; omega) (by omega) (by omega), fun b => by rw [hs 145 b (by unfold supC; omega) (by omega) (by omega)]; exact h8 b⟩
  obtain ⟨a1, a2, a3⟩ := h4 p q1 q2
  exact ⟨by rw [hs 159 p (by unfold supC; omega) (by omega) (by omega)]; exact a1, by rw [hs 161 p (by unfold supC; omega) (by omega) (by omega)]; exact a2, fun q => by rw [hs 160 p (by unfold supC; omega) (by omega) (by omega)]; exact a3 q⟩
theorem rks_46 {F : Nat} {r x2 sum many : Int} {c38 : Int → Int → Int → St → Option (Int × St)} {P : Nat} (hP6 : P ≤ 6) : ∀ (m k p : Nat) (τ : St), p + m = P → τ 143 0 = (P : Int) → (∀ b : Int, 0 ≤ b → b < P → 0 ≤ τ 166 b ∧ τ 166 b < 6) → m < k → ∃ τ1, gX11_meanOfRanks_L46 F r x2 c38 k sum many p τ = ((gX11_runByNumbers F τ1 r).bind fun r1 => (gX11_valueNow F r1).bind fun r2 => (gX11_nextOrder F r1 (r1 143 0)).bind fun r3 => c38 (sum + (w32 r2)) (many + 1) r3.1 r3.2) ∧ ∀ a b, τ1 a b = if a = 160 ∧ (p : Int) ≤ b ∧ b < P then τ 145 (τ 166 b) else τ a b := by
  intro m
  induction m with
  | zero =>
    intro k p τ h1 h2 h3 h4
    obtain ⟨k, rfl⟩ : ∃ n', k = n' + 1 := ⟨k - 1, by omega⟩
    exact ⟨τ, by rw [gX11_meanOfRanks_L46, h2, w32_id (a := (p : Int)) (by omega), w32_id (a := (P : Int)) (by omega), if_pos (by omega)], fun a b => by rw [if_neg (by omega)]⟩
  | succ m ih =>
    intro k p τ h1 h2 h3 h4
    obtain ⟨k, rfl⟩ : ∃ n', k = n' + 1 := ⟨k - 1, by omega⟩
    have a1 := h3 p (by omega) (by omega)
    have uc : ∀ a v, a ≠ 160 → up τ 160 p v a = τ a := fun a v q => up_cell q
    obtain ⟨τ1, d1, d2⟩ := ih k (p + 1) (up τ 160 p (τ 145 (τ 166 p))) (by omega) (by rw [uc 143 _ (by omega)]; exact h2) (fun b q1 q2 => by rw [uc 166 _ (by omega)]; exact h3 b q1 q2) (by omega)
    refine ⟨τ1, ?_, fun a b => ?_⟩
    · rw [gX11_meanOfRanks_L46, h2, w32_id (a := (p : Int)) (by omega), w32_id (a := (P : Int)) (by omega), if_neg (by omega), gd_pos (by omega), w32_id (a := τ 166 p) (by omega), gd_pos (by omega), gd_pos (by omega)]
      exact d1
    · rw [d2, uc 145 _ (by omega), uc 166 _ (by omega), up_at]
      by_cases q : a = 160 ∧ b = (p : Int)
      · obtain ⟨rfl, rfl⟩ := q
        rw [if_neg (by omega), if_pos ⟨rfl, rfl⟩, if_pos (by omega)]
      · have k1 : (a = 160 ∧ ((p + 1 : Nat) : Int) ≤ b ∧ b < P) = (a = 160 ∧ (p : Int) ≤ b ∧ b < P) := propext (by omega)
        simp only [if_neg q, k1]
theorem rks_38 {F : Nat} (hF : 1000 ≤ F) {r x2 : Int} (hr : 0 ≤ r ∧ r < 6) {σ0 τc : St} (hB : BdOK σ0 1) (hl : Loaded σ0 r τc) {P : Nat} (hP : σ0 1 5 = (P : Int)) (hP6 : P ≤ 6) : ∀ (R : List (List Int)) (L : List Int) (k : Nat) (τ : St) (sum many : Int), chkOr P (L :: R) = true → (∀ X ∈ L :: R, X.length = P ∧ (∀ g ∈ X, 0 ≤ g ∧ g < (P : Int)) ∧ X.Nodup) → LdR σ0 r τ → OrR (τ 166) → (∀ j : Nat, j < P → τ 166 j = lF L j) → R.length + 1 < k →
    ∃ τ', gX11_meanOfRanks_L38 F r x2 k sum many 1 τ = ((gX11_lowest F τ' (sum + suml ((L :: R).map fun L => VR F r τc (rhoL σ0 L))) (many + ((L :: R).length : Int)) x2).bind fun r1 => some (r1, τ')) ∧ (∀ X ∈ L :: R, 0 ≤ VR F r τc (rhoL σ0 X) ∧ VR F r τc (rhoL σ0 X) ≤ 6000) ∧ ∀ a b, ¬ supC a b → a ≠ 166 → a ≠ 160 → τ' a b = τ a b := by
  have lok : ∀ X : List Int, X.length = P ∧ (∀ g ∈ X, 0 ≤ g ∧ g < (P : Int)) ∧ X.Nodup → LOK P X := fun X h => ⟨h.1, fun b hb => by
    unfold lF
    rw [Int.toNat_natCast]
    have hb' : b < X.length := by rw [h.1]; exact hb
    rw [List.getD_eq_getElem?_getD, List.getElem?_eq_getElem hb']
    exact h.2.1 _ (List.getElem_mem hb')⟩
  have body : ∀ (L : List Int) (k : Nat) (τ : St) (sum many : Int), LOK P L → LdR σ0 r τ → OrR (τ 166) → (∀ j : Nat, j < P → τ 166 j = lF L j) → ∃ τ2, gX11_meanOfRanks_L38 F r x2 (k + 1) sum many 1 τ = gX11_meanOfRanks_L38 F r x2 k (sum + VR F r τc (rhoL σ0 L)) (many + 1) (nxt P (lF L)).1 τ2 ∧ (0 ≤ VR F r τc (rhoL σ0 L) ∧ VR F r τc (rhoL σ0 L) ≤ 6000) ∧ (∀ b : Nat, b < P → τ2 166 b = (nxt P (lF L)).2 b) ∧ (∀ b, (b < 0 ∨ (P : Int) ≤ b) → τ2 166 b = τ 166 b) ∧ LdR σ0 r τ2 ∧ ∀ a b, ¬ supC a b → a ≠ 166 → a ≠ 160 → τ2 a b = τ a b := by
    intro L k τ sum many h1 h2 h3 h4
    have oi : ∀ b : Int, 0 ≤ b → b < P → τ 166 b = lF L b := fun b q1 q2 => by
      have := h4 b.toNat (by omega)
      rw [Int.toNat_of_nonneg q1] at this
      exact this
    obtain ⟨τ1, a1, a2⟩ := rks_46 (F := F) (r := r) (x2 := x2) (sum := sum) (many := many) (c38 := gX11_meanOfRanks_L38 F r x2 k) hP6 P F 0 τ (by omega) (by rw [h2.1.2.2]; exact hP) (fun b q1 q2 => by
      have := h1.2 b.toNat (by omega)
      rw [Int.toNat_of_nonneg q1] at this
      rw [oi b q1 q2]
      omega) (by omega)
    have l1 : LdR σ0 r τ1 := h2.frame hr (fun a b q1 q2 q3 => by rw [a2, if_neg (by omega)])
    have eb : EB σ0 τ1 (rhoL σ0 L) := by
      obtain ⟨⟨e1, e2, e3⟩, e4, e5, e6, e7, e8⟩ := l1
      refine ⟨⟨e1, e2⟩, fun p q1 q2 => ⟨(e4 p q1 q2).1, ?_, (e4 p q1 q2).2.1⟩, e5⟩
      unfold rhoL
      by_cases z : 0 ≤ p ∧ p < σ0 1 5
      · rw [if_pos z, a2, if_pos (by omega), oi p q1 (by omega)]
        exact h2.2.2.2.2.2 _
      · rw [if_neg z]; exact (e4 p q1 q2).2.2 (by omega)
    obtain ⟨τ', c1, c2, c3, c4⟩ := refVR (F := F) (by omega) hr hB (h1.rk hB hP) eb l1.2.2.2.1 l1.2.2.2.2.1 hl
    have e0 : τ' 143 0 = (P : Int) := by rw [c4 143 0 (by unfold supC; omega), l1.1.2.2]; exact hP
    have o166 : τ' 166 = τ 166 := by funext b; rw [c4 166 b (by unfold supC; omega), a2, if_neg (by omega)]
    obtain ⟨τ2, n1, n2, n3⟩ := next_eq (F := F) (by omega) (n := (P : Int)) (by omega) (σ := τ') (by rw [o166]; exact h3)
    have hcg := nxt_congr (n := (P : Int)) (by omega) (f := τ' 166) (f' := lF L) (fun b q1 q2 => by rw [o166]; exact oi b q1 q2)
    refine ⟨τ2, ?_, c3, fun b hb => by rw [n2]; exact hcg.2 b (by omega) (by omega), fun b hb => by rw [n2, nxt_out (n := (P : Int)) (by omega) hb, o166], ?_, fun a b q1 q2 q3 => by rw [n3 a q2, c4 a b q1, a2, if_neg (by omega)]⟩
    · rw [gX11_meanOfRanks_L38, if_neg (by decide)]
      refine a1.trans ?_
      rw [c1, Option.bind_some, c2, Option.bind_some, e0, n1, Option.bind_some, w32_id (a := VR F r τc (rhoL σ0 L)) (by omega), hcg.1]
    · exact l1.frame hr (fun a b q1 q2 q3 => by rw [n3 a q2, c4 a b q1])
  intro R
  induction R with
  | nil =>
    intro L k τ sum many h1 h2 h3 h4 h5 h6
    obtain ⟨k, rfl⟩ : ∃ n', k = n' + 1 + 1 := ⟨k - 2, by have : ([] : List (List Int)).length = 0 := rfl; omega⟩
    obtain ⟨τ2, d1, d2, d3, d4, d5, d6⟩ := body L (k + 1) τ sum many (lok L (h2 L (by simp))) h3 h4 h5
    have hl' : (nxt P (lF L)).1 = 0 := of_decide_eq_true h1
    refine ⟨τ2, ?_, fun X hX => ?_, d6⟩
    · rw [d1, hl', gX11_meanOfRanks_L38, if_pos (by decide)]
      have e1 : suml ([L].map fun L => VR F r τc (rhoL σ0 L)) = VR F r τc (rhoL σ0 L) := Int.add_zero _
      rw [e1]
      rfl
    · have : X = L := by simpa using hX
      rw [this]; exact d2
  | cons L' R ih =>
    intro L k τ sum many h1 h2 h3 h4 h5 h6
    obtain ⟨k, rfl⟩ : ∃ n', k = n' + 1 := ⟨k - 1, by omega⟩
    have hk : (L' :: R).length = R.length + 1 := rfl
    obtain ⟨τ2, d1, d2, d3, d4, d5, d6⟩ := body L k τ sum many (lok L (h2 L (by simp))) h3 h4 h5
    have h1' : (decide ((nxt P (lF L)).1 = 1) && (List.range P).all (fun b => decide ((nxt P (lF L)).2 (b : Int) = lF L' b)) && chkOr P (L' :: R)) = true := h1
    rw [Bool.and_eq_true, Bool.and_eq_true, List.all_eq_true] at h1'
    obtain ⟨⟨t1, t2⟩, t3⟩ := h1'
    have hl' : (nxt P (lF L)).1 = 1 := of_decide_eq_true t1
    have ord' : ∀ j : Nat, j < P → τ2 166 j = lF L' j := fun j hj => by rw [d3 j hj]; exact of_decide_eq_true (t2 j (List.mem_range.mpr hj))
    have lk' := lok L' (h2 L' (by simp))
    obtain ⟨τ', f1, f2, f3⟩ := ih L' k τ2 (sum + VR F r τc (rhoL σ0 L)) (many + 1) t3 (fun Y hY => h2 Y (List.mem_cons_of_mem _ hY)) d5 (by
      intro b q1 q2
      by_cases z : b < P
      · have e := ord' b.toNat (by omega)
        have := lk'.2 b.toNat (by omega)
        rw [Int.toNat_of_nonneg q1] at e this
        rw [e]
        omega
      · rw [d4 b (by omega)]; exact h4 b q1 q2) ord' (by omega)
    refine ⟨τ', ?_, fun X hX => ?_, fun a b q1 q2 q3 => by rw [f3 a b q1 q2 q3, d6 a b q1 q2 q3]⟩
    · rw [d1, hl', f1]
      have e1 : suml ((L :: L' :: R).map fun L => VR F r τc (rhoL σ0 L)) = VR F r τc (rhoL σ0 L) + suml ((L' :: R).map fun L => VR F r τc (rhoL σ0 L)) := rfl
      have e2 : many + 1 + ((L' :: R).length : Int) = many + ((L :: L' :: R).length : Int) := by
        have : (L :: L' :: R).length = (L' :: R).length + 1 := rfl
        rw [this]
        omega
      rw [e1, e2, Int.add_assoc]
    · rcases List.mem_cons.mp hX with h | h
      · rw [h]; exact d2
      · exact f2 X h
