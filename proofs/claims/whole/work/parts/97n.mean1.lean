-- PURE LAYER: mean, the reference
def SM (σ : St) (M : Int × Int × Int × Int) : Prop := σ 143 43 = M.1 ∧ σ 143 44 = M.2.1 ∧ (M.2.1 = 0 → M.2.2.2 = 0) ∧ (M.2.1 ≠ 0 → σ 143 45 = M.2.2.1 ∧ σ 143 46 = M.2.2.2)
theorem rvF_out {n : Int} : ∀ (m : Nat) (a b : Int) (f : Int → Int) (x : Int), 0 ≤ a → b < n → (x < 0 ∨ n ≤ x) → rvF m a b f x = f x := by
  intro m
  induction m with
  | zero => intro a b f x _ _ _; rfl
  | succ m ih =>
    intro a b f x h1 h2 h3
    have e : rvF (m + 1) a b f = if b ≤ a then f else rvF m (a + 1) (b - 1) (swF f a b) := rfl
    rw [e]
    by_cases z : b ≤ a
    · rw [if_pos z]
    · rw [if_neg z, ih (a + 1) (b - 1) _ x (by omega) (by omega) h3]
      unfold swF
      rw [upf_ne (by omega), upf_ne (by omega)]
theorem nxt_out {f : Int → Int} {n b : Int} (hn : 0 ≤ n ∧ n ≤ 9) (hb : b < 0 ∨ n ≤ b) : (nxt n f).2 b = f b := by
  obtain ⟨-, a2⟩ := nxI_spec (n := n) (f := f) (f' := f) (fun _ _ _ => rfl) 9 (n - 2) (by omega) (by omega)
  unfold nxt
  generalize nxI f 9 (n - 2) = i at *
  by_cases z : i < 0
  · rw [if_pos z]
  · have q : 0 ≤ i ∧ i + 1 < n ∧ f i ≤ f (i + 1) := by omega
    obtain ⟨-, b2⟩ := nxJ_spec (n := n) (f := f) (f' := f) (fun _ _ _ => rfl) ⟨q.1, q.2.1⟩ q.2.2 9 (n - 1) (by omega) (by omega)
    rw [if_neg z]
    show rvF 9 (i + 1) (n - 1) (swF f i (nxJ f i 9 (n - 1))) b = f b
    rw [rvF_out (n := n) 9 (i + 1) (n - 1) _ b (by omega) (by omega) hb]
    unfold swF
    rw [upf_ne (by omega), upf_ne (by omega)]
/-- one value more -/
theorem lay_add {F : Nat} {r v : Int} {c20 : Int → St → Option St} {σ : St} {M : Int × Int × Int × Int} {N : Nat} (h : SM σ M) (hm : MR M (N + 1)) (hv : 0 ≤ v ∧ v ≤ 6000) :
    ∃ X, (if w64 (σ 143 44) = 0 then gX11_layMean_L48 F r c20 v σ else if w32 v ≥ w32 (σ 143 45) then gX11_layMean_L56 F r c20 v (σ 143 45) σ else gX11_layMean_L48 F r c20 v σ) = ((gX11_nextOrder F X (σ 143 4)).bind fun r1 => c20 r1.1 r1.2) ∧ SM X (mAdd M v) ∧ ∀ a b, ¬ (a = 143 ∧ 43 ≤ b ∧ b ≤ 46) → X a b = σ a b := by
  obtain ⟨s1, s2, s3, s4⟩ := h
  obtain ⟨m1, m2, m3, m4⟩ := hm
  have wv : w32 v = v := w32_id (by omega)
  have L85 : ∀ lo hi, gX11_layMean_L85 F r c20 v hi (up σ 143 45 lo) = ((gX11_nextOrder F (up (up (up (up σ 143 45 lo) 143 46 hi) 143 43 (σ 143 43 + v)) 143 44 (σ 143 44 + 1)) (σ 143 4)).bind fun r1 => c20 r1.1 r1.2) := by
    intro lo hi
    unfold gX11_layMean_L85
    have e1 : up (up σ 143 45 lo) 143 46 hi 143 43 = σ 143 43 := by rw [up_at, if_neg (by omega), up_at, if_neg (by omega)]
    have e2 : ∀ w, up (up (up σ 143 45 lo) 143 46 hi) 143 43 w 143 44 = σ 143 44 := fun w => by rw [up_at, if_neg (by omega), up_at, if_neg (by omega), up_at, if_neg (by omega)]
    have e3 : ∀ w u, up (up (up (up σ 143 45 lo) 143 46 hi) 143 43 w) 143 44 u 143 4 = σ 143 4 := fun w u => by rw [up_at, if_neg (by omega), up_at, if_neg (by omega), up_at, if_neg (by omega), up_at, if_neg (by omega)]
    rw [e1, e2, wv, e3]
  have sm : ∀ lo hi, lo = (mAdd M v).2.2.1 → hi = (mAdd M v).2.2.2 → SM (up (up (up (up σ 143 45 lo) 143 46 hi) 143 43 (σ 143 43 + v)) 143 44 (σ 143 44 + 1)) (mAdd M v) ∧ ∀ a b, ¬ (a = 143 ∧ 43 ≤ b ∧ b ≤ 46) → up (up (up (up σ 143 45 lo) 143 46 hi) 143 43 (σ 143 43 + v)) 143 44 (σ 143 44 + 1) a b = σ a b := by
    intro lo hi h1 h2
    refine ⟨⟨?_, ?_, fun z => ?_, fun _ => ⟨?_, ?_⟩⟩, fun a b q => by rw [up_at, if_neg (by omega), up_at, if_neg (by omega), up_at, if_neg (by omega), up_at, if_neg (by omega)]⟩
    · rw [up_at, if_neg (by omega), up_self, s1]; rfl
    · rw [up_self, s2]; rfl
    · have z' : M.2.1 + 1 = 0 := z
      omega
    · rw [up_at, if_neg (by omega), up_at, if_neg (by omega), up_at, if_neg (by omega), up_self, h1]
    · rw [up_at, if_neg (by omega), up_at, if_neg (by omega), up_self, h2]
  have g44 : ∀ lo, up σ 143 45 lo 143 44 = σ 143 44 := fun lo => by rw [up_at, if_neg (by omega)]
  have g46 : ∀ lo, up σ 143 45 lo 143 46 = σ 143 46 := fun lo => by rw [up_at, if_neg (by omega)]
  have el : (mAdd M v).2.2.1 = if M.2.1 = 0 then v else if v < M.2.2.1 then v else M.2.2.1 := rfl
  have eh : (mAdd M v).2.2.2 = if M.2.2.2 < v then v else M.2.2.2 := rfl
  have w44 : w64 (σ 143 44) = M.2.1 := by rw [s2]; exact w64_id (by omega)
  -- what follows once the least is known
  have L56 : ∀ lo, lo = (mAdd M v).2.2.1 → ∃ X, gX11_layMean_L56 F r c20 v lo σ = ((gX11_nextOrder F X (σ 143 4)).bind fun r1 => c20 r1.1 r1.2) ∧ SM X (mAdd M v) ∧ ∀ a b, ¬ (a = 143 ∧ 43 ≤ b ∧ b ≤ 46) → X a b = σ a b := by
    intro lo hlo
    unfold gX11_layMean_L56 gX11_layMean_L77
    rw [g44, w44, g46]
    by_cases z : M.2.1 = 0
    · rw [if_pos z, L85 lo v]
      exact ⟨_, rfl, sm lo v hlo (by rw [eh, s3 z]; split <;> omega)⟩
    · have s46 := (s4 z).2
      rw [if_neg z, wv, s46, w32_id (a := M.2.2.2) (by omega)]
      by_cases y : v ≤ M.2.2.2
      · rw [if_pos y, L85 lo M.2.2.2]
        exact ⟨_, rfl, sm lo M.2.2.2 hlo (by rw [eh, if_neg (by omega)])⟩
      · rw [if_neg y, L85 lo v]
        exact ⟨_, rfl, sm lo v hlo (by rw [eh, if_pos (by omega)])⟩
  rw [w44]
  unfold gX11_layMean_L48
  by_cases z : M.2.1 = 0
  · rw [if_pos z]
    exact L56 v (by rw [el, if_pos z])
  · have s45 := (s4 z).1
    rw [if_neg z, wv, s45, w32_id (a := M.2.2.1) (by omega)]
    by_cases y : v ≥ M.2.2.1
    · rw [if_pos y]
      exact L56 M.2.2.1 (by rw [el, if_neg z, if_neg (by omega)])
    · rw [if_neg y]
      exact L56 v (by rw [el, if_neg z, if_pos (by omega)])
theorem layM_20 {F : Nat} (hF : 1000 ≤ F) {r : Int} (hr : 0 ≤ r ∧ r < 6) {σ0 τc : St} (hx : Ready σ0 r τc) (hB : BdOK σ0 1) {G : Nat} (hG : σ0 1 6 = (G : Int)) (hG6 : G ≤ 6) : ∀ (R : List (List Int)) (L : List Int) (k : Nat) (τ : St) (M : Int × Int × Int × Int), chkOr G (L :: R) = true → (∀ X ∈ L :: R, X.length = G ∧ (∀ g ∈ X, 0 ≤ g ∧ g < (G : Int)) ∧ X.Nodup) → Loaded σ0 r τ → τ 143 4 = (G : Int) → OrR (τ 166) → (∀ j : Nat, j < G → τ 166 j = lF L j) → SM τ M → MR M (R.length + 1) → R.length + 1 < k →
    ∃ τ', gX11_layMean_L20 F r k 1 τ = some τ' ∧ SM τ' (((L :: R).map (VL F r τc)).foldl mAdd M) ∧ MR (((L :: R).map (VL F r τc)).foldl mAdd M) 0 ∧ ∀ a b, ¬ supC a b → a ≠ 166 → ¬ (a = 143 ∧ 43 ≤ b ∧ b ≤ 46) → τ' a b = τ a b := by
  intro R
  induction R with
  | nil =>
    intro L k τ M h1 h2 h3 h4 h5 h6 h7 h8 h9
    obtain ⟨k, rfl⟩ : ∃ n', k = n' + 1 + 1 := ⟨k - 2, by omega⟩
    obtain ⟨g1, g2, g3⟩ := h2 L (by simp)
    obtain ⟨τ1, d1, d2, d3⟩ := runByOrder_eq (F := F) (by omega) hr hx hB hG hG6 g1 g2 g3 h3 h6
    obtain ⟨X, e1, e2, e3⟩ := lay_add (F := F) (r := r) (v := VL F r τc L) (c20 := gX11_layMean_L20 F r (k + 1)) (σ := τ1) (M := M) (N := 0) (by
      obtain ⟨s1, s2, s3, s4⟩ := h7
      refine ⟨by rw [d3 143 43 (by unfold supC; omega)]; exact s1, by rw [d3 143 44 (by unfold supC; omega)]; exact s2, s3, fun z => ?_⟩
      rw [d3 143 45 (by unfold supC; omega), d3 143 46 (by unfold supC; omega)]
      exact s4 z) h8 d2
    have xo : X 166 = τ 166 := by funext b; rw [e3 166 b (by omega), d3 166 b (by unfold supC; omega)]
    have t4 : τ1 143 4 = (G : Int) := by rw [d3 143 4 (by unfold supC; omega)]; exact h4
    obtain ⟨σ', n1, n2, n3⟩ := next_eq (F := F) (by omega) (n := (G : Int)) (by omega) (σ := X) (by rw [xo]; exact h5)
    have hc := (nxt_congr (n := (G : Int)) (by omega) (f := X 166) (f' := lF L) (fun b q1 q2 => by rw [xo]; have := h6 b.toNat (by omega); rw [Int.toNat_of_nonneg q1] at this; exact this)).1
    have hl : (nxt G (lF L)).1 = 0 := of_decide_eq_true h1
    refine ⟨σ', ?_, ?_, ?_, fun a b q1 q2 q3 => ?_⟩
    · rw [gX11_layMean_L20, if_neg (by decide), d1, Option.bind_some, e1, t4, n1, Option.bind_some, hc, hl, gX11_layMean_L20, if_pos (by decide)]
    · have e2' : SM σ' (mAdd M (VL F r τc L)) := by
        obtain ⟨s1, s2, s3, s4⟩ := e2
        unfold SM
        rw [n3 143 (by omega)]
        exact ⟨s1, s2, s3, s4⟩
      exact e2'
    · exact h8.add d2
    · rw [n3 a q2, e3 a b q3, d3 a b q1]
  | cons L' R ih =>
    intro L k τ M h1 h2 h3 h4 h5 h6 h7 h8 h9
    obtain ⟨k, rfl⟩ : ∃ n', k = n' + 1 := ⟨k - 1, by omega⟩
    obtain ⟨g1, g2, g3⟩ := h2 L (by simp)
    have hk : (L' :: R).length = R.length + 1 := rfl
    obtain ⟨τ1, d1, d2, d3⟩ := runByOrder_eq (F := F) (by omega) hr hx hB hG hG6 g1 g2 g3 h3 h6
    obtain ⟨X, e1, e2, e3⟩ := lay_add (F := F) (r := r) (v := VL F r τc L) (c20 := gX11_layMean_L20 F r k) (σ := τ1) (M := M) (N := R.length + 1) (by
      obtain ⟨s1, s2, s3, s4⟩ := h7
      refine ⟨by rw [d3 143 43 (by unfold supC; omega)]; exact s1, by rw [d3 143 44 (by unfold supC; omega)]; exact s2, s3, fun z => ?_⟩
      rw [d3 143 45 (by unfold supC; omega), d3 143 46 (by unfold supC; omega)]
      exact s4 z) h8 d2
    have xo : X 166 = τ 166 := by funext b; rw [e3 166 b (by omega), d3 166 b (by unfold supC; omega)]
    have t4 : τ1 143 4 = (G : Int) := by rw [d3 143 4 (by unfold supC; omega)]; exact h4
    obtain ⟨σ', n1, n2, n3⟩ := next_eq (F := F) (by omega) (n := (G : Int)) (by omega) (σ := X) (by rw [xo]; exact h5)
    have hcg := nxt_congr (n := (G : Int)) (by omega) (f := X 166) (f' := lF L) (fun b q1 q2 => by rw [xo]; have := h6 b.toNat (by omega); rw [Int.toNat_of_nonneg q1] at this; exact this)
    have h1' : (decide ((nxt G (lF L)).1 = 1) && (List.range G).all (fun b => decide ((nxt G (lF L)).2 (b : Int) = lF L' b)) && chkOr G (L' :: R)) = true := h1
    rw [Bool.and_eq_true, Bool.and_eq_true, List.all_eq_true] at h1'
    obtain ⟨⟨t1, t2⟩, t3⟩ := h1'
    have hl : (nxt G (lF L)).1 = 1 := of_decide_eq_true t1
    obtain ⟨i1, i2, i3⟩ := h2 L' (by simp)
    have e2' : SM σ' (mAdd M (VL F r τc L)) := by
      obtain ⟨s1, s2, s3, s4⟩ := e2
      unfold SM
      rw [n3 143 (by omega)]
      exact ⟨s1, s2, s3, s4⟩
    have so : ∀ a b, ¬ supC a b → a ≠ 166 → ¬ (a = 143 ∧ 43 ≤ b ∧ b ≤ 46) → σ' a b = τ a b := fun a b q1 q2 q3 => by rw [n3 a q2, e3 a b q3, d3 a b q1]
    have ord' : ∀ j : Nat, j < G → σ' 166 j = lF L' j := fun j hj => by
      rw [n2, hcg.2 j (by omega) (by omega)]
      exact of_decide_eq_true (t2 j (List.mem_range.mpr hj))
    obtain ⟨τ', f1, f2, f3, f4⟩ := ih L' k σ' (mAdd M (VL F r τc L)) t3 (fun Y hY => h2 Y (List.mem_cons_of_mem _ hY)) (h3.frame hr (fun a b q1 q2 q3 => so a b q1 q2 (by omega))) (by rw [so 143 4 (by unfold supC; omega) (by omega) (by omega)]; exact h4) (by
      intro b q1 q2
      by_cases z : b < G
      · have := ord' b.toNat (by omega)
        rw [Int.toNat_of_nonneg q1] at this
        rw [this]
        unfold lF
        have hb : b.toNat < L'.length := by omega
        rw [List.getD_eq_getElem?_getD, List.getElem?_eq_getElem hb]
        have := i2 _ (List.getElem_mem hb)
        show 0 ≤ L'[b.toNat] ∧ L'[b.toNat] ≤ 8
        omega
      · rw [n2]
        have keep := nxt_out (n := (G : Int)) (by omega) (f := X 166) (b := b) (by omega)
        rw [keep, xo]
        exact h5 b q1 q2) ord' e2' (h8.add d2) (by omega)
    refine ⟨τ', ?_, f2, f3, fun a b q1 q2 q3 => by rw [f4 a b q1 q2 q3, so a b q1 q2 q3]⟩
    rw [gX11_layMean_L20, if_neg (by decide), d1, Option.bind_some, e1, t4, n1, Option.bind_some, hcg.1, hl]
    exact f1
