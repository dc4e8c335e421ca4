-- PURE LAYER: worst (5): a net's value, the fold over all nets
def netT (τ : St) (n b : Nat) : St := fun a j => if a = 143 ∧ (j = 26 ∨ j = 27) then n else if a = 159 then 1 else if a = 160 then j else if a = 161 then 999 else if a = 162 then netw n b j else τ a j
theorem netT_o {τ : St} {n b : Nat} {a j : Int} (h1 : ¬ (a = 143 ∧ (j = 26 ∨ j = 27))) (h2 : ¬ (159 ≤ a ∧ a ≤ 162)) : netT τ n b a j = τ a j := by
  unfold netT
  rw [if_neg h1, if_neg (by omega), if_neg (by omega), if_neg (by omega), if_neg (by omega)]
theorem netT_en (τ : St) (n b : Nat) : EN n b (netT τ n b) := by
  refine ⟨⟨?_, ?_⟩, fun p _ _ => ⟨?_, ?_, ?_⟩, fun g p _ _ _ _ => ?_, fun j _ _ => ?_⟩
  · unfold netT; rw [if_pos (by omega)]
  · unfold netT; rw [if_pos (by omega)]
  · unfold netT; rw [if_neg (by omega), if_pos rfl]
  · unfold netT; rw [if_neg (by omega), if_neg (by omega), if_pos rfl]
  · unfold netT; rw [if_neg (by omega), if_neg (by omega), if_neg (by omega), if_pos rfl]
  · unfold netT; rw [if_neg (by omega), if_neg (by omega), if_neg (by omega), if_neg (by omega), if_pos rfl]
  · have := netw_01 n b j
    have e : netT τ n b 162 j = netw n b j := by unfold netT; rw [if_neg (by omega), if_neg (by omega), if_neg (by omega), if_neg (by omega), if_pos rfl]
    rw [e]; omega
/-- the value of net b under rule r, as the reference finds it -/
def VW (F : Nat) (r : Int) (τ : St) (n b : Nat) : Int := match gX11_runByNumbers F (netT τ n b) r with
  | some τ' => sumN (τ' 163) (τ' 143 26).toNat 0
  | none => 0
theorem clsVW {F : Nat} (hF : 100 ≤ F) {r : Int} (hr : 0 ≤ r ∧ r < 6) {n b : Nat} (hn : 1 ≤ n ∧ n ≤ 3) {σ τc : St} (hb : BN n b σ) (hl : RuleOK τc r) (hcs : ∀ c, 63 + 12 * r ≤ c → c ≤ 68 + 12 * r → σ c = τc c) :
    ∃ σ', gX7_runByNumbers F σ 33 (63 + 12 * r) = some σ' ∧ gX7_value F σ' 33 = some (VW F r τc n b) ∧ (0 ≤ VW F r τc n b ∧ VW F r τc n b ≤ 6000) ∧ ∀ c, ¬ (33 ≤ c ∧ c ≤ 42) → σ' c = σ c := by
  obtain ⟨σ', τ', v, d1, d2, d3, d4, d5, d6, d7, d8⟩ := net_run hF hr hn hb (netT_en τc n b) (hl.frame hr (fun a j q => netT_o (by unfold supR at q; omega) (by unfold supR at q; omega))) (fun c q1 q2 => by
    rw [hcs c q1 q2]; funext j; exact netT_o (by omega) (by omega))
  have ev : VW F r τc n b = v := by
    unfold VW
    rw [d3]
    exact d5.symm
  rw [ev]
  exact ⟨σ', d1, d2, d6, d7⟩
theorem refVW {F : Nat} (hF : 100 ≤ F) {r : Int} (hr : 0 ≤ r ∧ r < 6) {n b : Nat} (hn : 1 ≤ n ∧ n ≤ 3) {τ τc : St} (he : EN n b τ) (hRu : RuleOK τ r) (hl : RuleOK τc r) (hcs : ∀ c, 63 + 12 * r ≤ c → c ≤ 68 + 12 * r → τ c = τc c) :
    ∃ τ', gX11_runByNumbers F τ r = some τ' ∧ gX11_valueNow F τ' = some (VW F r τc n b) ∧ ∀ a b, ¬ supC a b → τ' a b = τ a b := by
  let σc : St := fun a j => if a = 27 then n else if a = 28 then 1 else if a = 29 then j else if a = 30 then 999 else if a = 32 then netw n b j else τc a j
  have so : ∀ c, 63 + 12 * r ≤ c → c ≤ 68 + 12 * r → σc c = τc c := fun c q1 q2 => by
    funext j
    show (if c = 27 then (n : Int) else if c = 28 then 1 else if c = 29 then j else if c = 30 then 999 else if c = 32 then netw n b j else τc c j) = τc c j
    rw [if_neg (by omega), if_neg (by omega), if_neg (by omega), if_neg (by omega), if_neg (by omega)]
  have hb : BN n b σc := ⟨⟨rfl, rfl⟩, fun p _ _ => ⟨rfl, rfl, rfl⟩, fun g p _ _ _ _ => rfl, fun j _ _ => by
    have := netw_01 n b j
    show 0 ≤ netw n b j ∧ netw n b j ≤ 99
    omega⟩
  obtain ⟨σ', τ', v, d1, d2, d3, d4, d5, d6, d7, d8⟩ := net_run hF hr hn hb he hRu (fun c q1 q2 => by rw [so c q1 q2]; exact hcs c q1 q2)
  obtain ⟨σ2, e1, e2, -, -⟩ := clsVW hF hr hn hb hl so
  rw [d1] at e1
  obtain rfl := Option.some.inj e1
  rw [d2] at e2
  rw [← Option.some.inj e2]
  exact ⟨τ', d3, d4, d8⟩
def wAdd (M : Int × Int × Int × Int) (v b x : Int) : Int × Int × Int × Int := if M.2.1 = 0 ∨ v * M.2.1 < M.1 * b then (v, b, x, if v = b then M.2.2.2 + 1 else M.2.2.2) else (M.1, M.2.1, M.2.2.1, if v = b then M.2.2.2 + 1 else M.2.2.2)
def WM (f : Nat → Int) (n : Nat) (s : Int) : Nat → Int × Int × Int × Int
  | 0 => (s, 0, 0, 0)
  | k + 1 => wAdd (WM f n s k) (f (k + 1)) (mpN n (k + 1) : Nat) ((k + 1 : Nat) : Int)
theorem WM_s (f : Nat → Int) (n : Nat) (s t : Int) : ∀ k, WM f n s (k + 1) = WM f n t (k + 1) := by
  intro k
  induction k with
  | zero =>
    show wAdd (s, 0, 0, 0) (f 1) (mpN n 1 : Nat) 1 = wAdd (t, 0, 0, 0) (f 1) (mpN n 1 : Nat) 1
    unfold wAdd
    rw [if_pos (Or.inl rfl), if_pos (Or.inl rfl)]
  | succ k ih =>
    show wAdd (WM f n s (k + 1)) _ _ _ = wAdd (WM f n t (k + 1)) _ _ _
    rw [ih]
def WR (M : Int × Int × Int × Int) (k : Nat) : Prop := (0 ≤ M.1 ∧ M.1 ≤ 6000) ∧ (0 ≤ M.2.1 ∧ M.2.1 ≤ 3) ∧ (0 ≤ M.2.2.1 ∧ M.2.2.1 ≤ k) ∧ (0 ≤ M.2.2.2 ∧ M.2.2.2 ≤ k)
theorem WM_rng {f : Nat → Int} {n : Nat} {s : Int} (hn : 1 ≤ n ∧ n ≤ 3) (hs : 0 ≤ s ∧ s ≤ 1) (hf : ∀ b, 0 ≤ f b ∧ f b ≤ 6000) : ∀ k, k < 2 ^ (n * n) → WR (WM f n s k) k ∧ (1 ≤ k → 1 ≤ (WM f n s k).2.1) := by
  intro k
  induction k with
  | zero => intro _; exact ⟨⟨⟨hs.1, by show s ≤ 6000; omega⟩, by show (0 : Int) ≤ 0 ∧ (0 : Int) ≤ 3; decide, by show (0 : Int) ≤ 0 ∧ (0 : Int) ≤ ((0 : Nat) : Int); decide, by show (0 : Int) ≤ 0 ∧ (0 : Int) ≤ ((0 : Nat) : Int); decide⟩, fun q => absurd q (by decide)⟩
  | succ k ih =>
    intro hk
    obtain ⟨⟨i1, i2, i3, i4⟩, i5⟩ := ih (by omega)
    have hp := most_tab hn hk
    have hv := hf (k + 1)
    show WR (wAdd (WM f n s k) (f (k + 1)) (mpN n (k + 1) : Nat) ((k + 1 : Nat) : Int)) (k + 1) ∧ (_ → 1 ≤ (wAdd (WM f n s k) (f (k + 1)) (mpN n (k + 1) : Nat) ((k + 1 : Nat) : Int)).2.1)
    generalize WM f n s k = M at *
    have h1 := hp.2.1 (by omega)
    have w : 0 ≤ (if f (k + 1) = ((mpN n (k + 1) : Nat) : Int) then M.2.2.2 + 1 else M.2.2.2) ∧ (if f (k + 1) = ((mpN n (k + 1) : Nat) : Int) then M.2.2.2 + 1 else M.2.2.2) ≤ ((k + 1 : Nat) : Int) := by
      split <;> omega
    unfold wAdd
    by_cases q : M.2.1 = 0 ∨ f (k + 1) * M.2.1 < M.1 * ((mpN n (k + 1) : Nat) : Int)
    · rw [if_pos q]
      exact ⟨⟨hv, by show 0 ≤ ((mpN n (k + 1) : Nat) : Int) ∧ ((mpN n (k + 1) : Nat) : Int) ≤ 3; omega, by show 0 ≤ ((k + 1 : Nat) : Int) ∧ ((k + 1 : Nat) : Int) ≤ ((k + 1 : Nat) : Int); omega, w⟩, fun _ => by show 1 ≤ ((mpN n (k + 1) : Nat) : Int); omega⟩
    · rw [if_neg q]
      have q0 : M.2.1 ≠ 0 := fun e => q (Or.inl e)
      exact ⟨⟨i1, i2, by show 0 ≤ M.2.2.1 ∧ M.2.2.1 ≤ ((k + 1 : Nat) : Int); omega, w⟩, fun _ => by show 1 ≤ M.2.1; omega⟩
theorem add_w {σ : St} {k v b x : Int} {M : Int × Int × Int × Int} {N : Nat} (hM : (σ k 0, σ k 1, σ k 2, σ k 3) = M) (hr : WR M N) (hN : N < 1000) (hv : 0 ≤ v ∧ v ≤ 6000) (hb : 1 ≤ b ∧ b ≤ 3) : ∃ σ', gX9_add σ k v b x = some σ' ∧ (σ' k 0, σ' k 1, σ' k 2, σ' k 3) = wAdd M v b x ∧ ∀ a j, ¬ (a = k ∧ 0 ≤ j ∧ j ≤ 3) → σ' a j = σ a j := by
  subst hM
  obtain ⟨r1, r2, r3, r4⟩ := hr
  simp only at r1 r2 r3 r4
  have m1 : 0 ≤ v * σ k 1 ∧ v * σ k 1 ≤ 6000 * 3 := ⟨Int.mul_nonneg hv.1 r2.1, Int.mul_le_mul hv.2 r2.2 r2.1 (by omega)⟩
  have m2 : 0 ≤ σ k 0 * b ∧ σ k 0 * b ≤ 6000 * 3 := ⟨Int.mul_nonneg r1.1 (by omega), Int.mul_le_mul r1.2 hb.2 (by omega) (by omega)⟩
  -- the rest, once whole is counted
  have go : ∀ s : St, (∀ a j, ¬ (a = k ∧ j = 3) → s a j = σ a j) → s k 3 = (if v = b then σ k 3 + 1 else σ k 3) → ∃ σ', gX9_add_L20 k v b x s = some σ' ∧ (σ' k 0, σ' k 1, σ' k 2, σ' k 3) = wAdd (σ k 0, σ k 1, σ k 2, σ k 3) v b x ∧ ∀ a j, ¬ (a = k ∧ 0 ≤ j ∧ j ≤ 3) → σ' a j = σ a j := by
    intro s h1 h2
    have s0 := h1 k 0 (by omega)
    have s1 := h1 k 1 (by omega)
    have s2 := h1 k 2 (by omega)
    unfold gX9_add_L20 gX9_add_L42
    rw [s0, s1, w32_id (a := σ k 1) (by omega), w32_id (a := v * σ k 1) (by omega), w32_id (a := σ k 0 * b) (by omega)]
    unfold wAdd
    simp only
    have take : ∃ σ', some (up (up (up s k 0 v) k 1 b) k 2 x) = some σ' ∧ (σ' k 0, σ' k 1, σ' k 2, σ' k 3) = (v, b, x, if v = b then σ k 3 + 1 else σ k 3) ∧ ∀ a j, ¬ (a = k ∧ 0 ≤ j ∧ j ≤ 3) → σ' a j = σ a j := by
      refine ⟨_, rfl, ?_, fun a j q => ?_⟩
      · simp (disch := decide) only [up_self, up_slot]
        rw [h2]
      · simp only [up_at]
        rw [if_neg (by omega), if_neg (by omega), if_neg (by omega), h1 a j (by omega)]
    by_cases q : σ k 1 = 0
    · rw [if_pos q, if_pos (Or.inl q)]
      exact take
    · rw [if_neg q]
      by_cases p : v * σ k 1 < σ k 0 * b
      · rw [if_neg (by omega), if_pos (Or.inr p)]
        exact take
      · rw [if_pos (by omega), if_neg (by omega)]
        refine ⟨s, rfl, ?_, fun a j q => h1 a j (by omega)⟩
        rw [s0, s1, s2, h2]
  unfold gX9_add
  rw [w32_id (a := b) (by omega), w32_id (a := v) (by omega), if_pos (show b > 0 by omega)]
  by_cases q : v = b
  · rw [if_neg (fun w => w q)]
    exact go (up σ k 3 (σ k 3 + 1)) (fun a j w => by rw [up_at, if_neg w]) (by rw [up_self, if_pos q])
  · rw [if_pos q]
    exact go σ (fun _ _ _ => rfl) (by rw [if_neg q])
-- the class's search
theorem search_18 {F : Nat} (hF : 1000 ≤ F) {r : Int} (hr : 0 ≤ r ∧ r < 6) {n : Nat} (hn : 1 ≤ n ∧ n ≤ 3) {τc : St} (hl : RuleOK τc r) : ∀ (m k j : Nat) (σ : St), j + m = 2 ^ (n * n) → 1 ≤ j → m < k → (σ 27 5 = n ∧ σ 27 6 = n) → (∀ p : Int, 0 ≤ p → p < n → σ 28 p = 1 ∧ σ 29 p = p ∧ σ 30 p = 999) → TrOK σ → (∀ c, 63 + 12 * r ≤ c → c ≤ 68 + 12 * r → σ c = τc c) →
    (σ (71 + 12 * r + n) 0, σ (71 + 12 * r + n) 1, σ (71 + 12 * r + n) 2, σ (71 + 12 * r + n) 3) = WM (VW F r τc n) n 0 (j - 1) → ∃ σ', gX10_searchNets_L18 F (63 + 12 * r) n (71 + 12 * r + n) k ((2 ^ (n * n) : Nat) : Int) j σ = some σ' ∧ (σ' (71 + 12 * r + n) 0, σ' (71 + 12 * r + n) 1, σ' (71 + 12 * r + n) 2, σ' (71 + 12 * r + n) 3) = WM (VW F r τc n) n 0 (2 ^ (n * n) - 1) ∧ TrOK σ' ∧ ∀ a b, ¬ (27 ≤ a ∧ a ≤ 42) → ¬ (45 ≤ a ∧ a ≤ 49) → ¬ (a = 71 + 12 * r + n ∧ 0 ≤ b ∧ b ≤ 3) → σ' a b = σ a b := by
  have hX : 2 ^ (n * n) ≤ 512 := by
    have : n = 1 ∨ n = 2 ∨ n = 3 := by omega
    rcases this with rfl | rfl | rfl <;> decide
  generalize hXe : 2 ^ (n * n) = X at *
  have hVW : ∀ b, 0 ≤ VW F r τc n b ∧ VW F r τc n b ≤ 6000 := fun b => by
    let σc : St := fun a j => if a = 27 then n else if a = 28 then 1 else if a = 29 then j else if a = 30 then 999 else if a = 32 then netw n b j else τc a j
    have so : ∀ c, 63 + 12 * r ≤ c → c ≤ 68 + 12 * r → σc c = τc c := fun c q1 q2 => by
      funext j
      show (if c = 27 then (n : Int) else if c = 28 then 1 else if c = 29 then j else if c = 30 then 999 else if c = 32 then netw n b j else τc c j) = τc c j
      rw [if_neg (by omega), if_neg (by omega), if_neg (by omega), if_neg (by omega), if_neg (by omega)]
    have hb : BN n b σc := ⟨⟨rfl, rfl⟩, fun p _ _ => ⟨rfl, rfl, rfl⟩, fun g p _ _ _ _ => rfl, fun j _ _ => by
      have := netw_01 n b j
      show 0 ≤ netw n b j ∧ netw n b j ≤ 99
      omega⟩
    obtain ⟨_, _, _, e3, _⟩ := clsVW (F := F) (by omega) hr hn hb hl so
    exact e3
  intro m
  induction m with
  | zero =>
    intro k j σ h1 h2 h3 h4 h5 h6 h7 h8
    obtain ⟨k, rfl⟩ : ∃ k', k = k' + 1 := ⟨k - 1, by omega⟩
    refine ⟨σ, ?_, by rw [h8, show j = X by omega], h6, fun _ _ _ _ _ => rfl⟩
    rw [gX10_searchNets_L18, w32_id (a := (j : Int)) (by omega), w32_id (a := (X : Int)) (by omega), if_pos (by omega)]
  | succ m ih =>
    intro k j σ h1 h2 h3 h4 h5 h6 h7 h8
    obtain ⟨k, rfl⟩ : ∃ k', k = k' + 1 := ⟨k - 1, by omega⟩
    obtain ⟨s1, a1, a2, a3⟩ := link_eq (F := F) (by omega) hn (b := j) (by omega) h4 h5 h6
    obtain ⟨s2, c1, c2, c3, c4⟩ := clsVW (F := F) (by omega) hr hn a2 hl (fun c q1 q2 => by
      rw [← h7 c q1 q2]; funext y; exact a3 c y (by omega))
    have e32 : s2 32 = s1 32 := c4 32 (by omega)
    obtain ⟨s3, d1, d2⟩ := greatest_eq (F := F) hF (σ := s2) (x1 := 27) (x2 := -4) (c := fun _ => 1) (w := s2 32) (P := n) (G := n) (fun p _ => by show (1 : Int) ≤ 1 ∧ (1 : Int) ≤ 4; decide) (by omega) (by
      have : n = 1 ∨ n = 2 ∨ n = 3 := by omega
      rcases this with rfl | rfl | rfl <;> decide) (fun y y1 y2 => by rw [e32]; exact a2.2.2.2 y y1 y2) (by omega) (Or.inr rfl) (Or.inl rfl) (by rw [c4 27 (by omega)]; exact a2.1.1) (by rw [c4 27 (by omega)]; exact a2.1.2) rfl (fun q hq => by
        have e : s2 (27 + 1) q = 1 := by
          show s2 28 q = 1
          rw [c4 28 (by omega)]; exact (a2.2.1 q (by omega) (by omega)).1
        rw [e, if_neg (by omega)]; rfl)
    have ed : dpI (fun _ => 1) (s2 32) n n 0 (stI (fun _ => 1) n - 1) = ((mpN n j : Nat) : Int) := by
      have t := (most_tab hn (b := j) (by omega)).1
      rw [t]
      unfold dpW
      refine dpI_w (G := (n : Int)) (fun g p g1 g2 p1 p2 => ?_) n 0 _ (by omega) (by omega)
      rw [e32]; exact a2.2.2.1 g p g1 g2 p1 p2
    rw [ed] at d1
    have hp := most_tab hn (b := j) (by omega)
    have hp1 := hp.2.1 h2
    have s3o : ∀ a b, ¬ (32 ≤ a ∧ a ≤ 42) → ¬ (45 ≤ a ∧ a ≤ 49) → s3 a b = σ a b := fun a b q1 q2 => by rw [d2 a b q2, c4 a (by omega), a3 a b (by omega)]
    obtain ⟨w1, w2⟩ := WM_rng (f := VW F r τc n) (s := 0) hn (by omega) hVW (j - 1) (by omega)
    obtain ⟨s4, f1, f2, f3⟩ := add_w (σ := s3) (k := 71 + 12 * r + n) (v := VW F r τc n j) (b := ((mpN n j : Nat) : Int)) (x := (j : Int)) (M := WM (VW F r τc n) n 0 (j - 1)) (N := j - 1) (by rw [s3o _ 0 (by omega) (by omega), s3o _ 1 (by omega) (by omega), s3o _ 2 (by omega) (by omega), s3o _ 3 (by omega) (by omega)]; exact h8) w1 (by omega) c3 (by omega)
    have ew : wAdd (WM (VW F r τc n) n 0 (j - 1)) (VW F r τc n j) ((mpN n j : Nat) : Int) (j : Int) = WM (VW F r τc n) n 0 j := by
      obtain ⟨i, rfl⟩ : ∃ i, j = i + 1 := ⟨j - 1, by omega⟩
      rfl
    rw [ew] at f2
    have s4o : ∀ a b, ¬ (32 ≤ a ∧ a ≤ 42) → ¬ (45 ≤ a ∧ a ≤ 49) → ¬ (a = 71 + 12 * r + n ∧ 0 ≤ b ∧ b ≤ 3) → s4 a b = σ a b := fun a b q1 q2 q3 => by rw [f3 a b q3, s3o a b q1 q2]
    have s4c : ∀ a, ¬ (32 ≤ a ∧ a ≤ 42) → ¬ (45 ≤ a ∧ a ≤ 49) → a ≠ 71 + 12 * r + n → s4 a = σ a := fun a q1 q2 q3 => by funext b; exact s4o a b q1 q2 (by omega)
    have s432 : s4 32 = s1 32 := by funext b; rw [f3 32 b (by omega), d2 32 b (by omega), e32]
    obtain ⟨σ', g1, g2, g3, g4⟩ := ih k (j + 1) s4 (by omega) (by omega) (by omega) (by rw [s4c 27 (by omega) (by omega) (by omega)]; exact h4) (fun p q1 q2 => by rw [s4c 28 (by omega) (by omega) (by omega), s4c 29 (by omega) (by omega) (by omega), s4c 30 (by omega) (by omega) (by omega)]; exact h5 p q1 q2) (fun y y1 y2 => by rw [s432]; exact a2.2.2.2 y y1 y2) (fun c q1 q2 => by rw [s4c c (by omega) (by omega) (by omega)]; exact h7 c q1 q2) (by rw [f2, Nat.add_sub_cancel])
    refine ⟨σ', ?_, g2, g3, fun a b q1 q2 q3 => by rw [g4 a b q1 q2 q3, s4o a b (by omega) q2 q3]⟩
    rw [gX10_searchNets_L18, w32_id (a := (j : Int)) (by omega), w32_id (a := (X : Int)) (by omega), if_neg (by omega), a1, Option.bind_some, c1, Option.bind_some, c2, Option.bind_some, d1, Option.bind_some, f1, Option.bind_some, show (j : Int) + 1 = ((j + 1 : Nat) : Int) by omega]
    exact g1
