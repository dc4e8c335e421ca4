-- PURE LAYER: worst (2): a small net's bits, its most pairs
def netw (n b : Nat) : Int → Int := fun j => (((b / 2 ^ (n * (j.toNat / 6) + j.toNat % 6)) % 2 : Nat) : Int)
theorem netw_at (n b : Nat) {g p : Int} (hg : 0 ≤ g) (hp : 0 ≤ p ∧ p < 6) : netw n b (6 * g + p) = (((b / 2 ^ (n * g.toNat + p.toNat)) % 2 : Nat) : Int) := by
  unfold netw
  rw [show (6 * g + p).toNat / 6 = g.toNat by omega, show (6 * g + p).toNat % 6 = p.toNat by omega]
theorem netw_01 (n b : Nat) (j : Int) : 0 ≤ netw n b j ∧ netw n b j ≤ 1 := by
  unfold netw
  omega
theorem bit_tab : ∀ b : Fin 512, ∀ k : Fin 9, ishr ((b.val : Nat) : Int) ((k.val : Nat) : Int) = ((b.val / 2 ^ k.val : Nat) : Int) := by decide +kernel
theorem bit_tab2 : ∀ b : Fin 512, ishr ((b.val : Nat) : Int) 1 = ((b.val / 2 : Nat) : Int) ∧ iand ((b.val : Nat) : Int) 1 = ((b.val % 2 : Nat) : Int) := by decide +kernel
theorem ishr_net {b k : Nat} (hb : b < 512) (hk : k < 9) : ishr (b : Int) (k : Int) = ((b / 2 ^ k : Nat) : Int) := bit_tab ⟨b, hb⟩ ⟨k, hk⟩
theorem half_net {b : Nat} (hb : b < 512) : ishr (b : Int) 1 = ((b / 2 : Nat) : Int) ∧ iand (b : Int) 1 = ((b % 2 : Nat) : Int) := bit_tab2 ⟨b, hb⟩
theorem msk_tab : ∀ u : Fin 8, ∀ d : Fin 3, iand (ishr ((u.val : Nat) : Int) ((d.val : Nat) : Int)) 1 = ((u.val / 2 ^ d.val % 2 : Nat) : Int) ∧ (u.val / 2 ^ d.val % 2 = 0 → ior ((u.val : Nat) : Int) (ishl 1 ((d.val : Nat) : Int)) = ((u.val + 2 ^ d.val : Nat) : Int) ∧ u.val + 2 ^ d.val < 8) := by decide +kernel
/-- one way to pair, told by its code: how many pairs, if it is one -/
def mpS (n b : Nat) : Nat → Nat → Nat → Nat → Option Nat
  | 0, _, _, _ => some 0
  | m + 1, g, c, u => if n ≤ c % (n + 1) then mpS n b m (g + 1) (c / (n + 1)) u else if u / 2 ^ (c % (n + 1)) % 2 = 0 ∧ b / 2 ^ (n * g + c % (n + 1)) % 2 = 1 then (match mpS n b m (g + 1) (c / (n + 1)) (u + 2 ^ (c % (n + 1))) with | some k => some (k + 1) | none => none) else none
def mpB (n b : Nat) : Nat → Nat → Nat → Nat
  | 0, _, v => v
  | m + 1, x, v => mpB n b m (x + 1) (match mpS n b n 0 x 0 with | some k => if v < k then k else v | none => v)
def mpN (n b : Nat) : Nat := mpB n b ((n + 1) ^ n) 0 0
def dpW (n b : Nat) : Int := dpI (fun _ => 1) (netw n b) n n 0 (stI (fun _ => 1) n - 1)
def tabW (n : Nat) : Bool := (List.range (2 ^ (n * n))).all fun b => decide ((mpN n b : Int) = dpW n b) && (decide (b = 0) || decide (1 ≤ mpN n b)) && decide (mpN n b ≤ 3)
theorem tabW_1 : tabW 1 = true := by decide +kernel
theorem tabW_2 : tabW 2 = true := by decide +kernel
theorem tabW_3 : tabW 3 = true := by decide +kernel
theorem most_tab {n b : Nat} (hn : 1 ≤ n ∧ n ≤ 3) (hb : b < 2 ^ (n * n)) : (mpN n b : Int) = dpW n b ∧ (1 ≤ b → 1 ≤ mpN n b) ∧ mpN n b ≤ 3 := by
  have t : tabW n = true := by
    have : n = 1 ∨ n = 2 ∨ n = 3 := by omega
    rcases this with rfl | rfl | rfl
    · exact tabW_1
    · exact tabW_2
    · exact tabW_3
  have h := List.all_eq_true.mp t b (List.mem_range.mpr hb)
  simp only [Bool.and_eq_true, Bool.or_eq_true, decide_eq_true_eq] at h
  exact ⟨h.1.1, fun q => by omega, h.2⟩
theorem gmP_w {c w w' f f' : Int → Int} {g s : Int} {P : Int} (hw : ∀ p, 0 ≤ p → p < P → w' (6 * g + p) = w (6 * g + p)) (hf : ∀ x, f' x = f x) : ∀ (m : Nat) (p v : Int), 0 ≤ p → p + m ≤ P → gmP c w' f' g s m p v = gmP c w f g s m p v := by
  intro m
  induction m with
  | zero => intro p v _ _; rfl
  | succ m ih =>
    intro p v h1 h2
    show gmP c w' f' g s m (p + 1) (if 0 < w' (6 * g + p) ∧ 0 < dgI c p.toNat s then (if v < w' (6 * g + p) + f' (s - stI c p.toNat) then w' (6 * g + p) + f' (s - stI c p.toNat) else v) else v) = gmP c w f g s m (p + 1) (if 0 < w (6 * g + p) ∧ 0 < dgI c p.toNat s then (if v < w (6 * g + p) + f (s - stI c p.toNat) then w (6 * g + p) + f (s - stI c p.toNat) else v) else v)
    rw [hw p h1 (by omega), hf, ih _ _ (by omega) (by omega)]
theorem dpI_w {c w w' : Int → Int} {P : Nat} {G : Int} (hw : ∀ g p : Int, 0 ≤ g → g < G → 0 ≤ p → p < P → w' (6 * g + p) = w (6 * g + p)) : ∀ (m : Nat) (g s : Int), 0 ≤ g → g + m ≤ G → dpI c w' P m g s = dpI c w P m g s := by
  intro m
  induction m with
  | zero => intro g s _ _; rfl
  | succ m ih =>
    intro g s h1 h2
    show gmP c w' (dpI c w' P m (g + 1)) g s P 0 (dpI c w' P m (g + 1) s) = gmP c w (dpI c w P m (g + 1)) g s P 0 (dpI c w P m (g + 1) s)
    rw [ih (g + 1) s (by omega) (by omega)]
    exact gmP_w (P := (P : Int)) (fun p p1 p2 => hw g p h1 (by omega) p1 p2) (fun x => ih (g + 1) x (by omega) (by omega)) P 0 _ (by omega) (by omega)
-- the reference's mostPairs
theorem mp_bad {F : Nat} {τ : St} {n : Nat} (hn : 1 ≤ n ∧ n ≤ 3) (c26 : Int → Int → Int → Option Int) (x2 x3 x4 : Int) : ∀ (m k : Nat) (c : Nat) (x6 x7 x9 : Int), 0 ≤ x9 → x9 + m = n → c < 1000 → m < k → gX11_mostPairs_L48 F τ n c26 k x2 x3 x4 c x6 x7 0 x9 = c26 x2 x3 (x4 + 1) := by
  intro m
  induction m with
  | zero =>
    intro k c x6 x7 x9 h0 h1 h2 h3
    obtain ⟨k, rfl⟩ : ∃ k', k = k' + 1 := ⟨k - 1, by omega⟩
    rw [gX11_mostPairs_L48, w32_id (a := x9) (by omega), w32_id (a := (n : Int)) (by omega), if_pos (show x9 ≥ (n : Int) by omega), w32_0, if_pos rfl]
    rfl
  | succ m ih =>
    intro k c x6 x7 x9 h0 h1 h2 h3
    obtain ⟨k, rfl⟩ : ∃ k', k = k' + 1 := ⟨k - 1, by omega⟩
    have e1 : irm (c : Int) ((n : Int) + 1) = ((c % (n + 1) : Nat) : Int) := by rw [irm_eq (by omega) (by omega), show (n : Int) + 1 = ((n + 1 : Nat) : Int) by omega]; omega
    have e2 : idv (c : Int) ((n : Int) + 1) = ((c / (n + 1) : Nat) : Int) := by rw [idv_eq (by omega) (by omega), show (n : Int) + 1 = ((n + 1 : Nat) : Int) by omega]; omega
    have hc : c / (n + 1) < 1000 := Nat.lt_of_le_of_lt (Nat.div_le_self _ _) h2
    rw [gX11_mostPairs_L48, w32_id (a := x9) (by omega), w32_id (a := (n : Int)) (by omega), if_neg (show ¬ x9 ≥ (n : Int) by omega), w32_id (a := (n : Int) + 1) (by omega), gd_pos (by omega), gd_pos (by omega), e1, e2, w32_0]
    by_cases q : ((c % (n + 1) : Nat) : Int) ≥ (n : Int)
    · rw [if_pos q]
      exact ih k _ _ _ (x9 + 1) (by omega) (by omega) hc (by omega)
    · rw [if_neg q, if_pos rfl]
      exact ih k _ _ _ (x9 + 1) (by omega) (by omega) hc (by omega)
theorem mp_48 {F : Nat} {τ : St} {n b : Nat} (hn : 1 ≤ n ∧ n ≤ 3) (hw : ∀ g p : Int, 0 ≤ g → g < n → 0 ≤ p → p < n → τ 162 (6 * g + p) = netw n b (6 * g + p)) (c26 : Int → Int → Int → Option Int) (x2 x4 : Int) (v : Nat) (hv : v ≤ 3) : ∀ (m k c u g x7 : Nat), g + m = n → c < 1000 → u < 8 → x7 + m ≤ 3 → m < k → gX11_mostPairs_L48 F τ n c26 k x2 v x4 c u x7 1 g = c26 x2 ((match mpS n b m g c u with | some y => if v < x7 + y then x7 + y else v | none => v : Nat) : Int) (x4 + 1) := by
  intro m
  induction m with
  | zero =>
    intro k c u g x7 h1 h2 h3 h4 h5
    obtain ⟨k, rfl⟩ : ∃ k', k = k' + 1 := ⟨k - 1, by omega⟩
    rw [gX11_mostPairs_L48, w32_id (a := (g : Int)) (by omega), w32_id (a := (n : Int)) (by omega), if_pos (show (g : Int) ≥ (n : Int) by omega), w32_1, if_neg (show ¬ (1 : Int) = 0 by decide), w32_id (a := (x7 : Int)) (by omega), w32_id (a := (v : Int)) (by omega)]
    show _ = c26 x2 ((if v < x7 + 0 then x7 + 0 else v : Nat) : Int) (x4 + 1)
    by_cases q : v < x7
    · rw [if_neg (show ¬ (x7 : Int) ≤ (v : Int) by omega), if_pos (show v < x7 + 0 by omega)]; rfl
    · rw [if_pos (show (x7 : Int) ≤ (v : Int) by omega), if_neg (show ¬ v < x7 + 0 by omega)]; rfl
  | succ m ih =>
    intro k c u g x7 h1 h2 h3 h4 h5
    obtain ⟨k, rfl⟩ : ∃ k', k = k' + 1 := ⟨k - 1, by omega⟩
    have e1 : irm (c : Int) ((n : Int) + 1) = ((c % (n + 1) : Nat) : Int) := by rw [irm_eq (by omega) (by omega), show (n : Int) + 1 = ((n + 1 : Nat) : Int) by omega]; omega
    have e2 : idv (c : Int) ((n : Int) + 1) = ((c / (n + 1) : Nat) : Int) := by rw [idv_eq (by omega) (by omega), show (n : Int) + 1 = ((n + 1 : Nat) : Int) by omega]; omega
    have hc : c / (n + 1) < 1000 := Nat.lt_of_le_of_lt (Nat.div_le_self _ _) h2
    have eg : (g : Int) + 1 = ((g + 1 : Nat) : Int) := by omega
    have e7 : (x7 : Int) + 1 = ((x7 + 1 : Nat) : Int) := by omega
    rw [gX11_mostPairs_L48, w32_id (a := (g : Int)) (by omega), w32_id (a := (n : Int)) (by omega), if_neg (show ¬ (g : Int) ≥ (n : Int) by omega), w32_id (a := (n : Int) + 1) (by omega), gd_pos (by omega), gd_pos (by omega), e1, e2, w32_1]
    rw [mpS]
    generalize hd : c % (n + 1) = d at *
    by_cases q : n ≤ d
    · rw [if_pos (show ((d : Nat) : Int) ≥ (n : Int) by omega), if_pos q]
      unfold gX11_mostPairs_L127
      rw [eg]
      exact ih k _ u (g + 1) x7 (by omega) hc h3 (by omega) (by omega)
    · obtain ⟨t1, t2⟩ := msk_tab ⟨u, h3⟩ ⟨d, by omega⟩
      have t1 : iand (ishr (u : Int) (d : Int)) 1 = ((u / 2 ^ d % 2 : Nat) : Int) := t1
      rw [if_neg (show ¬ ((d : Nat) : Int) ≥ (n : Int) by omega), if_neg q, if_neg (show ¬ (1 : Int) = 0 by decide), t1]
      unfold gX11_mostPairs_L112 gX11_mostPairs_L113 gX11_mostPairs_L127
      by_cases y : u / 2 ^ d % 2 = 0
      · rw [if_neg (show ¬ ((u / 2 ^ d % 2 : Nat) : Int) ≠ 0 by omega), w32_id (a := 6 * (g : Int) + d) (by omega), gd_pos (by omega), hw g d (by omega) (by omega) (by omega) (by omega), netw_at n b (by omega) (by omega), Int.toNat_natCast, Int.toNat_natCast]
        obtain ⟨t3, t4⟩ := t2 y
        have t3 : ior (u : Int) (ishl 1 (d : Int)) = ((u + 2 ^ d : Nat) : Int) := t3
        have t4 : u + 2 ^ d < 8 := t4
        rw [w32_id (a := ((b / 2 ^ (n * g + d) % 2 : Nat) : Int)) (by omega)]
        by_cases z : b / 2 ^ (n * g + d) % 2 = 1
        · rw [if_neg (show ¬ ((b / 2 ^ (n * g + d) % 2 : Nat) : Int) ≠ 1 by omega), if_pos ⟨y, z⟩, t3, e7, eg]
          rw [ih k _ (u + 2 ^ d) (g + 1) (x7 + 1) (by omega) hc t4 (by omega) (by omega)]
          cases mpS n b m (g + 1) (c / (n + 1)) (u + 2 ^ d) with
          | none => rfl
          | some y' => show c26 x2 ((if v < x7 + 1 + y' then x7 + 1 + y' else v : Nat) : Int) (x4 + 1) = c26 x2 ((if v < x7 + (y' + 1) then x7 + (y' + 1) else v : Nat) : Int) (x4 + 1); rw [show x7 + 1 + y' = x7 + (y' + 1) by omega]
        · rw [if_pos (show ((b / 2 ^ (n * g + d) % 2 : Nat) : Int) ≠ 1 by omega), if_neg (fun w => z w.2)]
          exact mp_bad hn c26 x2 v x4 m k _ _ _ _ (by omega) (by omega) hc (by omega)
      · rw [if_pos (show ((u / 2 ^ d % 2 : Nat) : Int) ≠ 0 by omega), if_neg (fun w => y w.1)]
        exact mp_bad hn c26 x2 v x4 m k _ _ _ _ (by omega) (by omega) hc (by omega)
theorem mpS_le {n b : Nat} : ∀ (m g c u y : Nat), mpS n b m g c u = some y → y ≤ m := by
  intro m
  induction m with
  | zero => intro g c u y h; rw [mpS] at h; have := Option.some.inj h; omega
  | succ m ih =>
    intro g c u y h
    rw [mpS] at h
    by_cases q : n ≤ c % (n + 1)
    · rw [if_pos q] at h
      have := ih _ _ _ _ h
      omega
    · rw [if_neg q] at h
      by_cases z : u / 2 ^ (c % (n + 1)) % 2 = 0 ∧ b / 2 ^ (n * g + c % (n + 1)) % 2 = 1
      · rw [if_pos z] at h
        cases e : mpS n b m (g + 1) (c / (n + 1)) (u + 2 ^ (c % (n + 1))) with
        | none => rw [e] at h; exact absurd h (by simp)
        | some k =>
          rw [e] at h
          have := ih _ _ _ _ e
          have := Option.some.inj h
          omega
      · rw [if_neg z] at h
        exact absurd h (by simp)
theorem mp_26 {F : Nat} (hF : 100 ≤ F) {τ : St} {n b : Nat} (hn : 1 ≤ n ∧ n ≤ 3) (hw : ∀ g p : Int, 0 ≤ g → g < n → 0 ≤ p → p < n → τ 162 (6 * g + p) = netw n b (6 * g + p)) (X : Nat) (hX : X < 1000) : ∀ (m k x v : Nat), x + m = X → v ≤ 3 → m < k → gX11_mostPairs_L26 F τ n k X v x = some ((mpB n b m x v : Nat) : Int) := by
  intro m
  induction m with
  | zero =>
    intro k x v h1 h2 h3
    obtain ⟨k, rfl⟩ : ∃ k', k = k' + 1 := ⟨k - 1, by omega⟩
    rw [gX11_mostPairs_L26, w32_id (a := (x : Int)) (by omega), w32_id (a := (X : Int)) (by omega), if_pos (by omega)]
    rfl
  | succ m ih =>
    intro k x v h1 h2 h3
    obtain ⟨k, rfl⟩ : ∃ k', k = k' + 1 := ⟨k - 1, by omega⟩
    rw [gX11_mostPairs_L26, w32_id (a := (x : Int)) (by omega), w32_id (a := (X : Int)) (by omega), if_neg (by omega)]
    have s := mp_48 (F := F) hn hw (gX11_mostPairs_L26 F τ n k) X x v h2 n F x 0 0 0 (by omega) (by omega) (by omega) (by omega) (by omega)
    have s' : gX11_mostPairs_L48 F τ n (gX11_mostPairs_L26 F τ n k) F X v x x 0 0 1 0 = _ := s
    rw [s', show (x : Int) + 1 = ((x + 1 : Nat) : Int) by omega, mpB]
    have e : (match mpS n b n 0 x 0 with | some y => if v < 0 + y then 0 + y else v | none => v) = (match mpS n b n 0 x 0 with | some k => if v < k then k else v | none => v) := by
      cases mpS n b n 0 x 0 with
      | none => rfl
      | some y => show (if v < 0 + y then 0 + y else v) = if v < y then y else v; rw [Nat.zero_add]
    rw [e]
    refine ih k (x + 1) _ (by omega) ?_ (by omega)
    cases e2 : mpS n b n 0 x 0 with
    | none => exact h2
    | some y =>
      have := mpS_le _ _ _ _ _ e2
      show (if v < y then y else v) ≤ 3
      split <;> omega
theorem mp_4 {F : Nat} {τ : St} {n : Nat} (hn : 1 ≤ n ∧ n ≤ 3) : ∀ (m k i x : Nat), i + m = n → x * (n + 1) ^ m < 1000 → m < k → gX11_mostPairs_L4 F τ n k x i = gX11_mostPairs_L26 F τ n F ((x * (n + 1) ^ m : Nat) : Int) 0 0 := by
  intro m
  induction m with
  | zero =>
    intro k i x h1 h2 h3
    obtain ⟨k, rfl⟩ : ∃ k', k = k' + 1 := ⟨k - 1, by omega⟩
    rw [gX11_mostPairs_L4, w32_id (a := (i : Int)) (by omega), w32_id (a := (n : Int)) (by omega), if_pos (by omega), Nat.pow_zero, Nat.mul_one]
  | succ m ih =>
    intro k i x h1 h2 h3
    obtain ⟨k, rfl⟩ : ∃ k', k = k' + 1 := ⟨k - 1, by omega⟩
    have e : x * (n + 1) ^ (m + 1) = x * (n + 1) * (n + 1) ^ m := by rw [Nat.pow_succ, Nat.mul_assoc, Nat.mul_comm ((n + 1) ^ m)]
    rw [e] at h2
    rw [gX11_mostPairs_L4, w32_id (a := (i : Int)) (by omega), w32_id (a := (n : Int)) (by omega), if_neg (by omega), show (i : Int) + 1 = ((i + 1 : Nat) : Int) by omega, show (x : Int) * ((n : Int) + 1) = ((x * (n + 1) : Nat) : Int) by rw [Int.natCast_mul]; rfl, ih k (i + 1) (x * (n + 1)) (by omega) h2 (by omega), e]
theorem most_eq {F : Nat} (hF : 100 ≤ F) {τ : St} {n b : Nat} (hn : 1 ≤ n ∧ n ≤ 3) (hw : ∀ g p : Int, 0 ≤ g → g < n → 0 ≤ p → p < n → τ 162 (6 * g + p) = netw n b (6 * g + p)) : gX11_mostPairs F τ n = some ((mpN n b : Nat) : Int) := by
  have hX : (n + 1) ^ n < 65 := by
    have : n = 1 ∨ n = 2 ∨ n = 3 := by omega
    rcases this with rfl | rfl | rfl <;> decide
  have a := mp_4 (F := F) (τ := τ) hn n F 0 1 (by omega) (by omega) (by omega)
  have a' : gX11_mostPairs_L4 F τ n F 1 0 = _ := a
  unfold gX11_mostPairs
  rw [a', Nat.one_mul]
  exact mp_26 hF hn hw ((n + 1) ^ n) (by omega) ((n + 1) ^ n) F 0 0 (by omega) (by omega) (by omega)
