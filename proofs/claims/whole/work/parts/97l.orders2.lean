-- PURE LAYER: the next order asks only for the first n; the orders of up to six
theorem nxI_spec {f f' : Int → Int} {n : Int} (h : ∀ b, 0 ≤ b → b < n → f b = f' b) : ∀ (m : Nat) (i : Int), i + 1 < n ∨ i < 0 → i + 1 ≤ m → nxI f m i = nxI f' m i ∧ (nxI f m i < 0 ∨ 0 ≤ nxI f m i ∧ nxI f m i + 1 < n ∧ f (nxI f m i) ≤ f (nxI f m i + 1)) := by
  intro m
  induction m with
  | zero => intro i _ h2; exact ⟨rfl, Or.inl (by show i < 0; omega)⟩
  | succ m ih =>
    intro i h1 h2
    have e : ∀ f, nxI f (m + 1) i = if i < 0 then i else if f i ≤ f (i + 1) then i else nxI f m (i - 1) := fun f => rfl
    rw [e, e]
    by_cases z : i < 0
    · rw [if_pos z, if_pos z]; exact ⟨rfl, Or.inl z⟩
    · rw [if_neg z, if_neg z, ← h i (by omega) (by omega), ← h (i + 1) (by omega) (by omega)]
      by_cases y : f i ≤ f (i + 1)
      · rw [if_pos y, if_pos y]; exact ⟨rfl, Or.inr ⟨by omega, by omega, y⟩⟩
      · rw [if_neg y, if_neg y]; exact ih (i - 1) (by omega) (by omega)
theorem nxJ_spec {f f' : Int → Int} {n i : Int} (h : ∀ b, 0 ≤ b → b < n → f b = f' b) (hi : 0 ≤ i ∧ i + 1 < n) (hs : f i ≤ f (i + 1)) : ∀ (m : Nat) (j : Int), i + 1 ≤ j → j < n → nxJ f i m j = nxJ f' i m j ∧ i + 1 ≤ nxJ f i m j ∧ nxJ f i m j < n := by
  intro m
  induction m with
  | zero => intro j h1 h2; exact ⟨rfl, h1, h2⟩
  | succ m ih =>
    intro j h1 h2
    have e : ∀ f, nxJ f i (m + 1) j = if f i ≤ f j then j else nxJ f i m (j - 1) := fun f => rfl
    rw [e, e, ← h i (by omega) (by omega), ← h j (by omega) h2]
    by_cases z : f i ≤ f j
    · rw [if_pos z, if_pos z]; exact ⟨rfl, h1, h2⟩
    · rw [if_neg z, if_neg z]
      have nj : j ≠ i + 1 := fun w => z (by rw [w]; exact hs)
      exact ih (j - 1) (by omega) (by omega)
theorem swF_congr {f f' : Int → Int} {n i j : Int} (h : ∀ b, 0 ≤ b → b < n → f b = f' b) (hi : 0 ≤ i ∧ i < n) (hj : 0 ≤ j ∧ j < n) : ∀ b, 0 ≤ b → b < n → swF f i j b = swF f' i j b := by
  intro b h1 h2
  unfold swF upf
  rw [h i hi.1 hi.2, h j hj.1 hj.2, h b h1 h2]
theorem rvF_congr {n : Int} : ∀ (m : Nat) (a b : Int) (f f' : Int → Int), 0 ≤ a → b < n → (∀ x, 0 ≤ x → x < n → f x = f' x) → ∀ x, 0 ≤ x → x < n → rvF m a b f x = rvF m a b f' x := by
  intro m
  induction m with
  | zero => intro a b f f' _ _ h; exact h
  | succ m ih =>
    intro a b f f' h1 h2 h
    have e : ∀ f, rvF (m + 1) a b f = if b ≤ a then f else rvF m (a + 1) (b - 1) (swF f a b) := fun f => rfl
    rw [e, e]
    by_cases z : b ≤ a
    · rw [if_pos z, if_pos z]; exact h
    · rw [if_neg z, if_neg z]
      exact ih (a + 1) (b - 1) _ _ (by omega) (by omega) (swF_congr h (by omega) (by omega))
theorem nxt_congr {f f' : Int → Int} {n : Int} (hn : 0 ≤ n ∧ n ≤ 9) (h : ∀ b, 0 ≤ b → b < n → f b = f' b) : (nxt n f).1 = (nxt n f').1 ∧ ∀ b, 0 ≤ b → b < n → (nxt n f).2 b = (nxt n f').2 b := by
  obtain ⟨a1, a2⟩ := nxI_spec h 9 (n - 2) (by omega) (by omega)
  unfold nxt
  rw [← a1]
  generalize nxI f 9 (n - 2) = i at *
  by_cases z : i < 0
  · rw [if_pos z, if_pos z]; exact ⟨rfl, h⟩
  · have q : 0 ≤ i ∧ i + 1 < n ∧ f i ≤ f (i + 1) := by omega
    obtain ⟨b1', b2⟩ := nxJ_spec h ⟨q.1, q.2.1⟩ q.2.2 9 (n - 1) (by omega) (by omega)
    rw [if_neg z, if_neg z, ← b1']
    exact ⟨rfl, rvF_congr 9 (i + 1) (n - 1) _ _ (by omega) (by omega) (swF_congr h (by omega) (by omega))⟩
def lF (L : List Int) (b : Int) : Int := L.getD b.toNat 0
def chkOr (n : Nat) : List (List Int) → Bool
  | [] => false
  | L :: R => match R with
    | [] => decide ((nxt n (lF L)).1 = 0)
    | L' :: _ => decide ((nxt n (lF L)).1 = 1) && (List.range n).all (fun b => decide ((nxt n (lF L)).2 (b : Int) = lF L' b)) && chkOr n R
def goodO (n : Nat) (L : List Int) : Bool := decide (L.length = n) && L.all (fun g => decide (0 ≤ g ∧ g < n)) && decide L.Nodup
def tabO (n : Nat) : Bool := chkOr n (dfsO n n []) && (dfsO n n []).all (goodO n) && decide ((dfsO n n []).length ≤ 720) && (match dfsO n n [] with | [] => false | L :: _ => (List.range n).all fun b => decide (lF L b = b))
theorem tabO_0 : tabO 0 = true := by decide +kernel
theorem tabO_1 : tabO 1 = true := by decide +kernel
theorem tabO_2 : tabO 2 = true := by decide +kernel
theorem tabO_3 : tabO 3 = true := by decide +kernel
theorem tabO_4 : tabO 4 = true := by decide +kernel
theorem tabO_5 : tabO 5 = true := by decide +kernel
theorem tabO_6 : tabO 6 = true := by decide +kernel
theorem tabO_all {n : Nat} (h : n ≤ 6) : tabO n = true := by
  have : n = 0 ∨ n = 1 ∨ n = 2 ∨ n = 3 ∨ n = 4 ∨ n = 5 ∨ n = 6 := by omega
  rcases this with rfl | rfl | rfl | rfl | rfl | rfl | rfl
  · exact tabO_0
  · exact tabO_1
  · exact tabO_2
  · exact tabO_3
  · exact tabO_4
  · exact tabO_5
  · exact tabO_6
/-- the orders of n guests: gone through one by one, each an order -/
theorem orders {n : Nat} (h : n ≤ 6) : chkOr n (dfsO n n []) = true ∧ (∀ L ∈ dfsO n n [], L.length = n ∧ (∀ g ∈ L, 0 ≤ g ∧ g < (n : Int)) ∧ L.Nodup) ∧ (dfsO n n []).length ≤ 720 ∧ ∃ L R, dfsO n n [] = L :: R ∧ ∀ b : Nat, b < n → lF L b = b := by
  have t := tabO_all h
  unfold tabO at t
  rw [Bool.and_eq_true, Bool.and_eq_true, Bool.and_eq_true] at t
  obtain ⟨⟨⟨t1, t2⟩, t3⟩, t4⟩ := t
  rw [List.all_eq_true] at t2
  refine ⟨t1, fun L hL => ?_, of_decide_eq_true t3, ?_⟩
  · have g := t2 L hL
    unfold goodO at g
    rw [Bool.and_eq_true, Bool.and_eq_true] at g
    obtain ⟨⟨g1, g2⟩, g3⟩ := g
    rw [List.all_eq_true] at g2
    exact ⟨of_decide_eq_true g1, fun x hx => of_decide_eq_true (g2 x hx), of_decide_eq_true g3⟩
  · cases e : dfsO n n [] with
    | nil => rw [e] at t4; cases t4
    | cons L R =>
      rw [e] at t4
      refine ⟨L, R, rfl, fun b hb => ?_⟩
      have t5 : ((List.range n).all fun b => decide (lF L b = b)) = true := t4
      rw [List.all_eq_true] at t5
      exact of_decide_eq_true (t5 b (List.mem_range.mpr hb))
