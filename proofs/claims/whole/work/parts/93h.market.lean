-- THE INVARIANT: the market and its history
def kp (σ : St) (i j : Int) : Int := σ 177 (40 * i + j)
def lPair (σ : St) (i g : Int) : Int := if i < σ 7 12 then (if g < kp σ i 34 then kp σ i (9 + g) else -4) else σ 10 g
def lSeq (σ : St) (i g : Int) : Int := if i < σ 7 12 then (if g < kp σ i 34 then kp σ i (18 + g) else 0) else σ 11 g
def lPaid (σ : St) (i p : Int) : Int := if i < σ 7 12 then kp σ i (27 + p) else σ 9 p
def lCnt (σ : St) (i : Int) : Int := if i < σ 7 12 then kp σ i 33 else σ 7 10
/-- how many of nine are p -/
def cntN (f : Int → Int) (p : Int) : Int := sumN (fun g => if f g = p then 1 else 0) 9 0
def comeN (seq : Int → Int) : Int := sumN (fun g => if 0 < seq g then 1 else 0) 9 0
def wgtN (pair seq : Int → Int) : Int := sumN (fun g => if 0 < seq g then (if pair g = -4 then 2 else 1) else 0) 9 0
/-- a market's state is one that can be -/
def LVal (P Gn : Int) (room budget pair seq paid : Int → Int) (cnt i : Int) : Prop :=
  (∀ g, 0 ≤ g → g < 9 → (pair g = -4 ∨ 0 ≤ pair g ∧ pair g < P) ∧ (0 ≤ seq g ∧ seq g ≤ 9) ∧ (pair g ≠ -4 → 0 < seq g) ∧ (Gn ≤ g → pair g = -4 ∧ seq g = 0)) ∧
  cnt = comeN seq ∧
  (∀ p, 0 ≤ p → p < 6 → 0 ≤ paid p ∧ (p < P → paid p ≤ budget p ∧ cntN pair p ≤ room p) ∧ (P ≤ p → paid p = 0)) ∧
  i ≤ wgtN pair seq
/-- one act leads from one state to the next -/
def LStep (pair seq paid : Int → Int) (cnt : Int) (pair' seq' paid' : Int → Int) (cnt' g p pays out goes : Int) : Prop :=
  (0 ≤ g ∧ g < 9) ∧
  ((goes = 1 ∧ 0 ≤ p ∧ p < 6 ∧ pair g = p ∧ (∀ x, 0 ≤ x → x < 9 → pair' x = if x = g then -4 else pair x) ∧ (∀ x, 0 ≤ x → x < 9 → seq' x = seq x) ∧ (∀ q, 0 ≤ q → q < 6 → paid' q = paid q) ∧ cnt' = cnt) ∨
   (goes = 0 ∧ pair g = -4 ∧ seq g = 0 ∧ cnt' = cnt + 1 ∧ (∀ x, 0 ≤ x → x < 9 → seq' x = if x = g then cnt' else seq x) ∧
     ((p = -4 ∧ (∀ x, 0 ≤ x → x < 9 → pair' x = pair x) ∧ ∀ q, 0 ≤ q → q < 6 → paid' q = paid q) ∨
      (0 ≤ p ∧ p < 6 ∧ (out = -4 ∨ (0 ≤ out ∧ out < 9 ∧ out ≠ g ∧ pair out = p)) ∧ (∀ x, 0 ≤ x → x < 9 → pair' x = if x = g then p else if x = out then -4 else pair x) ∧ ∀ q, 0 ≤ q → q < 6 → paid' q = if q = p then paid q + pays else paid q))))
def InvM (σ : St) : Prop :=
  (0 ≤ σ 7 12 ∧ σ 7 12 ≤ 18 ∧ σ 143 54 = σ 7 12) ∧ σ 143 53 = σ 7 10 ∧
  (∀ g, 0 ≤ g → g < σ 1 6 → σ 173 g = (if 0 < σ 11 g then 1 else 0) ∧ σ 174 g = σ 10 g ∧ σ 175 g = σ 11 g) ∧
  (∀ p, 0 ≤ p → p < 6 → σ 176 p = σ 9 p ∧ σ 8 p = cntN (σ 10) p) ∧
  (∀ i, 0 ≤ i → i ≤ σ 7 12 → LVal (σ 1 5) (σ 1 6) (σ 2) (σ 4) (lPair σ i) (lSeq σ i) (lPaid σ i) (lCnt σ i) i) ∧
  (∀ i, 0 ≤ i → i < σ 7 12 → LStep (lPair σ i) (lSeq σ i) (lPaid σ i) (lCnt σ i) (lPair σ (i + 1)) (lSeq σ (i + 1)) (lPaid σ (i + 1)) (lCnt σ (i + 1)) (σ 12 i) (σ 13 i) (σ 14 i) (σ 15 i) (σ 16 i) ∧ 0 ≤ kp σ i 34 ∧ kp σ i 34 ≤ σ 1 6 ∧ (∀ g, 0 ≤ g → g < kp σ i 34 → kp σ i g = if 0 < kp σ i (18 + g) then 1 else 0) ∧ σ 12 i < kp σ i 34) ∧
  (lCnt σ 0 = 0 ∧ ∀ p, 0 ≤ p → p < 6 → lPaid σ 0 p = 0)
def supM (k j : Int) : Prop := (k = 7 ∧ (j = 10 ∨ j = 12)) ∨ (8 ≤ k ∧ k ≤ 16) ∨ (k = 143 ∧ (j = 53 ∨ j = 54)) ∨ (173 ≤ k ∧ k ≤ 177)
/-- what InvM reads of the board -/
def redM (k j : Int) : Prop := (k = 1 ∧ (j = 5 ∨ j = 6)) ∨ k = 2 ∨ k = 4
theorem InvM.frame {σ σ' : St} (h : InvM σ) (hs : ∀ k j, supM k j ∨ redM k j → σ' k j = σ k j) : InvM σ' := by
  have c : ∀ k, (8 ≤ k ∧ k ≤ 16) ∨ (173 ≤ k ∧ k ≤ 177) ∨ k = 2 ∨ k = 4 → σ' k = σ k := fun k hk => by funext j; exact hs k j (by unfold supM redM; omega)
  have e0 := hs 7 10 (by unfold supM; omega)
  have e1 := hs 7 12 (by unfold supM; omega)
  have e2 := hs 143 53 (by unfold supM; omega)
  have e3 := hs 143 54 (by unfold supM; omega)
  have e4 := hs 1 5 (by unfold redM; omega)
  have e5 := hs 1 6 (by unfold redM; omega)
  have k0 : kp σ' = kp σ := by funext i j; unfold kp; rw [c 177 (by omega)]
  have k1 : lPair σ' = lPair σ := by funext i g; unfold lPair; rw [k0, e1, c 10 (by omega)]
  have k2 : lSeq σ' = lSeq σ := by funext i g; unfold lSeq; rw [k0, e1, c 11 (by omega)]
  have k3 : lPaid σ' = lPaid σ := by funext i g; unfold lPaid; rw [k0, e1, c 9 (by omega)]
  have k4 : lCnt σ' = lCnt σ := by funext i; unfold lCnt; rw [k0, e1, e0]
  unfold InvM at h ⊢
  rw [k0, k1, k2, k3, k4, e0, e1, e2, e3, e4, e5, c 2 (by omega), c 4 (by omega), c 8 (by omega), c 9 (by omega), c 10 (by omega), c 11 (by omega), c 12 (by omega), c 13 (by omega), c 14 (by omega), c 15 (by omega), c 16 (by omega), c 173 (by omega), c 174 (by omega), c 175 (by omega), c 176 (by omega)]
  exact h
theorem sumN_app (f : Int → Int) : ∀ (m k : Nat) (a : Int), sumN f (m + k) a = sumN f m a + sumN f k (a + m) := by
  intro m
  induction m with
  | zero => intro k a; simp [sumN]
  | succ m ih =>
    intro k a
    rw [show m + 1 + k = (m + k) + 1 by omega]
    show f a + sumN f (m + k) (a + 1) = f a + sumN f m (a + 1) + sumN f k (a + ((m + 1 : Nat) : Int))
    rw [ih k (a + 1), show a + 1 + (m : Int) = a + ((m + 1 : Nat) : Int) by omega]
    omega
theorem sumN_zero {f : Int → Int} (m : Nat) (a : Int) (h : ∀ i, a ≤ i → i < a + m → f i = 0) : sumN f m a = 0 := by
  have h1 := sumN_congr (f := f) (g := fun _ => 0) m a h
  rw [h1]
  clear h h1
  induction m generalizing a with
  | zero => rfl
  | succ m ih => show 0 + sumN (fun _ => 0) m (a + 1) = 0; rw [ih]; rfl
/-- the state as it stands -/
theorem InvM.cur {σ : St} (h : InvM σ) : LVal (σ 1 5) (σ 1 6) (σ 2) (σ 4) (σ 10) (σ 11) (σ 9) (σ 7 10) (σ 7 12) := by
  have h1 := h.2.2.2.2.1 (σ 7 12) h.1.1 (Int.le_refl _)
  have e1 : lPair σ (σ 7 12) = σ 10 := by funext g; unfold lPair; rw [if_neg (by omega)]
  have e2 : lSeq σ (σ 7 12) = σ 11 := by funext g; unfold lSeq; rw [if_neg (by omega)]
  have e3 : lPaid σ (σ 7 12) = σ 9 := by funext g; unfold lPaid; rw [if_neg (by omega)]
  have e4 : lCnt σ (σ 7 12) = σ 7 10 := by unfold lCnt; rw [if_neg (by omega)]
  rw [e1, e2, e3, e4] at h1
  exact h1
theorem LVal.cnt_rng {P Gn : Int} {room budget pair seq paid : Int → Int} {cnt i : Int} (h : LVal P Gn room budget pair seq paid cnt i) (hG : 0 ≤ Gn ∧ Gn ≤ 9) : cnt = sumN (fun g => if 0 < seq g then 1 else 0) Gn.toNat 0 ∧ 0 ≤ cnt ∧ cnt ≤ Gn := by
  have e : comeN seq = sumN (fun g => if 0 < seq g then 1 else 0) Gn.toNat 0 := by
    unfold comeN
    rw [show (9 : Nat) = Gn.toNat + (9 - Gn.toNat) by omega, sumN_app, sumN_zero (9 - Gn.toNat) (0 + (Gn.toNat : Int))]
    · omega
    · intro i h1 h2
      have := (h.1 i (by omega) (by omega)).2.2.2 (by omega)
      simp [this.2]
  have r := sumN_rng (f := fun g => if 0 < seq g then (1 : Int) else 0) (lo := 0) (hi := 1) Gn.toNat 0 (fun i _ _ => by by_cases q : 0 < seq i <;> simp [q])
  rw [h.2.1, e]
  exact ⟨rfl, by omega, by omega⟩
theorem InvM.came {F : Nat} (hF : 20 ≤ F) {σ τ : St} (h : InvM σ) (hG : 0 ≤ σ 1 6 ∧ σ 1 6 ≤ 9) (e1 : τ 143 4 = σ 1 6) (e2 : τ 173 = σ 173) : gX11_came F τ = some (σ 7 10) := by
  rw [gX11_came_eq hF τ (by omega), e1, e2, (h.cur.cnt_rng hG).1]
  congr 1
  refine sumN_congr _ _ (fun i h1 h2 => ?_)
  exact (h.2.2.1 i h1 (by omega)).1
/-- nobody has come: there was no act -/
theorem InvM.none {σ : St} (h : InvM σ) (hc : σ 7 10 = 0) : σ 7 12 = 0 ∧ (∀ g, 0 ≤ g → g < 9 → σ 10 g = -4 ∧ σ 11 g = 0) := by
  obtain ⟨c1, c2, c3, c4⟩ := h.cur
  have z : ∀ (m : Nat) (a : Int), (∀ i, a ≤ i → i < a + m → 0 ≤ (if 0 < σ 11 i then (1 : Int) else 0)) → sumN (fun g => if 0 < σ 11 g then 1 else 0) m a = 0 → ∀ i, a ≤ i → i < a + m → ¬ 0 < σ 11 i := by
    intro m
    induction m with
    | zero => intro a _ _ i h1 h2; omega
    | succ m ih =>
      intro a hp hz i h1 h2
      have h3 : (if 0 < σ 11 a then (1 : Int) else 0) + sumN (fun g => if 0 < σ 11 g then 1 else 0) m (a + 1) = 0 := hz
      have h4 := (sumN_rng (f := fun g => if 0 < σ 11 g then (1 : Int) else 0) (lo := 0) (hi := 1) m (a + 1) (fun i _ _ => by by_cases q : 0 < σ 11 i <;> simp [q])).1
      have h5 := hp a (by omega) (by omega)
      by_cases q : i = a
      · subst q
        intro w
        rw [if_pos w] at h3
        omega
      · exact ih (a + 1) (fun j q1 q2 => hp j (by omega) (by omega)) (by omega) i (by omega) (by omega)
  have hs : ∀ g, 0 ≤ g → g < 9 → σ 10 g = -4 ∧ σ 11 g = 0 := by
    intro g h1 h2
    have h3 := z 9 0 (fun i _ _ => by by_cases q : 0 < σ 11 i <;> simp [q]) (by rw [hc] at c2; exact c2.symm) g h1 (by omega)
    obtain ⟨q1, q2, q3, q4⟩ := c1 g h1 h2
    refine ⟨?_, by omega⟩
    by_cases w : σ 10 g = -4
    · exact w
    · exact absurd (q3 w) h3
  refine ⟨?_, hs⟩
  have w0 : wgtN (σ 10) (σ 11) = 0 := sumN_zero 9 0 (fun i h1 h2 => by simp [(hs i h1 (by omega)).2])
  have := h.1.1
  omega
