-- PURE LAYER: the class's guest enters
def noteS (σ : St) (k x1 x2 x3 x4 x5 : Int) : St := up (up (up (up (up (up σ (k + 5) (σ k 12) x1) (k + 6) (σ k 12) x2) (k + 7) (σ k 12) x3) (k + 8) (σ k 12) x4) (k + 9) (σ k 12) x5) k 12 (σ k 12 + 1)
theorem note_eq {σ : St} {k x1 x2 x3 x4 x5 : Int} (ha : 0 ≤ σ k 12 ∧ σ k 12 < 18) (h5 : x5 = 0 ∨ x5 = 1) : gX7_note σ k x1 x2 x3 x4 x5 = some (noteS σ k x1 x2 x3 x4 x5) := by
  have w : w32 (σ k 12) = σ k 12 := w32_id (by omega)
  have g0 : 0 ≤ σ k 12 ∧ σ k 12 < 18 := ha
  have u : ∀ (τ : St) (c j v : Int), c ≠ k → up τ c j v k 12 = τ k 12 := fun τ c j v h => by rw [up_at, if_neg (by omega)]
  unfold gX7_note noteS
  rw [w, if_neg (by omega), gd_pos g0, u σ (k + 5) _ _ (by omega), w, gd_pos g0, u _ (k + 6) _ _ (by omega), u σ (k + 5) _ _ (by omega), w, gd_pos g0, u _ (k + 7) _ _ (by omega), u _ (k + 6) _ _ (by omega), u σ (k + 5) _ _ (by omega), w, gd_pos g0, u _ (k + 8) _ _ (by omega), u _ (k + 7) _ _ (by omega), u _ (k + 6) _ _ (by omega), u σ (k + 5) _ _ (by omega), w, gd_pos g0, u _ (k + 9) _ _ (by omega), u _ (k + 8) _ _ (by omega), u _ (k + 7) _ _ (by omega), u _ (k + 6) _ _ (by omega), u σ (k + 5) _ _ (by omega), b1_01 h5]
theorem noteS_at (σ : St) (k x1 x2 x3 x4 x5 a b : Int) : noteS σ k x1 x2 x3 x4 x5 a b = if a = k ∧ b = 12 then σ k 12 + 1 else if a = k + 9 ∧ b = σ k 12 then x5 else if a = k + 8 ∧ b = σ k 12 then x4 else if a = k + 7 ∧ b = σ k 12 then x3 else if a = k + 6 ∧ b = σ k 12 then x2 else if a = k + 5 ∧ b = σ k 12 then x1 else σ a b := rfl
def comeS (σ : St) (k g : Int) : St := up (up σ k 10 (σ k 10 + 1)) (k + 4) g (σ k 10 + 1)
def takeS (σ : St) (k g p v : Int) : St := up (up (up σ (k + 3) g p) (k + 1) p (σ (k + 1) p + 1)) (k + 2) p (σ (k + 2) p + v)
def dropS (σ : St) (k out p : Int) : St := if out = -4 then σ else up (up (up σ (k + 3) out (-4)) (k + 1) p (σ (k + 1) p - 1)) k 11 (σ k 11 + 1)
def payC (σ : St) (k g p : Int) : Int := if σ (bd k + 3) p - σ (k + 2) p < σ (bd k + 5) (6 * g + p) then σ (bd k + 3) p - σ (k + 2) p else σ (bd k + 5) (6 * g + p)
theorem enter_90 {F : Nat} {σ : St} {k g p x v : Int} (hg : 0 ≤ g ∧ g < 9) (ha : 0 ≤ σ k 12 ∧ σ k 12 < 18) : gX7_enter_L90 F k g p x v σ = some (v, noteS (comeS σ k g) k g p v x 0) := by
  have e1 : up σ k 10 (σ k 10 + 1) k 10 = σ k 10 + 1 := up_self _ _ _ _
  have e2 : comeS σ k g k 12 = σ k 12 := by unfold comeS; rw [up_at, if_neg (by omega), up_at, if_neg (by omega)]
  unfold gX7_enter_L90
  rw [w32_id (a := g) (by omega), gd_pos (by omega), e1]
  show ((gX7_note (comeS σ k g) k g p v x 0).bind fun r1 => some (v, r1)) = _
  rw [note_eq (by rw [e2]; exact ha) (Or.inl rfl), Option.bind_some]
theorem drop_eq {σ : St} {k x p : Int} (hk : 0 ≤ k) (hx : x = -4 ∨ 0 ≤ x ∧ x < 9) (hp : 0 ≤ p ∧ p < 6) : gX7_drop σ k x p = some (dropS σ k x p) := by
  unfold gX7_drop dropS
  rw [w32_id (a := x) (by omega), w32_id (a := p) (by omega)]
  by_cases q : x = -4
  · rw [if_pos q, if_pos q]
  · have e1 : up σ (k + 3) x (-4) (k + 1) p = σ (k + 1) p := by rw [up_at, if_neg (by omega)]
    have e2 : ∀ v, up (up σ (k + 3) x (-4)) (k + 1) p v k 11 = σ k 11 := fun v => by rw [up_at, if_neg (by omega), up_at, if_neg (by omega)]
    rw [if_neg q, if_neg q, gd_pos (by omega), gd_pos (by omega), gd_pos (by omega), e1, e2]
theorem enter_32 {F : Nat} {σ : St} {k g p x : Int} (hg : 0 ≤ g ∧ g < 9) (hp : 0 ≤ p ∧ p < 6) (ha : 0 ≤ σ k 12 ∧ σ k 12 < 18) (hw : 0 ≤ σ (bd k + 5) (6 * g + p) ∧ σ (bd k + 5) (6 * g + p) ≤ 99) (hb : 0 ≤ σ (k + 2) p ∧ σ (k + 2) p ≤ σ (bd k + 3) p ∧ σ (bd k + 3) p ≤ 999) : gX7_enter_L32 F k g p x σ = some (payC σ k g p, noteS (comeS (takeS σ k g p (payC σ k g p)) k g) k g p (payC σ k g p) x 0) := by
  have e1 : up σ (k + 3) g p (k + 1) p = σ (k + 1) p := by rw [up_at, if_neg (by omega)]
  have e2 : ∀ v, up (up σ (k + 3) g p) (k + 1) p v (k + 2) p = σ (k + 2) p := fun v => by rw [up_at, if_neg (by omega), up_at, if_neg (by omega)]
  have e3 : ∀ v, takeS σ k g p v k 12 = σ k 12 := fun v => by unfold takeS; rw [up_at, if_neg (by omega), up_at, if_neg (by omega), up_at, if_neg (by omega)]
  unfold gX7_enter_L32
  rw [worthAt_eq hg hp, Option.bind_some, w32_id (a := p) (by omega), w32_id (a := g) (by omega), gd_pos (by omega), gd_pos (by omega), gd_pos (by omega), gd_pos (by omega), gd_pos (by omega), gd_pos (by omega), gd_pos (by omega), w32_id (a := σ (bd k + 3) p - σ (k + 2) p) (by omega), w32_id (a := σ (bd k + 5) (6 * g + p)) (by omega), e1, e2]
  exact enter_90 (σ := takeS σ k g p (payC σ k g p)) hg (by rw [e3]; exact ha)
