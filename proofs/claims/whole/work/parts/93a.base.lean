-- PURE LAYER: basics
theorem gd_pos {c : Prop} {hc : Decidable c} {T : Type} {o : Option T} (h : c) : gd c o = o := by unfold gd; rw [if_pos h]
theorem up_at (σ : St) (k j v a b : Int) : up σ k j v a b = if a = k ∧ b = j then v else σ a b := rfl
theorem up_self (σ : St) (k j v : Int) : up σ k j v k j = v := by simp [up_at]
theorem up_cell {σ : St} {k j v a : Int} (h : a ≠ k) : up σ k j v a = σ a := by funext b; rw [up_at, if_neg (fun q => h q.1)]
theorem up_slot {σ : St} {k j v b : Int} (h : b ≠ j) : up σ k j v k b = σ k b := by rw [up_at, if_neg (fun q => h q.2)]
/-- an array with one place changed -/
def upf (f : Int → Int) (j v : Int) : Int → Int := fun b => if b = j then v else f b
theorem up_fn (σ : St) (k j v : Int) : up σ k j v k = upf (σ k) j v := by funext b; simp [up_at, upf]
theorem upf_self (f : Int → Int) (j v : Int) : upf f j v j = v := by simp [upf]
theorem upf_ne {f : Int → Int} {j v b : Int} (h : b ≠ j) : upf f j v b = f b := by simp [upf, h]
theorem upf_id {f : Int → Int} {j v : Int} (h : f j = v) : upf f j v = f := by funext b; unfold upf; split <;> simp_all
theorem b1_0 : b1 0 = 0 := by decide
theorem b1_1 : b1 1 = 1 := by decide
theorem w32_1 : w32 1 = 1 := by decide
theorem w64_0 : w64 0 = 0 := by decide
theorem w32_m4 : w32 (-4) = -4 := by decide
theorem w64w (a : Int) : w64 (w32 a) = w32 a := w64_id (by have := w32_rng a; omega)
/-- a truth value as the machine has it -/
def tv (c : Prop) [Decidable c] : Int := if c then 1 else 0
theorem gX10_isIn_eq (σ : St) {a b c : Int} (ha : w32 a = a) (hb : w32 b = b) (hc : w32 c = c) : gX10_isIn σ a b c = some (tv (b ≤ a ∧ a ≤ c)) := by
  unfold gX10_isIn tv
  rw [ha, hb, hc]
  repeat' split
  all_goals first | rfl | omega
theorem gX11_in_eq (σ : St) {a b c : Int} (ha : w64 a = a) (hb : w64 b = b) (hc : w64 c = c) : gX11_in σ a b c = some (tv (b ≤ a ∧ a ≤ c)) := by
  unfold gX11_in tv
  rw [ha, hb, hc]
  repeat' split
  all_goals first | rfl | omega
theorem tv_pos {c : Prop} {hc : Decidable c} (h : c) : tv c = 1 := by unfold tv; rw [if_pos h]
theorem tv_neg {c : Prop} {hc : Decidable c} (h : ¬ c) : tv c = 0 := by unfold tv; rw [if_neg h]
theorem w32_tv (c : Prop) {hc : Decidable c} : w32 (tv c) = tv c := by unfold tv; split <;> decide
theorem b1_tv (c : Prop) {hc : Decidable c} : b1 (tv c) = tv c := by unfold tv; split <;> decide
theorem tv_ne (c : Prop) {hc : Decidable c} : (tv c ≠ 0) = c := by unfold tv; split <;> simp_all
theorem tv_eq (c : Prop) {hc : Decidable c} : (tv c = 0) = ¬ c := by unfold tv; split <;> simp_all
theorem gX10_isPost_eq (σ : St) {a : Int} (ha : w32 a = a) (hp : w32 (σ 1 5) = σ 1 5) : gX10_isPost σ a = some (tv (0 ≤ a ∧ a < σ 1 5)) := by
  unfold gX10_isPost tv
  rw [ha]
  repeat' split
  all_goals first | rfl | (rw [hp] at *; omega)
theorem gX10_isGuest_eq (σ : St) {a : Int} (ha : w32 a = a) (hp : w32 (σ 1 6) = σ 1 6) : gX10_isGuest σ a = some (tv (0 ≤ a ∧ a < σ 1 6)) := by
  unfold gX10_isGuest tv
  rw [ha]
  repeat' split
  all_goals first | rfl | (rw [hp] at *; omega)
theorem gX10_isRule_eq (σ : St) {a : Int} (ha : w32 a = a) (hp : w32 (σ 0 12) = σ 0 12) : gX10_isRule σ a = some (tv (0 ≤ a ∧ a < σ 0 12)) := by
  unfold gX10_isRule tv
  rw [ha]
  repeat' split
  all_goals first | rfl | (rw [hp] at *; omega)
theorem gX11_isPost_eq (σ : St) {a : Int} (ha : w32 a = a) (hp : 0 ≤ σ 143 0 ∧ σ 143 0 ≤ 6) : gX11_isPost σ a = some (tv (0 ≤ a ∧ a < σ 143 0)) := by
  unfold gX11_isPost
  rw [ha, w32_id (a := σ 143 0 - 1) (by omega), gX11_in_eq σ (by rw [← ha]; exact w64w a) w64_0 (w64_id (by omega))]
  show some (b1 (tv _)) = _
  rw [b1_tv]
  congr 1
  unfold tv
  repeat' split
  all_goals first | rfl | omega
theorem gX11_isGuest_eq (σ : St) {a : Int} (ha : w32 a = a) (hp : 0 ≤ σ 143 4 ∧ σ 143 4 ≤ 9) : gX11_isGuest σ a = some (tv (0 ≤ a ∧ a < σ 143 4)) := by
  unfold gX11_isGuest
  rw [ha, w32_id (a := σ 143 4 - 1) (by omega), gX11_in_eq σ (by rw [← ha]; exact w64w a) w64_0 (w64_id (by omega))]
  show some (b1 (tv _)) = _
  rw [b1_tv]
  congr 1
  unfold tv
  repeat' split
  all_goals first | rfl | omega
theorem gX11_isRule_eq (σ : St) {a : Int} (ha : w32 a = a) (hp : 0 ≤ σ 143 16 ∧ σ 143 16 ≤ 6) : gX11_isRule σ a = some (tv (0 ≤ a ∧ a < σ 143 16)) := by
  unfold gX11_isRule
  rw [ha, w32_id (a := σ 143 16 - 1) (by omega), gX11_in_eq σ (by rw [← ha]; exact w64w a) w64_0 (w64_id (by omega))]
  show some (b1 (tv _)) = _
  rw [b1_tv]
  congr 1
  unfold tv
  repeat' split
  all_goals first | rfl | omega
/-- sums from a on, m of them -/
def sumN (f : Int → Int) : Nat → Int → Int
  | 0, _ => 0
  | m + 1, a => f a + sumN f m (a + 1)
theorem sumN_congr {f g : Int → Int} : ∀ (m : Nat) (a : Int), (∀ i, a ≤ i → i < a + m → f i = g i) → sumN f m a = sumN g m a := by
  intro m
  induction m with
  | zero => intro a _; rfl
  | succ m ih =>
    intro a h
    show f a + sumN f m (a + 1) = g a + sumN g m (a + 1)
    rw [h a (by omega) (by omega), ih (a + 1) (fun i h1 h2 => h i (by omega) (by omega))]
theorem sumN_rng {f : Int → Int} {lo hi : Int} : ∀ (m : Nat) (a : Int), (∀ i, a ≤ i → i < a + m → lo ≤ f i ∧ f i ≤ hi) → lo * m ≤ sumN f m a ∧ sumN f m a ≤ hi * m := by
  intro m
  induction m with
  | zero => intro a _; simp [sumN]
  | succ m ih =>
    intro a h
    have h1 := h a (by omega) (by omega)
    have h2 := ih (a + 1) (fun i h1 h2 => h i (by omega) (by omega))
    show lo * ((m + 1 : Nat) : Int) ≤ f a + sumN f m (a + 1) ∧ f a + sumN f m (a + 1) ≤ hi * ((m + 1 : Nat) : Int)
    have e1 : lo * ((m + 1 : Nat) : Int) = lo * m + lo := by rw [Int.natCast_add]; simp [Int.mul_add]
    have e2 : hi * ((m + 1 : Nat) : Int) = hi * m + hi := by rw [Int.natCast_add]; simp [Int.mul_add]
    omega
