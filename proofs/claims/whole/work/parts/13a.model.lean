-- in
def gX11_in (σ : St) (x0 : Int) (x2 : Int) (x4 : Int) : Option (Int) := if w64 x0 < w64 x2 then some 0 else if w64 x0 > w64 x4 then some 0 else some 1
def rmX11_in : Room := { frames := 0, cells := 0, slots := 0, locals := 0 }
set_option maxRecDepth 100000 in
set_option maxHeartbeats 4000000 in
theorem tX11_in (l : Launch) (G : GG) (σ : St) (x0 : Int) (x2 : Int) (x4 : Int) : Ctr l G yX11_in cX11_in 6 (some .boolean) rmX11_in [vl x0, vl x2, vl x4] (w0 σ) vzI (wzR σ) (gX11_in σ x0 x2 x4) := by
  refine ctr_of (by decide) (Nat.le_of_ble_eq_true rfl) mwX11_in.1 (fun X hl hR C R hnm => ?_)
  subst hl
  refine z_lv (lv' := [(0, vl x0), (2, vl x2), (4, vl x4)]) [0, 1, 2] rfl ?_
  show ZZ X G 6 (QM X G vzI (wzR σ) (0, 0)) (0, 0) (if w64 x0 < w64 x2 then some 0 else if w64 x0 > w64 x4 then some 0 else some 1) (w0 σ) 0 [(0, vl x0), (2, vl x2), (4, vl x4)] []
  refine z_lload_n C 0 rfl 0 rfl dX11_in_0 1 rfl ?_
  refine z_lload_n C 2 rfl 1 rfl dX11_in_1 2 rfl ?_
  refine z_lif_lt C dX11_in_2 3 rfl dX11_in_3 17 (by decide) 6 rfl rfl rfl (fun _ => ?_) (fun _ => ?_)
  · refine z_iconst C dX11_in_17 18 rfl ?_
    exact z_zret C R nz0 rfl rfl dX11_in_18
  · refine z_lload_n C 0 rfl 0 rfl dX11_in_6 7 rfl ?_
    refine z_lload C 2 rfl dX11_in_7 9 rfl ?_
    refine z_lif_gt C dX11_in_9 10 rfl dX11_in_10 17 (by decide) 13 rfl rfl rfl (fun _ => ?_) (fun _ => ?_)
    · refine z_iconst C dX11_in_17 18 rfl ?_
      exact z_zret C R nz0 rfl rfl dX11_in_18
    · refine z_iconst C dX11_in_13 14 rfl ?_
      refine z_goto C dX11_in_14 18 (by decide) ?_
      exact z_zret C R nz1 rfl rfl dX11_in_18
-- isPost
def gX11_isPost (σ : St) (x1 : Int) : Option (Int) := (gX11_in σ (w32 x1) 0 (w32 ((σ 143 0) - 1))).bind fun r1 => some (b1 r1)
def rmX11_isPost : Room := { frames := 1, cells := 0, slots := 0, locals := 25 }
set_option maxRecDepth 100000 in
set_option maxHeartbeats 4000000 in
theorem tX11_isPost (l : Launch) (G : GG) (σ : St) (x1 : Int) : Ctr l G yX11_isPost cX11_isPost 2 (some .boolean) rmX11_isPost [vr G 143, vi x1] (w0 σ) vzI (wzR σ) (gX11_isPost σ x1) := by
  refine ctr_of (by decide) (Nat.le_of_ble_eq_true rfl) mwX11_isPost.1 (fun X hl hR C R hnm => ?_)
  subst hl
  refine z_lv (lv' := [(0, vr G 143), (1, vi x1)]) [0, 1] rfl ?_
  show ZZ X G 2 (QM X G vzI (wzR σ) (0, 0)) (0, 0) ((gX11_in σ (w32 x1) 0 (w32 ((σ 143 0) - 1))).bind fun r1 => some (b1 r1)) (w0 σ) 0 [(0, vr G 143), (1, vi x1)] []
  refine z_iload_n C 1 rfl 1 rfl dX11_isPost_0 1 rfl ?_
  refine z_i2l C dX11_isPost_1 2 rfl ?_
  refine z_lconst (v := 0) C (by decide) dX11_isPost_2 3 rfl ?_
  refine z_aload_n C 0 rfl 0 rfl dX11_isPost_3 4 rfl ?_
  refine y_getI C fX11_122 one_11 dX11_isPost_4 7 rfl ?_
  refine z_iconst C dX11_isPost_7 8 rfl ?_
  refine z_isub C dX11_isPost_8 9 rfl ?_
  refine z_i2l C dX11_isPost_9 10 rfl ?_
  refine y_callSI C hR (tX11_in (mL X) G σ (w32 x1) 0 (w32 ((σ 143 0) - 1))) ⟨mwX11_in, msX11_in, lkX11_126⟩ rfl rfl (Nat.le_of_ble_eq_true rfl) (by unfold rmOK; decide) dX11_isPost_10 13 rfl (fun r1 _ => ?_)
  exact z_zretb C R rfl rfl dX11_isPost_13
-- isGuest
def gX11_isGuest (σ : St) (x1 : Int) : Option (Int) := (gX11_in σ (w32 x1) 0 (w32 ((σ 143 4) - 1))).bind fun r1 => some (b1 r1)
def rmX11_isGuest : Room := { frames := 1, cells := 0, slots := 0, locals := 25 }
set_option maxRecDepth 100000 in
set_option maxHeartbeats 4000000 in
theorem tX11_isGuest (l : Launch) (G : GG) (σ : St) (x1 : Int) : Ctr l G yX11_isGuest cX11_isGuest 2 (some .boolean) rmX11_isGuest [vr G 143, vi x1] (w0 σ) vzI (wzR σ) (gX11_isGuest σ x1) := by
  refine ctr_of (by decide) (Nat.le_of_ble_eq_true rfl) mwX11_isGuest.1 (fun X hl hR C R hnm => ?_)
  subst hl
  refine z_lv (lv' := [(0, vr G 143), (1, vi x1)]) [0, 1] rfl ?_
  show ZZ X G 2 (QM X G vzI (wzR σ) (0, 0)) (0, 0) ((gX11_in σ (w32 x1) 0 (w32 ((σ 143 4) - 1))).bind fun r1 => some (b1 r1)) (w0 σ) 0 [(0, vr G 143), (1, vi x1)] []
  refine z_iload_n C 1 rfl 1 rfl dX11_isGuest_0 1 rfl ?_
  refine z_i2l C dX11_isGuest_1 2 rfl ?_
  refine z_lconst (v := 0) C (by decide) dX11_isGuest_2 3 rfl ?_
  refine z_aload_n C 0 rfl 0 rfl dX11_isGuest_3 4 rfl ?_
  refine y_getI C fX11_130 one_11 dX11_isGuest_4 7 rfl ?_
  refine z_iconst C dX11_isGuest_7 8 rfl ?_
  refine z_isub C dX11_isGuest_8 9 rfl ?_
  refine z_i2l C dX11_isGuest_9 10 rfl ?_
  refine y_callSI C hR (tX11_in (mL X) G σ (w32 x1) 0 (w32 ((σ 143 4) - 1))) ⟨mwX11_in, msX11_in, lkX11_126⟩ rfl rfl (Nat.le_of_ble_eq_true rfl) (by unfold rmOK; decide) dX11_isGuest_10 13 rfl (fun r1 _ => ?_)
  exact z_zretb C R rfl rfl dX11_isGuest_13
-- roomSum
def gX11_roomSum_L4 (F : Nat) (σ : St) : Nat → Int → Int → Option (Int)
  | 0, _, _ => none
  | n + 1, x1, x2 => if w32 x2 ≥ w32 (σ 143 0) then some x1 else gd (0 ≤ w32 x2 ∧ w32 x2 < 6) (gX11_roomSum_L4 F σ n (x1 + (σ 144 (w32 x2))) (x2 + 1))
def gX11_roomSum (F : Nat) (σ : St) : Option (Int) := gX11_roomSum_L4 F σ F 0 0
def rmX11_roomSum : Room := { frames := 0, cells := 0, slots := 0, locals := 0 }
set_option maxRecDepth 100000 in
set_option maxHeartbeats 4000000 in
theorem pX11_roomSum_L4 {X : MX} {G : GG} (C : CX X G 3 cX11_roomSum RX11) (R : RT X (some .int)) (hR : mR X = rmX11_roomSum) (F : Nat) (σ : St)  : ∀ (n : Nat) (x1 : Int) (x2 : Int), ZZ X G 3 (QM X G vzI (wzR σ) (0, 0)) (0, 0) (gX11_roomSum_L4 F σ n x1 x2) (w0 σ) 4 [(0, vr G 143), (1, vi x1), (2, vi x2)] [] := by
  intro n
  induction n with
  | zero =>
    intro _ _
    exact z_none
  | succ n ih =>
    intro x1 x2
    show ZZ X G 3 (QM X G vzI (wzR σ) (0, 0)) (0, 0) (if w32 x2 ≥ w32 (σ 143 0) then some x1 else gd (0 ≤ w32 x2 ∧ w32 x2 < 6) (gX11_roomSum_L4 F σ n (x1 + (σ 144 (w32 x2))) (x2 + 1))) (w0 σ) 4 [(0, vr G 143), (1, vi x1), (2, vi x2)] []
    refine z_iload_n C 2 rfl 2 rfl dX11_roomSum_4 5 rfl ?_
    refine z_aload_n C 0 rfl 0 rfl dX11_roomSum_5 6 rfl ?_
    refine y_getI C fX11_122 one_11 dX11_roomSum_6 9 rfl ?_
    refine z_icmp_ge C dX11_roomSum_9 27 (by decide) 12 rfl rfl rfl (fun _ => ?_) (fun _ => ?_)
    · refine z_iload_n C 1 rfl 1 rfl dX11_roomSum_27 28 rfl ?_
      exact z_iret C R rfl rfl dX11_roomSum_28
    · refine z_iload_n C 1 rfl 1 rfl dX11_roomSum_12 13 rfl ?_
      refine z_aload_n C 0 rfl 0 rfl dX11_roomSum_13 14 rfl ?_
      refine y_getR C fX11_7 one_11 lay_11_1 dX11_roomSum_14 17 rfl ?_
      refine z_iload_n C 2 rfl 2 rfl dX11_roomSum_17 18 rfl ?_
      refine y_iald C lay_11_1.2 rfl dX11_roomSum_18 19 rfl rfl (fun _ => ?_)
      refine z_iadd C dX11_roomSum_19 20 rfl ?_
      refine z_istore_n (lv' := [(1, vi (x1 + (σ 144 (w32 x2)))), (0, vr G 143), (2, vi x2)]) C 1 rfl (by decide) dX11_roomSum_20 21 rfl rfl ?_
      refine z_iinc (lv' := [(2, vi (x2 + 1)), (1, vi (x1 + (σ 144 (w32 x2)))), (0, vr G 143)]) C (by decide) 2 rfl dX11_roomSum_21 24 rfl rfl ?_
      refine z_goto C dX11_roomSum_24 4 (by decide) ?_
      refine z_lv (lv' := [(0, vr G 143), (1, vi (x1 + (σ 144 (w32 x2)))), (2, vi (x2 + 1))]) [2, 1, 0] rfl ?_
      exact ih (x1 + (σ 144 (w32 x2))) (x2 + 1)
set_option maxRecDepth 100000 in
set_option maxHeartbeats 4000000 in
theorem tX11_roomSum (l : Launch) (G : GG) (F : Nat) (σ : St) : Ctr l G yX11_roomSum cX11_roomSum 3 (some .int) rmX11_roomSum [vr G 143] (w0 σ) vzI (wzR σ) (gX11_roomSum F σ) := by
  refine ctr_of (by decide) (Nat.le_of_ble_eq_true rfl) mwX11_roomSum.1 (fun X hl hR C R hnm => ?_)
  subst hl
  refine z_lv (lv' := [(0, vr G 143)]) [0] rfl ?_
  show ZZ X G 3 (QM X G vzI (wzR σ) (0, 0)) (0, 0) (gX11_roomSum_L4 F σ F 0 0) (w0 σ) 0 [(0, vr G 143)] []
  refine z_iconst C dX11_roomSum_0 1 rfl ?_
  refine z_istore_n (lv' := [(1, vi 0), (0, vr G 143)]) C 1 rfl (by decide) dX11_roomSum_1 2 rfl rfl ?_
  refine z_iconst C dX11_roomSum_2 3 rfl ?_
  refine z_istore_n (lv' := [(2, vi 0), (1, vi 0), (0, vr G 143)]) C 2 rfl (by decide) dX11_roomSum_3 4 rfl rfl ?_
  refine z_lv (lv' := [(0, vr G 143), (1, vi 0), (2, vi 0)]) [2, 1, 0] rfl ?_
  exact pX11_roomSum_L4 C R hR F σ F 0 0
-- came
def gX11_came_L4 (F : Nat) (σ : St) : Nat → Int → Int → Option (Int)
  | 0, _, _ => none
  | n + 1, x1, x2 => if w32 x2 ≥ w32 (σ 143 4) then some x1 else gd (0 ≤ w32 x2 ∧ w32 x2 < 9) (gX11_came_L4 F σ n (x1 + (σ 173 (w32 x2))) (x2 + 1))
def gX11_came (F : Nat) (σ : St) : Option (Int) := gX11_came_L4 F σ F 0 0
def rmX11_came : Room := { frames := 0, cells := 0, slots := 0, locals := 0 }
set_option maxRecDepth 100000 in
set_option maxHeartbeats 4000000 in
theorem pX11_came_L4 {X : MX} {G : GG} (C : CX X G 3 cX11_came RX11) (R : RT X (some .int)) (hR : mR X = rmX11_came) (F : Nat) (σ : St)  : ∀ (n : Nat) (x1 : Int) (x2 : Int), ZZ X G 3 (QM X G vzI (wzR σ) (0, 0)) (0, 0) (gX11_came_L4 F σ n x1 x2) (w0 σ) 4 [(0, vr G 143), (1, vi x1), (2, vi x2)] [] := by
  intro n
  induction n with
  | zero =>
    intro _ _
    exact z_none
  | succ n ih =>
    intro x1 x2
    show ZZ X G 3 (QM X G vzI (wzR σ) (0, 0)) (0, 0) (if w32 x2 ≥ w32 (σ 143 4) then some x1 else gd (0 ≤ w32 x2 ∧ w32 x2 < 9) (gX11_came_L4 F σ n (x1 + (σ 173 (w32 x2))) (x2 + 1))) (w0 σ) 4 [(0, vr G 143), (1, vi x1), (2, vi x2)] []
    refine z_iload_n C 2 rfl 2 rfl dX11_came_4 5 rfl ?_
    refine z_aload_n C 0 rfl 0 rfl dX11_came_5 6 rfl ?_
    refine y_getI C fX11_130 one_11 dX11_came_6 9 rfl ?_
    refine z_icmp_ge C dX11_came_9 27 (by decide) 12 rfl rfl rfl (fun _ => ?_) (fun _ => ?_)
    · refine z_iload_n C 1 rfl 1 rfl dX11_came_27 28 rfl ?_
      exact z_iret C R rfl rfl dX11_came_28
    · refine z_iload_n C 1 rfl 1 rfl dX11_came_12 13 rfl ?_
      refine z_aload_n C 0 rfl 0 rfl dX11_came_13 14 rfl ?_
      refine y_getR C fX11_98 one_11 lay_11_49 dX11_came_14 17 rfl ?_
      refine z_iload_n C 2 rfl 2 rfl dX11_came_17 18 rfl ?_
      refine y_iald C lay_11_49.2 rfl dX11_came_18 19 rfl rfl (fun _ => ?_)
      refine z_iadd C dX11_came_19 20 rfl ?_
      refine z_istore_n (lv' := [(1, vi (x1 + (σ 173 (w32 x2)))), (0, vr G 143), (2, vi x2)]) C 1 rfl (by decide) dX11_came_20 21 rfl rfl ?_
      refine z_iinc (lv' := [(2, vi (x2 + 1)), (1, vi (x1 + (σ 173 (w32 x2)))), (0, vr G 143)]) C (by decide) 2 rfl dX11_came_21 24 rfl rfl ?_
      refine z_goto C dX11_came_24 4 (by decide) ?_
      refine z_lv (lv' := [(0, vr G 143), (1, vi (x1 + (σ 173 (w32 x2)))), (2, vi (x2 + 1))]) [2, 1, 0] rfl ?_
      exact ih (x1 + (σ 173 (w32 x2))) (x2 + 1)
set_option maxRecDepth 100000 in
set_option maxHeartbeats 4000000 in
theorem tX11_came (l : Launch) (G : GG) (F : Nat) (σ : St) : Ctr l G yX11_came cX11_came 3 (some .int) rmX11_came [vr G 143] (w0 σ) vzI (wzR σ) (gX11_came F σ) := by
  refine ctr_of (by decide) (Nat.le_of_ble_eq_true rfl) mwX11_came.1 (fun X hl hR C R hnm => ?_)
  subst hl
  refine z_lv (lv' := [(0, vr G 143)]) [0] rfl ?_
  show ZZ X G 3 (QM X G vzI (wzR σ) (0, 0)) (0, 0) (gX11_came_L4 F σ F 0 0) (w0 σ) 0 [(0, vr G 143)] []
  refine z_iconst C dX11_came_0 1 rfl ?_
  refine z_istore_n (lv' := [(1, vi 0), (0, vr G 143)]) C 1 rfl (by decide) dX11_came_1 2 rfl rfl ?_
  refine z_iconst C dX11_came_2 3 rfl ?_
  refine z_istore_n (lv' := [(2, vi 0), (1, vi 0), (0, vr G 143)]) C 2 rfl (by decide) dX11_came_3 4 rfl rfl ?_
  refine z_lv (lv' := [(0, vr G 143), (1, vi 0), (2, vi 0)]) [2, 1, 0] rfl ?_
  exact pX11_came_L4 C R hR F σ F 0 0
-- post
def gX11_post_L104 (F : Nat) (x1 : Int) (x2 : Int) (x3 : Int) : Nat → Int → St → Option (Int × St)
  | 0, _, _ => none
  | n + 1, x4, σ => if w32 x4 ≥ 9 then some (((up σ 143 0 ((σ 143 0) + 1)) 143 0) - 1, up σ 143 0 ((σ 143 0) + 1)) else gd (0 ≤ w32 ((6 * x4) + (σ 143 0)) ∧ w32 ((6 * x4) + (σ 143 0)) < 54) (gX11_post_L104 F x1 x2 x3 n (x4 + 1) (up σ 148 (w32 ((6 * x4) + (σ 143 0))) 0))
def gX11_post (F : Nat) (σ : St) (x1 : Int) (x2 : Int) (x3 : Int) : Option (Int × St) := (gX11_in σ (w32 x1) 1 3).bind fun r1 => if w32 r1 = 0 then some ((-1), σ) else (gX11_in σ (w32 x2) 0 99).bind fun r2 => if w32 r2 = 0 then some ((-1), σ) else (gX11_in σ (w32 x3) 1 999).bind fun r3 => if w32 r3 ≠ 0 then (gX11_came F σ).bind fun r4 => if w32 r4 ≤ 0 then if w32 (σ 143 0) = 6 then some ((-3), σ) else (gX11_roomSum F σ).bind fun r5 => if w32 (r5 + x1) ≤ 10 then gd (0 ≤ w32 (σ 143 0) ∧ w32 (σ 143 0) < 6) (gd (0 ≤ w32 ((up σ 144 (w32 (σ 143 0)) x1) 143 0) ∧ w32 ((up σ 144 (w32 (σ 143 0)) x1) 143 0) < 6) (gd (0 ≤ w32 ((up (up σ 144 (w32 (σ 143 0)) x1) 145 (w32 ((up σ 144 (w32 (σ 143 0)) x1) 143 0)) x2) 143 0) ∧ w32 ((up (up σ 144 (w32 (σ 143 0)) x1) 145 (w32 ((up σ 144 (w32 (σ 143 0)) x1) 143 0)) x2) 143 0) < 6) (gX11_post_L104 F x1 x2 x3 F 0 (up (up (up σ 144 (w32 (σ 143 0)) x1) 145 (w32 ((up σ 144 (w32 (σ 143 0)) x1) 143 0)) x2) 146 (w32 ((up (up σ 144 (w32 (σ 143 0)) x1) 145 (w32 ((up σ 144 (w32 (σ 143 0)) x1) 143 0)) x2) 143 0)) x3)))) else some ((-3), σ) else some ((-2), σ) else some ((-1), σ)
def rmX11_post : Room := { frames := 1, cells := 0, slots := 0, locals := 25 }
set_option maxRecDepth 100000 in
set_option maxHeartbeats 4000000 in
theorem pX11_post_L104 {X : MX} {G : GG} (C : CX X G 5 cX11_post RX11) (R : RT X (some .int)) (hR : mR X = rmX11_post) (F : Nat) (x1 : Int) (x2 : Int) (x3 : Int)  : ∀ (n : Nat) (x4 : Int) (σ : St), ZZ X G 5 (QM X G vzIw wzW (0, 0)) (0, 0) (gX11_post_L104 F x1 x2 x3 n x4 σ) (w0 σ) 104 [(0, vr G 143), (4, vi x4)] [] := by
  intro n
  induction n with
  | zero =>
    intro _ _
    exact z_none
  | succ n ih =>
    intro x4 σ
    show ZZ X G 5 (QM X G vzIw wzW (0, 0)) (0, 0) (if w32 x4 ≥ 9 then some (((up σ 143 0 ((σ 143 0) + 1)) 143 0) - 1, up σ 143 0 ((σ 143 0) + 1)) else gd (0 ≤ w32 ((6 * x4) + (σ 143 0)) ∧ w32 ((6 * x4) + (σ 143 0)) < 54) (gX11_post_L104 F x1 x2 x3 n (x4 + 1) (up σ 148 (w32 ((6 * x4) + (σ 143 0))) 0))) (w0 σ) 104 [(0, vr G 143), (4, vi x4)] []
    refine z_iload C 1 rfl dX11_post_104 106 rfl ?_
    refine z_bipush C (by decide) dX11_post_106 108 rfl ?_
    refine z_icmp_ge C dX11_post_108 133 (by decide) 111 rfl rfl (w32_id (a := 9) (by decide)) (fun _ => ?_) (fun _ => ?_)
    · refine z_aload_n C 0 rfl 0 rfl dX11_post_133 134 rfl ?_
      refine z_dup C rfl dX11_post_134 135 rfl ?_
      refine y_getI C fX11_122 one_11 dX11_post_135 138 rfl ?_
      refine z_iconst C dX11_post_138 139 rfl ?_
      refine z_iadd C dX11_post_139 140 rfl ?_
      refine y_putI C fX11_122 one_11 ⟨rfl, rfl⟩ dX11_post_140 143 rfl ?_
      refine z_aload_n C 0 rfl 0 rfl dX11_post_143 144 rfl ?_
      refine y_getI C fX11_122 one_11 dX11_post_144 147 rfl ?_
      refine z_iconst C dX11_post_147 148 rfl ?_
      refine z_isub C dX11_post_148 149 rfl ?_
      exact z_iret C R rfl rfl dX11_post_149
    · refine z_aload_n C 0 rfl 0 rfl dX11_post_111 112 rfl ?_
      refine y_getR C fX11_22 one_11 lay_11_6 dX11_post_112 115 rfl ?_
      refine z_bipush C (by decide) dX11_post_115 117 rfl ?_
      refine z_iload C 1 rfl dX11_post_117 119 rfl ?_
      refine z_imul C dX11_post_119 120 rfl ?_
      refine z_aload_n C 0 rfl 0 rfl dX11_post_120 121 rfl ?_
      refine y_getI C fX11_122 one_11 dX11_post_121 124 rfl ?_
      refine z_iadd C dX11_post_124 125 rfl ?_
      refine z_iconst C dX11_post_125 126 rfl ?_
      refine y_iast C lay_11_6.2 rfl dX11_post_126 127 rfl rfl (fun _ => ?_)
      refine z_iinc (lv' := [(4, vi (x4 + 1)), (0, vr G 143)]) C (by decide) 1 rfl dX11_post_127 130 rfl rfl ?_
      refine z_goto C dX11_post_130 104 (by decide) ?_
      refine z_lv (lv' := [(0, vr G 143), (4, vi (x4 + 1))]) [1, 0] rfl ?_
      exact ih (x4 + 1) (up σ 148 (w32 ((6 * x4) + (σ 143 0))) 0)
set_option maxRecDepth 100000 in
set_option maxHeartbeats 4000000 in
theorem tX11_post (l : Launch) (G : GG) (F : Nat) (σ : St) (x1 : Int) (x2 : Int) (x3 : Int) : Ctr l G yX11_post cX11_post 5 (some .int) rmX11_post [vr G 143, vi x1, vi x2, vi x3] (w0 σ) vzIw wzW (gX11_post F σ x1 x2 x3) := by
  refine ctr_of (by decide) (Nat.le_of_ble_eq_true rfl) mwX11_post.1 (fun X hl hR C R hnm => ?_)
  subst hl
  refine z_lv (lv' := [(0, vr G 143), (1, vi x1), (2, vi x2), (3, vi x3)]) [0, 1, 2, 3] rfl ?_
  show ZZ X G 5 (QM X G vzIw wzW (0, 0)) (0, 0) ((gX11_in σ (w32 x1) 1 3).bind fun r1 => if w32 r1 = 0 then some ((-1), σ) else (gX11_in σ (w32 x2) 0 99).bind fun r2 => if w32 r2 = 0 then some ((-1), σ) else (gX11_in σ (w32 x3) 1 999).bind fun r3 => if w32 r3 ≠ 0 then (gX11_came F σ).bind fun r4 => if w32 r4 ≤ 0 then if w32 (σ 143 0) = 6 then some ((-3), σ) else (gX11_roomSum F σ).bind fun r5 => if w32 (r5 + x1) ≤ 10 then gd (0 ≤ w32 (σ 143 0) ∧ w32 (σ 143 0) < 6) (gd (0 ≤ w32 ((up σ 144 (w32 (σ 143 0)) x1) 143 0) ∧ w32 ((up σ 144 (w32 (σ 143 0)) x1) 143 0) < 6) (gd (0 ≤ w32 ((up (up σ 144 (w32 (σ 143 0)) x1) 145 (w32 ((up σ 144 (w32 (σ 143 0)) x1) 143 0)) x2) 143 0) ∧ w32 ((up (up σ 144 (w32 (σ 143 0)) x1) 145 (w32 ((up σ 144 (w32 (σ 143 0)) x1) 143 0)) x2) 143 0) < 6) (gX11_post_L104 F x1 x2 x3 F 0 (up (up (up σ 144 (w32 (σ 143 0)) x1) 145 (w32 ((up σ 144 (w32 (σ 143 0)) x1) 143 0)) x2) 146 (w32 ((up (up σ 144 (w32 (σ 143 0)) x1) 145 (w32 ((up σ 144 (w32 (σ 143 0)) x1) 143 0)) x2) 143 0)) x3)))) else some ((-3), σ) else some ((-2), σ) else some ((-1), σ)) (w0 σ) 0 [(0, vr G 143), (1, vi x1), (2, vi x2), (3, vi x3)] []
  refine z_iload_n C 1 rfl 1 rfl dX11_post_0 1 rfl ?_
  refine z_i2l C dX11_post_1 2 rfl ?_
  refine z_lconst (v := 1) C (by decide) dX11_post_2 3 rfl ?_
  refine z_ldc2 (v := 3) C clX11_133 (by decide) dX11_post_3 6 rfl ?_
  refine y_callSI C hR (tX11_in (mL X) G σ (w32 x1) 1 3) ⟨mwX11_in, msX11_in, lkX11_126⟩ rfl rfl (Nat.le_of_ble_eq_true rfl) (by unfold rmOK; decide) dX11_post_6 9 rfl (fun r1 _ => ?_)
  refine z_if_eq C dX11_post_9 36 (by decide) 12 rfl rfl (fun _ => ?_) (fun _ => ?_)
  · refine z_iconst C dX11_post_36 37 rfl ?_
    exact z_iret C R rfl rfl dX11_post_37
  · refine z_iload_n C 2 rfl 2 rfl dX11_post_12 13 rfl ?_
    refine z_i2l C dX11_post_13 14 rfl ?_
    refine z_lconst (v := 0) C (by decide) dX11_post_14 15 rfl ?_
    refine z_ldc2 (v := 99) C clX11_135 (by decide) dX11_post_15 18 rfl ?_
    refine y_callSI C hR (tX11_in (mL X) G σ (w32 x2) 0 99) ⟨mwX11_in, msX11_in, lkX11_126⟩ rfl rfl (Nat.le_of_ble_eq_true rfl) (by unfold rmOK; decide) dX11_post_18 21 rfl (fun r2 _ => ?_)
    refine z_if_eq C dX11_post_21 36 (by decide) 24 rfl rfl (fun _ => ?_) (fun _ => ?_)
    · refine z_iconst C dX11_post_36 37 rfl ?_
      exact z_iret C R rfl rfl dX11_post_37
    · refine z_iload_n C 3 rfl 3 rfl dX11_post_24 25 rfl ?_
      refine z_i2l C dX11_post_25 26 rfl ?_
      refine z_lconst (v := 1) C (by decide) dX11_post_26 27 rfl ?_
      refine z_ldc2 (v := 999) C clX11_137 (by decide) dX11_post_27 30 rfl ?_
      refine y_callSI C hR (tX11_in (mL X) G σ (w32 x3) 1 999) ⟨mwX11_in, msX11_in, lkX11_126⟩ rfl rfl (Nat.le_of_ble_eq_true rfl) (by unfold rmOK; decide) dX11_post_30 33 rfl (fun r3 _ => ?_)
      refine z_if_ne C dX11_post_33 38 (by decide) 36 rfl rfl (fun _ => ?_) (fun _ => ?_)
      · refine z_aload_n C 0 rfl 0 rfl dX11_post_38 39 rfl ?_
        refine y_callVI C hR (tX11_came (mL X) G F σ) ⟨mwX11_came, mvX11_came, lkX11_139⟩ one_11 rfl rfl (Nat.le_of_ble_eq_true rfl) (by unfold rmOK; decide) dX11_post_39 42 rfl (fun r4 _ => ?_)
        refine z_if_le C dX11_post_42 48 (by decide) 45 rfl rfl (fun _ => ?_) (fun _ => ?_)
        · refine z_aload_n C 0 rfl 0 rfl dX11_post_48 49 rfl ?_
          refine y_getI C fX11_122 one_11 dX11_post_49 52 rfl ?_
          refine z_bipush C (by decide) dX11_post_52 54 rfl ?_
          refine z_icmp_eq C dX11_post_54 68 (by decide) 57 rfl rfl (w32_id (a := 6) (by decide)) (fun _ => ?_) (fun _ => ?_)
          · refine z_bipush C (by decide) dX11_post_68 70 rfl ?_
            exact z_iret C R rfl rfl dX11_post_70
          · refine z_aload_n C 0 rfl 0 rfl dX11_post_57 58 rfl ?_
            refine y_callVI C hR (tX11_roomSum (mL X) G F σ) ⟨mwX11_roomSum, mvX11_roomSum, lkX11_143⟩ one_11 rfl rfl (Nat.le_of_ble_eq_true rfl) (by unfold rmOK; decide) dX11_post_58 61 rfl (fun r5 _ => ?_)
            refine z_iload_n C 1 rfl 1 rfl dX11_post_61 62 rfl ?_
            refine z_iadd C dX11_post_62 63 rfl ?_
            refine z_bipush C (by decide) dX11_post_63 65 rfl ?_
            refine z_icmp_le C dX11_post_65 71 (by decide) 68 rfl rfl (w32_id (a := 10) (by decide)) (fun _ => ?_) (fun _ => ?_)
            · refine z_aload_n C 0 rfl 0 rfl dX11_post_71 72 rfl ?_
              refine y_getR C fX11_7 one_11 lay_11_1 dX11_post_72 75 rfl ?_
              refine z_aload_n C 0 rfl 0 rfl dX11_post_75 76 rfl ?_
              refine y_getI C fX11_122 one_11 dX11_post_76 79 rfl ?_
              refine z_iload_n C 1 rfl 1 rfl dX11_post_79 80 rfl ?_
              refine y_iast C lay_11_1.2 rfl dX11_post_80 81 rfl rfl (fun _ => ?_)
              refine z_aload_n C 0 rfl 0 rfl dX11_post_81 82 rfl ?_
              refine y_getR C fX11_13 one_11 lay_11_2 dX11_post_82 85 rfl ?_
              refine z_aload_n C 0 rfl 0 rfl dX11_post_85 86 rfl ?_
              refine y_getI C fX11_122 one_11 dX11_post_86 89 rfl ?_
              refine z_iload_n C 2 rfl 2 rfl dX11_post_89 90 rfl ?_
              refine y_iast C lay_11_2.2 rfl dX11_post_90 91 rfl rfl (fun _ => ?_)
              refine z_aload_n C 0 rfl 0 rfl dX11_post_91 92 rfl ?_
              refine y_getR C fX11_16 one_11 lay_11_3 dX11_post_92 95 rfl ?_
              refine z_aload_n C 0 rfl 0 rfl dX11_post_95 96 rfl ?_
              refine y_getI C fX11_122 one_11 dX11_post_96 99 rfl ?_
              refine z_iload_n C 3 rfl 3 rfl dX11_post_99 100 rfl ?_
              refine y_iast C lay_11_3.2 rfl dX11_post_100 101 rfl rfl (fun _ => ?_)
              refine z_iconst C dX11_post_101 102 rfl ?_
              refine z_istore (lv' := [(4, vi 0), (0, vr G 143), (1, vi x1), (2, vi x2), (3, vi x3)]) C (by decide) dX11_post_102 104 rfl rfl ?_
              refine z_lv (lv' := [(0, vr G 143), (4, vi 0)]) [1, 0] rfl ?_
              exact pX11_post_L104 C R hR F x1 x2 x3 F 0 (up (up (up σ 144 (w32 (σ 143 0)) x1) 145 (w32 ((up σ 144 (w32 (σ 143 0)) x1) 143 0)) x2) 146 (w32 ((up (up σ 144 (w32 (σ 143 0)) x1) 145 (w32 ((up σ 144 (w32 (σ 143 0)) x1) 143 0)) x2) 143 0)) x3)
            · refine z_bipush C (by decide) dX11_post_68 70 rfl ?_
              exact z_iret C R rfl rfl dX11_post_70
        · refine z_bipush C (by decide) dX11_post_45 47 rfl ?_
          exact z_iret C R rfl rfl dX11_post_47
      · refine z_iconst C dX11_post_36 37 rfl ?_
        exact z_iret C R rfl rfl dX11_post_37
-- guest
def gX11_guest_L24 (F : Nat) : Nat → Int → St → Option (Int × St)
  | 0, _, _ => none
  | n + 1, x1, σ => if w32 x1 ≥ 6 then gd (0 ≤ w32 (σ 143 4) ∧ w32 (σ 143 4) < 9) (gd (0 ≤ w32 ((up σ 173 (w32 (σ 143 4)) 0) 143 4) ∧ w32 ((up σ 173 (w32 (σ 143 4)) 0) 143 4) < 9) (gd (0 ≤ w32 ((up (up σ 173 (w32 (σ 143 4)) 0) 174 (w32 ((up σ 173 (w32 (σ 143 4)) 0) 143 4)) ((-4))) 143 4) ∧ w32 ((up (up σ 173 (w32 (σ 143 4)) 0) 174 (w32 ((up σ 173 (w32 (σ 143 4)) 0) 143 4)) ((-4))) 143 4) < 9) (some (((up (up (up (up σ 173 (w32 (σ 143 4)) 0) 174 (w32 ((up σ 173 (w32 (σ 143 4)) 0) 143 4)) ((-4))) 175 (w32 ((up (up σ 173 (w32 (σ 143 4)) 0) 174 (w32 ((up σ 173 (w32 (σ 143 4)) 0) 143 4)) ((-4))) 143 4)) 0) 143 4 (((up (up (up σ 173 (w32 (σ 143 4)) 0) 174 (w32 ((up σ 173 (w32 (σ 143 4)) 0) 143 4)) ((-4))) 175 (w32 ((up (up σ 173 (w32 (σ 143 4)) 0) 174 (w32 ((up σ 173 (w32 (σ 143 4)) 0) 143 4)) ((-4))) 143 4)) 0) 143 4) + 1)) 143 4) - 1, up (up (up (up σ 173 (w32 (σ 143 4)) 0) 174 (w32 ((up σ 173 (w32 (σ 143 4)) 0) 143 4)) ((-4))) 175 (w32 ((up (up σ 173 (w32 (σ 143 4)) 0) 174 (w32 ((up σ 173 (w32 (σ 143 4)) 0) 143 4)) ((-4))) 143 4)) 0) 143 4 (((up (up (up σ 173 (w32 (σ 143 4)) 0) 174 (w32 ((up σ 173 (w32 (σ 143 4)) 0) 143 4)) ((-4))) 175 (w32 ((up (up σ 173 (w32 (σ 143 4)) 0) 174 (w32 ((up σ 173 (w32 (σ 143 4)) 0) 143 4)) ((-4))) 143 4)) 0) 143 4) + 1))))) else gd (0 ≤ w32 ((6 * (σ 143 4)) + x1) ∧ w32 ((6 * (σ 143 4)) + x1) < 54) (gX11_guest_L24 F n (x1 + 1) (up σ 148 (w32 ((6 * (σ 143 4)) + x1)) 0))
def gX11_guest (F : Nat) (σ : St) : Option (Int × St) := if w32 (σ 143 4) ≠ 9 then gd (0 ≤ w32 (σ 143 4) ∧ w32 (σ 143 4) < 9) (gX11_guest_L24 F F 0 (up σ 147 (w32 (σ 143 4)) 1)) else some ((-3), σ)
def rmX11_guest : Room := { frames := 0, cells := 0, slots := 0, locals := 0 }
set_option maxRecDepth 100000 in
set_option maxHeartbeats 4000000 in
theorem pX11_guest_L24 {X : MX} {G : GG} (C : CX X G 2 cX11_guest RX11) (R : RT X (some .int)) (hR : mR X = rmX11_guest) (F : Nat)  : ∀ (n : Nat) (x1 : Int) (σ : St), ZZ X G 2 (QM X G vzIw wzW (0, 0)) (0, 0) (gX11_guest_L24 F n x1 σ) (w0 σ) 24 [(0, vr G 143), (1, vi x1)] [] := by
  intro n
  induction n with
  | zero =>
    intro _ _
    exact z_none
  | succ n ih =>
    intro x1 σ
    show ZZ X G 2 (QM X G vzIw wzW (0, 0)) (0, 0) (if w32 x1 ≥ 6 then gd (0 ≤ w32 (σ 143 4) ∧ w32 (σ 143 4) < 9) (gd (0 ≤ w32 ((up σ 173 (w32 (σ 143 4)) 0) 143 4) ∧ w32 ((up σ 173 (w32 (σ 143 4)) 0) 143 4) < 9) (gd (0 ≤ w32 ((up (up σ 173 (w32 (σ 143 4)) 0) 174 (w32 ((up σ 173 (w32 (σ 143 4)) 0) 143 4)) ((-4))) 143 4) ∧ w32 ((up (up σ 173 (w32 (σ 143 4)) 0) 174 (w32 ((up σ 173 (w32 (σ 143 4)) 0) 143 4)) ((-4))) 143 4) < 9) (some (((up (up (up (up σ 173 (w32 (σ 143 4)) 0) 174 (w32 ((up σ 173 (w32 (σ 143 4)) 0) 143 4)) ((-4))) 175 (w32 ((up (up σ 173 (w32 (σ 143 4)) 0) 174 (w32 ((up σ 173 (w32 (σ 143 4)) 0) 143 4)) ((-4))) 143 4)) 0) 143 4 (((up (up (up σ 173 (w32 (σ 143 4)) 0) 174 (w32 ((up σ 173 (w32 (σ 143 4)) 0) 143 4)) ((-4))) 175 (w32 ((up (up σ 173 (w32 (σ 143 4)) 0) 174 (w32 ((up σ 173 (w32 (σ 143 4)) 0) 143 4)) ((-4))) 143 4)) 0) 143 4) + 1)) 143 4) - 1, up (up (up (up σ 173 (w32 (σ 143 4)) 0) 174 (w32 ((up σ 173 (w32 (σ 143 4)) 0) 143 4)) ((-4))) 175 (w32 ((up (up σ 173 (w32 (σ 143 4)) 0) 174 (w32 ((up σ 173 (w32 (σ 143 4)) 0) 143 4)) ((-4))) 143 4)) 0) 143 4 (((up (up (up σ 173 (w32 (σ 143 4)) 0) 174 (w32 ((up σ 173 (w32 (σ 143 4)) 0) 143 4)) ((-4))) 175 (w32 ((up (up σ 173 (w32 (σ 143 4)) 0) 174 (w32 ((up σ 173 (w32 (σ 143 4)) 0) 143 4)) ((-4))) 143 4)) 0) 143 4) + 1))))) else gd (0 ≤ w32 ((6 * (σ 143 4)) + x1) ∧ w32 ((6 * (σ 143 4)) + x1) < 54) (gX11_guest_L24 F n (x1 + 1) (up σ 148 (w32 ((6 * (σ 143 4)) + x1)) 0))) (w0 σ) 24 [(0, vr G 143), (1, vi x1)] []
    refine z_iload_n C 1 rfl 1 rfl dX11_guest_24 25 rfl ?_
    refine z_bipush C (by decide) dX11_guest_25 27 rfl ?_
    refine z_icmp_ge C dX11_guest_27 51 (by decide) 30 rfl rfl (w32_id (a := 6) (by decide)) (fun _ => ?_) (fun _ => ?_)
    · refine z_aload_n C 0 rfl 0 rfl dX11_guest_51 52 rfl ?_
      refine y_getR C fX11_98 one_11 lay_11_49 dX11_guest_52 55 rfl ?_
      refine z_aload_n C 0 rfl 0 rfl dX11_guest_55 56 rfl ?_
      refine y_getI C fX11_130 one_11 dX11_guest_56 59 rfl ?_
      refine z_iconst C dX11_guest_59 60 rfl ?_
      refine y_iast C lay_11_49.2 rfl dX11_guest_60 61 rfl rfl (fun _ => ?_)
      refine z_aload_n C 0 rfl 0 rfl dX11_guest_61 62 rfl ?_
      refine y_getR C fX11_101 one_11 lay_11_50 dX11_guest_62 65 rfl ?_
      refine z_aload_n C 0 rfl 0 rfl dX11_guest_65 66 rfl ?_
      refine y_getI C fX11_130 one_11 dX11_guest_66 69 rfl ?_
      refine z_bipush C (by decide) dX11_guest_69 71 rfl ?_
      refine y_iast C lay_11_50.2 rfl dX11_guest_71 72 rfl rfl (fun _ => ?_)
      refine z_aload_n C 0 rfl 0 rfl dX11_guest_72 73 rfl ?_
      refine y_getR C fX11_104 one_11 lay_11_51 dX11_guest_73 76 rfl ?_
      refine z_aload_n C 0 rfl 0 rfl dX11_guest_76 77 rfl ?_
      refine y_getI C fX11_130 one_11 dX11_guest_77 80 rfl ?_
      refine z_iconst C dX11_guest_80 81 rfl ?_
      refine y_iast C lay_11_51.2 rfl dX11_guest_81 82 rfl rfl (fun _ => ?_)
      refine z_aload_n C 0 rfl 0 rfl dX11_guest_82 83 rfl ?_
      refine z_dup C rfl dX11_guest_83 84 rfl ?_
      refine y_getI C fX11_130 one_11 dX11_guest_84 87 rfl ?_
      refine z_iconst C dX11_guest_87 88 rfl ?_
      refine z_iadd C dX11_guest_88 89 rfl ?_
      refine y_putI C fX11_130 one_11 ⟨rfl, rfl⟩ dX11_guest_89 92 rfl ?_
      refine z_aload_n C 0 rfl 0 rfl dX11_guest_92 93 rfl ?_
      refine y_getI C fX11_130 one_11 dX11_guest_93 96 rfl ?_
      refine z_iconst C dX11_guest_96 97 rfl ?_
      refine z_isub C dX11_guest_97 98 rfl ?_
      exact z_iret C R rfl rfl dX11_guest_98
    · refine z_aload_n C 0 rfl 0 rfl dX11_guest_30 31 rfl ?_
      refine y_getR C fX11_22 one_11 lay_11_6 dX11_guest_31 34 rfl ?_
      refine z_bipush C (by decide) dX11_guest_34 36 rfl ?_
      refine z_aload_n C 0 rfl 0 rfl dX11_guest_36 37 rfl ?_
      refine y_getI C fX11_130 one_11 dX11_guest_37 40 rfl ?_
      refine z_imul C dX11_guest_40 41 rfl ?_
      refine z_iload_n C 1 rfl 1 rfl dX11_guest_41 42 rfl ?_
      refine z_iadd C dX11_guest_42 43 rfl ?_
      refine z_iconst C dX11_guest_43 44 rfl ?_
      refine y_iast C lay_11_6.2 rfl dX11_guest_44 45 rfl rfl (fun _ => ?_)
      refine z_iinc (lv' := [(1, vi (x1 + 1)), (0, vr G 143)]) C (by decide) 1 rfl dX11_guest_45 48 rfl rfl ?_
      refine z_goto C dX11_guest_48 24 (by decide) ?_
      refine z_lv (lv' := [(0, vr G 143), (1, vi (x1 + 1))]) [1, 0] rfl ?_
      exact ih (x1 + 1) (up σ 148 (w32 ((6 * (σ 143 4)) + x1)) 0)
set_option maxRecDepth 100000 in
set_option maxHeartbeats 4000000 in
theorem tX11_guest (l : Launch) (G : GG) (F : Nat) (σ : St) : Ctr l G yX11_guest cX11_guest 2 (some .int) rmX11_guest [vr G 143] (w0 σ) vzIw wzW (gX11_guest F σ) := by
  refine ctr_of (by decide) (Nat.le_of_ble_eq_true rfl) mwX11_guest.1 (fun X hl hR C R hnm => ?_)
  subst hl
  refine z_lv (lv' := [(0, vr G 143)]) [0] rfl ?_
  show ZZ X G 2 (QM X G vzIw wzW (0, 0)) (0, 0) (if w32 (σ 143 4) ≠ 9 then gd (0 ≤ w32 (σ 143 4) ∧ w32 (σ 143 4) < 9) (gX11_guest_L24 F F 0 (up σ 147 (w32 (σ 143 4)) 1)) else some ((-3), σ)) (w0 σ) 0 [(0, vr G 143)] []
  refine z_aload_n C 0 rfl 0 rfl dX11_guest_0 1 rfl ?_
  refine y_getI C fX11_130 one_11 dX11_guest_1 4 rfl ?_
  refine z_bipush C (by decide) dX11_guest_4 6 rfl ?_
  refine z_icmp_ne C dX11_guest_6 12 (by decide) 9 rfl rfl (w32_id (a := 9) (by decide)) (fun _ => ?_) (fun _ => ?_)
  · refine z_aload_n C 0 rfl 0 rfl dX11_guest_12 13 rfl ?_
    refine y_getR C fX11_19 one_11 lay_11_5 dX11_guest_13 16 rfl ?_
    refine z_aload_n C 0 rfl 0 rfl dX11_guest_16 17 rfl ?_
    refine y_getI C fX11_130 one_11 dX11_guest_17 20 rfl ?_
    refine z_iconst C dX11_guest_20 21 rfl ?_
    refine y_iast C lay_11_5.2 rfl dX11_guest_21 22 rfl rfl (fun _ => ?_)
    refine z_iconst C dX11_guest_22 23 rfl ?_
    refine z_istore_n (lv' := [(1, vi 0), (0, vr G 143)]) C 1 rfl (by decide) dX11_guest_23 24 rfl rfl ?_
    refine z_lv (lv' := [(0, vr G 143), (1, vi 0)]) [1, 0] rfl ?_
    exact pX11_guest_L24 C R hR F F 0 (up σ 147 (w32 (σ 143 4)) 1)
  · refine z_bipush C (by decide) dX11_guest_9 11 rfl ?_
    exact z_iret C R rfl rfl dX11_guest_11
-- worth
def gX11_worth (σ : St) (x1 : Int) (x2 : Int) (x3 : Int) : Option (Int × St) := (gX11_isGuest σ x1).bind fun r1 => if w32 r1 = 0 then some ((-1), σ) else (gX11_isPost σ x2).bind fun r2 => if w32 r2 = 0 then some ((-1), σ) else (gX11_in σ (w32 x3) 0 99).bind fun r3 => if w32 r3 ≠ 0 then gd (0 ≤ w32 x1 ∧ w32 x1 < 9) (if w32 (σ 173 (w32 x1)) ≠ 1 then gd (0 ≤ w32 ((6 * x1) + x2) ∧ w32 ((6 * x1) + x2) < 54) (gd (0 ≤ w32 ((6 * x1) + x2) ∧ w32 ((6 * x1) + x2) < 54) (some (σ 148 (w32 ((6 * x1) + x2)), up σ 148 (w32 ((6 * x1) + x2)) x3))) else some ((-2), σ)) else some ((-1), σ)
def rmX11_worth : Room := { frames := 2, cells := 0, slots := 0, locals := 46 }
set_option maxRecDepth 100000 in
set_option maxHeartbeats 4000000 in
theorem tX11_worth (l : Launch) (G : GG) (σ : St) (x1 : Int) (x2 : Int) (x3 : Int) : Ctr l G yX11_worth cX11_worth 5 (some .int) rmX11_worth [vr G 143, vi x1, vi x2, vi x3] (w0 σ) vzIw wzW (gX11_worth σ x1 x2 x3) := by
  refine ctr_of (by decide) (Nat.le_of_ble_eq_true rfl) mwX11_worth.1 (fun X hl hR C R hnm => ?_)
  subst hl
  refine z_lv (lv' := [(0, vr G 143), (1, vi x1), (2, vi x2), (3, vi x3)]) [0, 1, 2, 3] rfl ?_
  show ZZ X G 5 (QM X G vzIw wzW (0, 0)) (0, 0) ((gX11_isGuest σ x1).bind fun r1 => if w32 r1 = 0 then some ((-1), σ) else (gX11_isPost σ x2).bind fun r2 => if w32 r2 = 0 then some ((-1), σ) else (gX11_in σ (w32 x3) 0 99).bind fun r3 => if w32 r3 ≠ 0 then gd (0 ≤ w32 x1 ∧ w32 x1 < 9) (if w32 (σ 173 (w32 x1)) ≠ 1 then gd (0 ≤ w32 ((6 * x1) + x2) ∧ w32 ((6 * x1) + x2) < 54) (gd (0 ≤ w32 ((6 * x1) + x2) ∧ w32 ((6 * x1) + x2) < 54) (some (σ 148 (w32 ((6 * x1) + x2)), up σ 148 (w32 ((6 * x1) + x2)) x3))) else some ((-2), σ)) else some ((-1), σ)) (w0 σ) 0 [(0, vr G 143), (1, vi x1), (2, vi x2), (3, vi x3)] []
  refine z_aload_n C 0 rfl 0 rfl dX11_worth_0 1 rfl ?_
  refine z_iload_n C 1 rfl 1 rfl dX11_worth_1 2 rfl ?_
  refine y_callVI C hR (tX11_isGuest (mL X) G σ x1) ⟨mwX11_isGuest, mvX11_isGuest, lkX11_146⟩ one_11 rfl rfl (Nat.le_of_ble_eq_true rfl) (by unfold rmOK; decide) dX11_worth_2 5 rfl (fun r1 _ => ?_)
  refine z_if_eq C dX11_worth_5 28 (by decide) 8 rfl rfl (fun _ => ?_) (fun _ => ?_)
  · refine z_iconst C dX11_worth_28 29 rfl ?_
    exact z_iret C R rfl rfl dX11_worth_29
  · refine z_aload_n C 0 rfl 0 rfl dX11_worth_8 9 rfl ?_
    refine z_iload_n C 2 rfl 2 rfl dX11_worth_9 10 rfl ?_
    refine y_callVI C hR (tX11_isPost (mL X) G σ x2) ⟨mwX11_isPost, mvX11_isPost, lkX11_150⟩ one_11 rfl rfl (Nat.le_of_ble_eq_true rfl) (by unfold rmOK; decide) dX11_worth_10 13 rfl (fun r2 _ => ?_)
    refine z_if_eq C dX11_worth_13 28 (by decide) 16 rfl rfl (fun _ => ?_) (fun _ => ?_)
    · refine z_iconst C dX11_worth_28 29 rfl ?_
      exact z_iret C R rfl rfl dX11_worth_29
    · refine z_iload_n C 3 rfl 3 rfl dX11_worth_16 17 rfl ?_
      refine z_i2l C dX11_worth_17 18 rfl ?_
      refine z_lconst (v := 0) C (by decide) dX11_worth_18 19 rfl ?_
      refine z_ldc2 (v := 99) C clX11_135 (by decide) dX11_worth_19 22 rfl ?_
      refine y_callSI C hR (tX11_in (mL X) G σ (w32 x3) 0 99) ⟨mwX11_in, msX11_in, lkX11_126⟩ rfl rfl (Nat.le_of_ble_eq_true rfl) (by unfold rmOK; decide) dX11_worth_22 25 rfl (fun r3 _ => ?_)
      refine z_if_ne C dX11_worth_25 30 (by decide) 28 rfl rfl (fun _ => ?_) (fun _ => ?_)
      · refine z_aload_n C 0 rfl 0 rfl dX11_worth_30 31 rfl ?_
        refine y_getR C fX11_98 one_11 lay_11_49 dX11_worth_31 34 rfl ?_
        refine z_iload_n C 1 rfl 1 rfl dX11_worth_34 35 rfl ?_
        refine y_iald C lay_11_49.2 rfl dX11_worth_35 36 rfl rfl (fun _ => ?_)
        refine z_iconst C dX11_worth_36 37 rfl ?_
        refine z_icmp_ne C dX11_worth_37 43 (by decide) 40 rfl rfl (w32_id (a := 1) (by decide)) (fun _ => ?_) (fun _ => ?_)
        · refine z_aload_n C 0 rfl 0 rfl dX11_worth_43 44 rfl ?_
          refine y_getR C fX11_22 one_11 lay_11_6 dX11_worth_44 47 rfl ?_
          refine z_bipush C (by decide) dX11_worth_47 49 rfl ?_
          refine z_iload_n C 1 rfl 1 rfl dX11_worth_49 50 rfl ?_
          refine z_imul C dX11_worth_50 51 rfl ?_
          refine z_iload_n C 2 rfl 2 rfl dX11_worth_51 52 rfl ?_
          refine z_iadd C dX11_worth_52 53 rfl ?_
          refine y_iald C lay_11_6.2 rfl dX11_worth_53 54 rfl rfl (fun _ => ?_)
          refine z_istore (lv' := [(4, vi (σ 148 (w32 ((6 * x1) + x2)))), (0, vr G 143), (1, vi x1), (2, vi x2), (3, vi x3)]) C (by decide) dX11_worth_54 56 rfl rfl ?_
          refine z_aload_n C 0 rfl 1 rfl dX11_worth_56 57 rfl ?_
          refine y_getR C fX11_22 one_11 lay_11_6 dX11_worth_57 60 rfl ?_
          refine z_bipush C (by decide) dX11_worth_60 62 rfl ?_
          refine z_iload_n C 1 rfl 2 rfl dX11_worth_62 63 rfl ?_
          refine z_imul C dX11_worth_63 64 rfl ?_
          refine z_iload_n C 2 rfl 3 rfl dX11_worth_64 65 rfl ?_
          refine z_iadd C dX11_worth_65 66 rfl ?_
          refine z_iload_n C 3 rfl 4 rfl dX11_worth_66 67 rfl ?_
          refine y_iast C lay_11_6.2 rfl dX11_worth_67 68 rfl rfl (fun _ => ?_)
          refine z_iload C 0 rfl dX11_worth_68 70 rfl ?_
          exact z_iret C R rfl rfl dX11_worth_70
        · refine z_bipush C (by decide) dX11_worth_40 42 rfl ?_
          exact z_iret C R rfl rfl dX11_worth_42
      · refine z_iconst C dX11_worth_28 29 rfl ?_
        exact z_iret C R rfl rfl dX11_worth_29
-- chance
def gX11_chance (σ : St) (x1 : Int) (x2 : Int) : Option (Int × St) := (gX11_isGuest σ x1).bind fun r1 => if w32 r1 = 0 then some ((-1), σ) else (gX11_in σ (w32 x2) 0 9).bind fun r2 => if w32 r2 ≠ 0 then gd (0 ≤ w32 x1 ∧ w32 x1 < 9) (gd (0 ≤ w32 x1 ∧ w32 x1 < 9) (some (σ 147 (w32 x1), up σ 147 (w32 x1) x2))) else some ((-1), σ)
def rmX11_chance : Room := { frames := 2, cells := 0, slots := 0, locals := 46 }
set_option maxRecDepth 100000 in
set_option maxHeartbeats 4000000 in
theorem tX11_chance (l : Launch) (G : GG) (σ : St) (x1 : Int) (x2 : Int) : Ctr l G yX11_chance cX11_chance 4 (some .int) rmX11_chance [vr G 143, vi x1, vi x2] (w0 σ) vzIw wzW (gX11_chance σ x1 x2) := by
  refine ctr_of (by decide) (Nat.le_of_ble_eq_true rfl) mwX11_chance.1 (fun X hl hR C R hnm => ?_)
  subst hl
  refine z_lv (lv' := [(0, vr G 143), (1, vi x1), (2, vi x2)]) [0, 1, 2] rfl ?_
  show ZZ X G 4 (QM X G vzIw wzW (0, 0)) (0, 0) ((gX11_isGuest σ x1).bind fun r1 => if w32 r1 = 0 then some ((-1), σ) else (gX11_in σ (w32 x2) 0 9).bind fun r2 => if w32 r2 ≠ 0 then gd (0 ≤ w32 x1 ∧ w32 x1 < 9) (gd (0 ≤ w32 x1 ∧ w32 x1 < 9) (some (σ 147 (w32 x1), up σ 147 (w32 x1) x2))) else some ((-1), σ)) (w0 σ) 0 [(0, vr G 143), (1, vi x1), (2, vi x2)] []
  refine z_aload_n C 0 rfl 0 rfl dX11_chance_0 1 rfl ?_
  refine z_iload_n C 1 rfl 1 rfl dX11_chance_1 2 rfl ?_
  refine y_callVI C hR (tX11_isGuest (mL X) G σ x1) ⟨mwX11_isGuest, mvX11_isGuest, lkX11_146⟩ one_11 rfl rfl (Nat.le_of_ble_eq_true rfl) (by unfold rmOK; decide) dX11_chance_2 5 rfl (fun r1 _ => ?_)
  refine z_if_eq C dX11_chance_5 20 (by decide) 8 rfl rfl (fun _ => ?_) (fun _ => ?_)
  · refine z_iconst C dX11_chance_20 21 rfl ?_
    exact z_iret C R rfl rfl dX11_chance_21
  · refine z_iload_n C 2 rfl 2 rfl dX11_chance_8 9 rfl ?_
    refine z_i2l C dX11_chance_9 10 rfl ?_
    refine z_lconst (v := 0) C (by decide) dX11_chance_10 11 rfl ?_
    refine z_ldc2 (v := 9) C clX11_153 (by decide) dX11_chance_11 14 rfl ?_
    refine y_callSI C hR (tX11_in (mL X) G σ (w32 x2) 0 9) ⟨mwX11_in, msX11_in, lkX11_126⟩ rfl rfl (Nat.le_of_ble_eq_true rfl) (by unfold rmOK; decide) dX11_chance_14 17 rfl (fun r2 _ => ?_)
    refine z_if_ne C dX11_chance_17 22 (by decide) 20 rfl rfl (fun _ => ?_) (fun _ => ?_)
    · refine z_aload_n C 0 rfl 0 rfl dX11_chance_22 23 rfl ?_
      refine y_getR C fX11_19 one_11 lay_11_5 dX11_chance_23 26 rfl ?_
      refine z_iload_n C 1 rfl 1 rfl dX11_chance_26 27 rfl ?_
      refine y_iald C lay_11_5.2 rfl dX11_chance_27 28 rfl rfl (fun _ => ?_)
      refine z_istore_n (lv' := [(3, vi (σ 147 (w32 x1))), (0, vr G 143), (1, vi x1), (2, vi x2)]) C 3 rfl (by decide) dX11_chance_28 29 rfl rfl ?_
      refine z_aload_n C 0 rfl 1 rfl dX11_chance_29 30 rfl ?_
      refine y_getR C fX11_19 one_11 lay_11_5 dX11_chance_30 33 rfl ?_
      refine z_iload_n C 1 rfl 2 rfl dX11_chance_33 34 rfl ?_
      refine z_iload_n C 2 rfl 3 rfl dX11_chance_34 35 rfl ?_
      refine y_iast C lay_11_5.2 rfl dX11_chance_35 36 rfl rfl (fun _ => ?_)
      refine z_iload_n C 3 rfl 0 rfl dX11_chance_36 37 rfl ?_
      exact z_iret C R rfl rfl dX11_chance_37
    · refine z_iconst C dX11_chance_20 21 rfl ?_
      exact z_iret C R rfl rfl dX11_chance_21
-- rank
def gX11_rank (F : Nat) (σ : St) (x1 : Int) (x2 : Int) : Option (Int × St) := (gX11_isPost σ x1).bind fun r1 => if w32 r1 = 0 then some ((-1), σ) else (gX11_in σ (w32 x2) 0 99).bind fun r2 => if w32 r2 ≠ 0 then (gX11_came F σ).bind fun r3 => if w32 r3 ≤ 0 then gd (0 ≤ w32 x1 ∧ w32 x1 < 6) (gd (0 ≤ w32 x1 ∧ w32 x1 < 6) (some (σ 145 (w32 x1), up σ 145 (w32 x1) x2))) else some ((-2), σ) else some ((-1), σ)
def rmX11_rank : Room := { frames := 2, cells := 0, slots := 0, locals := 46 }
set_option maxRecDepth 100000 in
set_option maxHeartbeats 4000000 in
theorem tX11_rank (l : Launch) (G : GG) (F : Nat) (σ : St) (x1 : Int) (x2 : Int) : Ctr l G yX11_rank cX11_rank 4 (some .int) rmX11_rank [vr G 143, vi x1, vi x2] (w0 σ) vzIw wzW (gX11_rank F σ x1 x2) := by
  refine ctr_of (by decide) (Nat.le_of_ble_eq_true rfl) mwX11_rank.1 (fun X hl hR C R hnm => ?_)
  subst hl
  refine z_lv (lv' := [(0, vr G 143), (1, vi x1), (2, vi x2)]) [0, 1, 2] rfl ?_
  show ZZ X G 4 (QM X G vzIw wzW (0, 0)) (0, 0) ((gX11_isPost σ x1).bind fun r1 => if w32 r1 = 0 then some ((-1), σ) else (gX11_in σ (w32 x2) 0 99).bind fun r2 => if w32 r2 ≠ 0 then (gX11_came F σ).bind fun r3 => if w32 r3 ≤ 0 then gd (0 ≤ w32 x1 ∧ w32 x1 < 6) (gd (0 ≤ w32 x1 ∧ w32 x1 < 6) (some (σ 145 (w32 x1), up σ 145 (w32 x1) x2))) else some ((-2), σ) else some ((-1), σ)) (w0 σ) 0 [(0, vr G 143), (1, vi x1), (2, vi x2)] []
  refine z_aload_n C 0 rfl 0 rfl dX11_rank_0 1 rfl ?_
  refine z_iload_n C 1 rfl 1 rfl dX11_rank_1 2 rfl ?_
  refine y_callVI C hR (tX11_isPost (mL X) G σ x1) ⟨mwX11_isPost, mvX11_isPost, lkX11_150⟩ one_11 rfl rfl (Nat.le_of_ble_eq_true rfl) (by unfold rmOK; decide) dX11_rank_2 5 rfl (fun r1 _ => ?_)
  refine z_if_eq C dX11_rank_5 20 (by decide) 8 rfl rfl (fun _ => ?_) (fun _ => ?_)
  · refine z_iconst C dX11_rank_20 21 rfl ?_
    exact z_iret C R rfl rfl dX11_rank_21
  · refine z_iload_n C 2 rfl 2 rfl dX11_rank_8 9 rfl ?_
    refine z_i2l C dX11_rank_9 10 rfl ?_
    refine z_lconst (v := 0) C (by decide) dX11_rank_10 11 rfl ?_
    refine z_ldc2 (v := 99) C clX11_135 (by decide) dX11_rank_11 14 rfl ?_
    refine y_callSI C hR (tX11_in (mL X) G σ (w32 x2) 0 99) ⟨mwX11_in, msX11_in, lkX11_126⟩ rfl rfl (Nat.le_of_ble_eq_true rfl) (by unfold rmOK; decide) dX11_rank_14 17 rfl (fun r2 _ => ?_)
    refine z_if_ne C dX11_rank_17 22 (by decide) 20 rfl rfl (fun _ => ?_) (fun _ => ?_)
    · refine z_aload_n C 0 rfl 0 rfl dX11_rank_22 23 rfl ?_
      refine y_callVI C hR (tX11_came (mL X) G F σ) ⟨mwX11_came, mvX11_came, lkX11_139⟩ one_11 rfl rfl (Nat.le_of_ble_eq_true rfl) (by unfold rmOK; decide) dX11_rank_23 26 rfl (fun r3 _ => ?_)
      refine z_if_le C dX11_rank_26 32 (by decide) 29 rfl rfl (fun _ => ?_) (fun _ => ?_)
      · refine z_aload_n C 0 rfl 0 rfl dX11_rank_32 33 rfl ?_
        refine y_getR C fX11_13 one_11 lay_11_2 dX11_rank_33 36 rfl ?_
        refine z_iload_n C 1 rfl 1 rfl dX11_rank_36 37 rfl ?_
        refine y_iald C lay_11_2.2 rfl dX11_rank_37 38 rfl rfl (fun _ => ?_)
        refine z_istore_n (lv' := [(3, vi (σ 145 (w32 x1))), (0, vr G 143), (1, vi x1), (2, vi x2)]) C 3 rfl (by decide) dX11_rank_38 39 rfl rfl ?_
        refine z_aload_n C 0 rfl 1 rfl dX11_rank_39 40 rfl ?_
        refine y_getR C fX11_13 one_11 lay_11_2 dX11_rank_40 43 rfl ?_
        refine z_iload_n C 1 rfl 2 rfl dX11_rank_43 44 rfl ?_
        refine z_iload_n C 2 rfl 3 rfl dX11_rank_44 45 rfl ?_
        refine y_iast C lay_11_2.2 rfl dX11_rank_45 46 rfl rfl (fun _ => ?_)
        refine z_iload_n C 3 rfl 0 rfl dX11_rank_46 47 rfl ?_
        exact z_iret C R rfl rfl dX11_rank_47
      · refine z_bipush C (by decide) dX11_rank_29 31 rfl ?_
        exact z_iret C R rfl rfl dX11_rank_31
    · refine z_iconst C dX11_rank_20 21 rfl ?_
      exact z_iret C R rfl rfl dX11_rank_21
-- linksOf
def gX11_linksOf_L32 (F : Nat) (σ : St) (x1 : Int) (c4 : Int → Int → Option (Int)) (x3 : Int) (s0 : Int) (s1 : Int) : Option (Int) := c4 (s0 + s1) (x3 + 1)
def gX11_linksOf_L4 (F : Nat) (σ : St) (x1 : Int) : Nat → Int → Int → Option (Int)
  | 0, _, _ => none
  | n + 1, x2, x3 => if w32 x3 ≥ w32 (σ 143 4) then some x2 else gd (0 ≤ w32 ((6 * x3) + x1) ∧ w32 ((6 * x3) + x1) < 54) (if w32 (σ 148 (w32 ((6 * x3) + x1))) ≤ 0 then gX11_linksOf_L32 F σ x1 (gX11_linksOf_L4 F σ x1 n) x3 x2 0 else gX11_linksOf_L32 F σ x1 (gX11_linksOf_L4 F σ x1 n) x3 x2 1)
def gX11_linksOf (F : Nat) (σ : St) (x1 : Int) : Option (Int) := gX11_linksOf_L4 F σ x1 F 0 0
def rmX11_linksOf : Room := { frames := 0, cells := 0, slots := 0, locals := 0 }
set_option maxRecDepth 100000 in
set_option maxHeartbeats 4000000 in
theorem pX11_linksOf_L32 {X : MX} {G : GG} (C : CX X G 4 cX11_linksOf RX11) (R : RT X (some .int)) (hR : mR X = rmX11_linksOf) (F : Nat) (σ : St) (x1 : Int) (c4 : Int → Int → Option (Int)) (hc4 : ∀ (x2 : Int) (x3 : Int), ZZ X G 4 (QM X G vzI (wzR σ) (0, 0)) (0, 0) (c4 x2 x3) (w0 σ) 4 [(0, vr G 143), (1, vi x1), (2, vi x2), (3, vi x3)] []) : ∀ (x3 : Int) (s0 : Int) (s1 : Int), ZZ X G 4 (QM X G vzI (wzR σ) (0, 0)) (0, 0) (gX11_linksOf_L32 F σ x1 c4 x3 s0 s1) (w0 σ) 32 [(0, vr G 143), (1, vi x1), (3, vi x3)] [vi s1, vi s0] := by
  intro x3 s0 s1
  show ZZ X G 4 (QM X G vzI (wzR σ) (0, 0)) (0, 0) (c4 (s0 + s1) (x3 + 1)) (w0 σ) 32 [(0, vr G 143), (1, vi x1), (3, vi x3)] [vi s1, vi s0]
  refine z_iadd C dX11_linksOf_32 33 rfl ?_
  refine z_istore_n (lv' := [(2, vi (s0 + s1)), (0, vr G 143), (1, vi x1), (3, vi x3)]) C 2 rfl (by decide) dX11_linksOf_33 34 rfl rfl ?_
  refine z_iinc (lv' := [(3, vi (x3 + 1)), (2, vi (s0 + s1)), (0, vr G 143), (1, vi x1)]) C (by decide) 3 rfl dX11_linksOf_34 37 rfl rfl ?_
  refine z_goto C dX11_linksOf_37 4 (by decide) ?_
  refine z_lv (lv' := [(0, vr G 143), (1, vi x1), (2, vi (s0 + s1)), (3, vi (x3 + 1))]) [2, 3, 1, 0] rfl ?_
  exact hc4 (s0 + s1) (x3 + 1)
set_option maxRecDepth 100000 in
set_option maxHeartbeats 4000000 in
theorem pX11_linksOf_L4 {X : MX} {G : GG} (C : CX X G 4 cX11_linksOf RX11) (R : RT X (some .int)) (hR : mR X = rmX11_linksOf) (F : Nat) (σ : St) (x1 : Int)  : ∀ (n : Nat) (x2 : Int) (x3 : Int), ZZ X G 4 (QM X G vzI (wzR σ) (0, 0)) (0, 0) (gX11_linksOf_L4 F σ x1 n x2 x3) (w0 σ) 4 [(0, vr G 143), (1, vi x1), (2, vi x2), (3, vi x3)] [] := by
  intro n
  induction n with
  | zero =>
    intro _ _
    exact z_none
  | succ n ih =>
    intro x2 x3
    show ZZ X G 4 (QM X G vzI (wzR σ) (0, 0)) (0, 0) (if w32 x3 ≥ w32 (σ 143 4) then some x2 else gd (0 ≤ w32 ((6 * x3) + x1) ∧ w32 ((6 * x3) + x1) < 54) (if w32 (σ 148 (w32 ((6 * x3) + x1))) ≤ 0 then gX11_linksOf_L32 F σ x1 (gX11_linksOf_L4 F σ x1 n) x3 x2 0 else gX11_linksOf_L32 F σ x1 (gX11_linksOf_L4 F σ x1 n) x3 x2 1)) (w0 σ) 4 [(0, vr G 143), (1, vi x1), (2, vi x2), (3, vi x3)] []
    refine z_iload_n C 3 rfl 3 rfl dX11_linksOf_4 5 rfl ?_
    refine z_aload_n C 0 rfl 0 rfl dX11_linksOf_5 6 rfl ?_
    refine y_getI C fX11_130 one_11 dX11_linksOf_6 9 rfl ?_
    refine z_icmp_ge C dX11_linksOf_9 40 (by decide) 12 rfl rfl rfl (fun _ => ?_) (fun _ => ?_)
    · refine z_iload_n C 2 rfl 2 rfl dX11_linksOf_40 41 rfl ?_
      exact z_iret C R rfl rfl dX11_linksOf_41
    · refine z_iload_n C 2 rfl 2 rfl dX11_linksOf_12 13 rfl ?_
      refine z_aload_n C 0 rfl 0 rfl dX11_linksOf_13 14 rfl ?_
      refine y_getR C fX11_22 one_11 lay_11_6 dX11_linksOf_14 17 rfl ?_
      refine z_bipush C (by decide) dX11_linksOf_17 19 rfl ?_
      refine z_iload_n C 3 rfl 3 rfl dX11_linksOf_19 20 rfl ?_
      refine z_imul C dX11_linksOf_20 21 rfl ?_
      refine z_iload_n C 1 rfl 1 rfl dX11_linksOf_21 22 rfl ?_
      refine z_iadd C dX11_linksOf_22 23 rfl ?_
      refine y_iald C lay_11_6.2 rfl dX11_linksOf_23 24 rfl rfl (fun _ => ?_)
      refine z_if_le C dX11_linksOf_24 31 (by decide) 27 rfl rfl (fun _ => ?_) (fun _ => ?_)
      · refine z_iconst C dX11_linksOf_31 32 rfl ?_
        refine z_lv (lv' := [(0, vr G 143), (1, vi x1), (3, vi x3)]) [0, 1, 3] rfl ?_
        exact pX11_linksOf_L32 C R hR F σ x1 (gX11_linksOf_L4 F σ x1 n) ih x3 x2 0
      · refine z_iconst C dX11_linksOf_27 28 rfl ?_
        refine z_goto C dX11_linksOf_28 32 (by decide) ?_
        refine z_lv (lv' := [(0, vr G 143), (1, vi x1), (3, vi x3)]) [0, 1, 3] rfl ?_
        exact pX11_linksOf_L32 C R hR F σ x1 (gX11_linksOf_L4 F σ x1 n) ih x3 x2 1
set_option maxRecDepth 100000 in
set_option maxHeartbeats 4000000 in
theorem tX11_linksOf (l : Launch) (G : GG) (F : Nat) (σ : St) (x1 : Int) : Ctr l G yX11_linksOf cX11_linksOf 4 (some .int) rmX11_linksOf [vr G 143, vi x1] (w0 σ) vzI (wzR σ) (gX11_linksOf F σ x1) := by
  refine ctr_of (by decide) (Nat.le_of_ble_eq_true rfl) mwX11_linksOf.1 (fun X hl hR C R hnm => ?_)
  subst hl
  refine z_lv (lv' := [(0, vr G 143), (1, vi x1)]) [0, 1] rfl ?_
  show ZZ X G 4 (QM X G vzI (wzR σ) (0, 0)) (0, 0) (gX11_linksOf_L4 F σ x1 F 0 0) (w0 σ) 0 [(0, vr G 143), (1, vi x1)] []
  refine z_iconst C dX11_linksOf_0 1 rfl ?_
  refine z_istore_n (lv' := [(2, vi 0), (0, vr G 143), (1, vi x1)]) C 2 rfl (by decide) dX11_linksOf_1 2 rfl rfl ?_
  refine z_iconst C dX11_linksOf_2 3 rfl ?_
  refine z_istore_n (lv' := [(3, vi 0), (2, vi 0), (0, vr G 143), (1, vi x1)]) C 3 rfl (by decide) dX11_linksOf_3 4 rfl rfl ?_
  refine z_lv (lv' := [(0, vr G 143), (1, vi x1), (2, vi 0), (3, vi 0)]) [2, 3, 1, 0] rfl ?_
  exact pX11_linksOf_L4 C R hR F σ x1 F 0 0
-- told
def gX11_told_L79 (F : Nat) (σ : St) (x1 : Int) (x2 : Int) (c30 : Int → Int → Int → Option (Int)) (x3 : Int) (x5 : Int) (s0 : Int) (s1 : Int) : Option (Int) := c30 x3 (s0 + s1) (x5 + 1)
def gX11_told_L59 (F : Nat) (σ : St) (x1 : Int) (x2 : Int) (c30 : Int → Int → Int → Option (Int)) (x4 : Int) (x5 : Int) (s0 : Int) (s1 : Int) : Option (Int) := gd (0 ≤ w32 x5 ∧ w32 x5 < 9) (if w32 (σ 174 (w32 x5)) ≠ w32 x1 then gX11_told_L79 F σ x1 x2 c30 (ior s0 s1) x5 x4 0 else gX11_told_L79 F σ x1 x2 c30 (ior s0 s1) x5 x4 1)
def gX11_told_L30 (F : Nat) (σ : St) (x1 : Int) (x2 : Int) : Nat → Int → Int → Int → Option (Int)
  | 0, _, _, _ => none
  | n + 1, x3, x4, x5 => if w32 x5 ≥ w32 (σ 143 4) then if w32 x2 = 0 then gd (0 ≤ w32 x1 ∧ w32 x1 < 6) (some (σ 144 (w32 x1))) else if w32 x2 = 1 then gd (0 ≤ w32 x1 ∧ w32 x1 < 6) (some (σ 145 (w32 x1))) else if w32 x2 = 2 then gd (0 ≤ w32 x1 ∧ w32 x1 < 6) (some (σ 146 (w32 x1))) else if w32 x2 = 3 then gd (0 ≤ w32 x1 ∧ w32 x1 < 6) (some ((σ 144 (w32 x1)) - x4)) else if w32 x2 = 4 then gd (0 ≤ w32 x1 ∧ w32 x1 < 6) (some (σ 176 (w32 x1))) else if w32 x2 = 5 then some x3 else (gX11_linksOf F σ x1).bind fun r1 => some r1 else gd (0 ≤ w32 x5 ∧ w32 x5 < 9) (if w32 (σ 174 (w32 x5)) ≠ w32 x1 then gX11_told_L59 F σ x1 x2 (gX11_told_L30 F σ x1 x2 n) x4 x5 x3 0 else gX11_told_L59 F σ x1 x2 (gX11_told_L30 F σ x1 x2 n) x4 x5 x3 (ishl 1 x5))
def gX11_told (F : Nat) (σ : St) (x1 : Int) (x2 : Int) : Option (Int) := (gX11_isPost σ x1).bind fun r1 => if w32 r1 = 0 then some ((-1)) else (gX11_in σ (w32 x2) 0 6).bind fun r2 => if w32 r2 ≠ 0 then gX11_told_L30 F σ x1 x2 F 0 0 0 else some ((-1))
def rmX11_told : Room := { frames := 2, cells := 0, slots := 0, locals := 46 }
set_option maxRecDepth 100000 in
set_option maxHeartbeats 4000000 in
theorem pX11_told_L79 {X : MX} {G : GG} (C : CX X G 6 cX11_told RX11) (R : RT X (some .int)) (hR : mR X = rmX11_told) (F : Nat) (σ : St) (x1 : Int) (x2 : Int) (c30 : Int → Int → Int → Option (Int)) (hc30 : ∀ (x3 : Int) (x4 : Int) (x5 : Int), ZZ X G 6 (QM X G vzI (wzR σ) (0, 0)) (0, 0) (c30 x3 x4 x5) (w0 σ) 30 [(0, vr G 143), (1, vi x1), (2, vi x2), (3, vi x3), (4, vi x4), (5, vi x5)] []) : ∀ (x3 : Int) (x5 : Int) (s0 : Int) (s1 : Int), ZZ X G 6 (QM X G vzI (wzR σ) (0, 0)) (0, 0) (gX11_told_L79 F σ x1 x2 c30 x3 x5 s0 s1) (w0 σ) 79 [(0, vr G 143), (1, vi x1), (2, vi x2), (3, vi x3), (5, vi x5)] [vi s1, vi s0] := by
  intro x3 x5 s0 s1
  show ZZ X G 6 (QM X G vzI (wzR σ) (0, 0)) (0, 0) (c30 x3 (s0 + s1) (x5 + 1)) (w0 σ) 79 [(0, vr G 143), (1, vi x1), (2, vi x2), (3, vi x3), (5, vi x5)] [vi s1, vi s0]
  refine z_iadd C dX11_told_79 80 rfl ?_
  refine z_istore (lv' := [(4, vi (s0 + s1)), (0, vr G 143), (1, vi x1), (2, vi x2), (3, vi x3), (5, vi x5)]) C (by decide) dX11_told_80 82 rfl rfl ?_
  refine z_iinc (lv' := [(5, vi (x5 + 1)), (4, vi (s0 + s1)), (0, vr G 143), (1, vi x1), (2, vi x2), (3, vi x3)]) C (by decide) 5 rfl dX11_told_82 85 rfl rfl ?_
  refine z_goto C dX11_told_85 30 (by decide) ?_
  refine z_lv (lv' := [(0, vr G 143), (1, vi x1), (2, vi x2), (3, vi x3), (4, vi (s0 + s1)), (5, vi (x5 + 1))]) [2, 3, 4, 5, 1, 0] rfl ?_
  exact hc30 x3 (s0 + s1) (x5 + 1)
set_option maxRecDepth 100000 in
set_option maxHeartbeats 4000000 in
theorem pX11_told_L59 {X : MX} {G : GG} (C : CX X G 6 cX11_told RX11) (R : RT X (some .int)) (hR : mR X = rmX11_told) (F : Nat) (σ : St) (x1 : Int) (x2 : Int) (c30 : Int → Int → Int → Option (Int)) (hc30 : ∀ (x3 : Int) (x4 : Int) (x5 : Int), ZZ X G 6 (QM X G vzI (wzR σ) (0, 0)) (0, 0) (c30 x3 x4 x5) (w0 σ) 30 [(0, vr G 143), (1, vi x1), (2, vi x2), (3, vi x3), (4, vi x4), (5, vi x5)] []) : ∀ (x4 : Int) (x5 : Int) (s0 : Int) (s1 : Int), ZZ X G 6 (QM X G vzI (wzR σ) (0, 0)) (0, 0) (gX11_told_L59 F σ x1 x2 c30 x4 x5 s0 s1) (w0 σ) 59 [(0, vr G 143), (1, vi x1), (2, vi x2), (4, vi x4), (5, vi x5)] [vi s1, vi s0] := by
  intro x4 x5 s0 s1
  show ZZ X G 6 (QM X G vzI (wzR σ) (0, 0)) (0, 0) (gd (0 ≤ w32 x5 ∧ w32 x5 < 9) (if w32 (σ 174 (w32 x5)) ≠ w32 x1 then gX11_told_L79 F σ x1 x2 c30 (ior s0 s1) x5 x4 0 else gX11_told_L79 F σ x1 x2 c30 (ior s0 s1) x5 x4 1)) (w0 σ) 59 [(0, vr G 143), (1, vi x1), (2, vi x2), (4, vi x4), (5, vi x5)] [vi s1, vi s0]
  refine z_ior C dX11_told_59 60 rfl ?_
  refine z_istore_n (lv' := [(3, vi (ior s0 s1)), (0, vr G 143), (1, vi x1), (2, vi x2), (4, vi x4), (5, vi x5)]) C 3 rfl (by decide) dX11_told_60 61 rfl rfl ?_
  refine z_iload C 4 rfl dX11_told_61 63 rfl ?_
  refine z_aload_n C 0 rfl 1 rfl dX11_told_63 64 rfl ?_
  refine y_getR C fX11_101 one_11 lay_11_50 dX11_told_64 67 rfl ?_
  refine z_iload C 5 rfl dX11_told_67 69 rfl ?_
  refine y_iald C lay_11_50.2 rfl dX11_told_69 70 rfl rfl (fun _ => ?_)
  refine z_iload_n C 1 rfl 2 rfl dX11_told_70 71 rfl ?_
  refine z_icmp_ne C dX11_told_71 78 (by decide) 74 rfl rfl rfl (fun _ => ?_) (fun _ => ?_)
  · refine z_iconst C dX11_told_78 79 rfl ?_
    refine z_lv (lv' := [(0, vr G 143), (1, vi x1), (2, vi x2), (3, vi (ior s0 s1)), (5, vi x5)]) [1, 2, 3, 0, 5] rfl ?_
    exact pX11_told_L79 C R hR F σ x1 x2 c30 hc30 (ior s0 s1) x5 x4 0
  · refine z_iconst C dX11_told_74 75 rfl ?_
    refine z_goto C dX11_told_75 79 (by decide) ?_
    refine z_lv (lv' := [(0, vr G 143), (1, vi x1), (2, vi x2), (3, vi (ior s0 s1)), (5, vi x5)]) [1, 2, 3, 0, 5] rfl ?_
    exact pX11_told_L79 C R hR F σ x1 x2 c30 hc30 (ior s0 s1) x5 x4 1
set_option maxRecDepth 100000 in
set_option maxHeartbeats 4000000 in
theorem pX11_told_L30 {X : MX} {G : GG} (C : CX X G 6 cX11_told RX11) (R : RT X (some .int)) (hR : mR X = rmX11_told) (F : Nat) (σ : St) (x1 : Int) (x2 : Int)  : ∀ (n : Nat) (x3 : Int) (x4 : Int) (x5 : Int), ZZ X G 6 (QM X G vzI (wzR σ) (0, 0)) (0, 0) (gX11_told_L30 F σ x1 x2 n x3 x4 x5) (w0 σ) 30 [(0, vr G 143), (1, vi x1), (2, vi x2), (3, vi x3), (4, vi x4), (5, vi x5)] [] := by
  intro n
  induction n with
  | zero =>
    intro _ _ _
    exact z_none
  | succ n ih =>
    intro x3 x4 x5
    show ZZ X G 6 (QM X G vzI (wzR σ) (0, 0)) (0, 0) (if w32 x5 ≥ w32 (σ 143 4) then if w32 x2 = 0 then gd (0 ≤ w32 x1 ∧ w32 x1 < 6) (some (σ 144 (w32 x1))) else if w32 x2 = 1 then gd (0 ≤ w32 x1 ∧ w32 x1 < 6) (some (σ 145 (w32 x1))) else if w32 x2 = 2 then gd (0 ≤ w32 x1 ∧ w32 x1 < 6) (some (σ 146 (w32 x1))) else if w32 x2 = 3 then gd (0 ≤ w32 x1 ∧ w32 x1 < 6) (some ((σ 144 (w32 x1)) - x4)) else if w32 x2 = 4 then gd (0 ≤ w32 x1 ∧ w32 x1 < 6) (some (σ 176 (w32 x1))) else if w32 x2 = 5 then some x3 else (gX11_linksOf F σ x1).bind fun r1 => some r1 else gd (0 ≤ w32 x5 ∧ w32 x5 < 9) (if w32 (σ 174 (w32 x5)) ≠ w32 x1 then gX11_told_L59 F σ x1 x2 (gX11_told_L30 F σ x1 x2 n) x4 x5 x3 0 else gX11_told_L59 F σ x1 x2 (gX11_told_L30 F σ x1 x2 n) x4 x5 x3 (ishl 1 x5))) (w0 σ) 30 [(0, vr G 143), (1, vi x1), (2, vi x2), (3, vi x3), (4, vi x4), (5, vi x5)] []
    refine z_iload C 5 rfl dX11_told_30 32 rfl ?_
    refine z_aload_n C 0 rfl 0 rfl dX11_told_32 33 rfl ?_
    refine y_getI C fX11_130 one_11 dX11_told_33 36 rfl ?_
    refine z_icmp_ge C dX11_told_36 88 (by decide) 39 rfl rfl rfl (fun _ => ?_) (fun _ => ?_)
    · refine z_iload_n C 2 rfl 2 rfl dX11_told_88 89 rfl ?_
      refine z_ite (fun hq0 => ?_) (fun hn0 => ?_)
      · refine z_tin C dX11_told_89 (v := 0) (hq0) (by decide) rfl 128 (by decide) ?_
        refine z_aload_n C 0 rfl 0 rfl dX11_told_128 129 rfl ?_
        refine y_getR C fX11_7 one_11 lay_11_1 dX11_told_129 132 rfl ?_
        refine z_iload_n C 1 rfl 1 rfl dX11_told_132 133 rfl ?_
        refine y_iald C lay_11_1.2 rfl dX11_told_133 134 rfl rfl (fun _ => ?_)
        exact z_iret C R rfl rfl dX11_told_134
      refine z_ite (fun hq1 => ?_) (fun hn1 => ?_)
      · refine z_tin C dX11_told_89 (v := 1) (hq1) (by decide) rfl 135 (by decide) ?_
        refine z_aload_n C 0 rfl 0 rfl dX11_told_135 136 rfl ?_
        refine y_getR C fX11_13 one_11 lay_11_2 dX11_told_136 139 rfl ?_
        refine z_iload_n C 1 rfl 1 rfl dX11_told_139 140 rfl ?_
        refine y_iald C lay_11_2.2 rfl dX11_told_140 141 rfl rfl (fun _ => ?_)
        exact z_iret C R rfl rfl dX11_told_141
      refine z_ite (fun hq2 => ?_) (fun hn2 => ?_)
      · refine z_tin C dX11_told_89 (v := 2) (hq2) (by decide) rfl 142 (by decide) ?_
        refine z_aload_n C 0 rfl 0 rfl dX11_told_142 143 rfl ?_
        refine y_getR C fX11_16 one_11 lay_11_3 dX11_told_143 146 rfl ?_
        refine z_iload_n C 1 rfl 1 rfl dX11_told_146 147 rfl ?_
        refine y_iald C lay_11_3.2 rfl dX11_told_147 148 rfl rfl (fun _ => ?_)
        exact z_iret C R rfl rfl dX11_told_148
      refine z_ite (fun hq3 => ?_) (fun hn3 => ?_)
      · refine z_tin C dX11_told_89 (v := 3) (hq3) (by decide) rfl 149 (by decide) ?_
        refine z_aload_n C 0 rfl 0 rfl dX11_told_149 150 rfl ?_
        refine y_getR C fX11_7 one_11 lay_11_1 dX11_told_150 153 rfl ?_
        refine z_iload_n C 1 rfl 1 rfl dX11_told_153 154 rfl ?_
        refine y_iald C lay_11_1.2 rfl dX11_told_154 155 rfl rfl (fun _ => ?_)
        refine z_iload C 4 rfl dX11_told_155 157 rfl ?_
        refine z_isub C dX11_told_157 158 rfl ?_
        exact z_iret C R rfl rfl dX11_told_158
      refine z_ite (fun hq4 => ?_) (fun hn4 => ?_)
      · refine z_tin C dX11_told_89 (v := 4) (hq4) (by decide) rfl 159 (by decide) ?_
        refine z_aload_n C 0 rfl 0 rfl dX11_told_159 160 rfl ?_
        refine y_getR C fX11_107 one_11 lay_11_52 dX11_told_160 163 rfl ?_
        refine z_iload_n C 1 rfl 1 rfl dX11_told_163 164 rfl ?_
        refine y_iald C lay_11_52.2 rfl dX11_told_164 165 rfl rfl (fun _ => ?_)
        exact z_iret C R rfl rfl dX11_told_165
      refine z_ite (fun hq5 => ?_) (fun hn5 => ?_)
      · refine z_tin C dX11_told_89 (v := 5) (hq5) (by decide) rfl 166 (by decide) ?_
        refine z_iload_n C 3 rfl 3 rfl dX11_told_166 167 rfl ?_
        exact z_iret C R rfl rfl dX11_told_167
      refine z_tout C dX11_told_89 (by omega) 168 (by decide) ?_
      refine z_aload_n C 0 rfl 0 rfl dX11_told_168 169 rfl ?_
      refine z_iload_n C 1 rfl 1 rfl dX11_told_169 170 rfl ?_
      refine y_callVI C hR (tX11_linksOf (mL X) G F σ x1) ⟨mwX11_linksOf, mvX11_linksOf, lkX11_157⟩ one_11 rfl rfl (Nat.le_of_ble_eq_true rfl) (by unfold rmOK; decide) dX11_told_170 173 rfl (fun r1 _ => ?_)
      exact z_iret C R rfl rfl dX11_told_173
    · refine z_iload_n C 3 rfl 3 rfl dX11_told_39 40 rfl ?_
      refine z_aload_n C 0 rfl 0 rfl dX11_told_40 41 rfl ?_
      refine y_getR C fX11_101 one_11 lay_11_50 dX11_told_41 44 rfl ?_
      refine z_iload C 5 rfl dX11_told_44 46 rfl ?_
      refine y_iald C lay_11_50.2 rfl dX11_told_46 47 rfl rfl (fun _ => ?_)
      refine z_iload_n C 1 rfl 1 rfl dX11_told_47 48 rfl ?_
      refine z_icmp_ne C dX11_told_48 58 (by decide) 51 rfl rfl rfl (fun _ => ?_) (fun _ => ?_)
      · refine z_iconst C dX11_told_58 59 rfl ?_
        refine z_lv (lv' := [(0, vr G 143), (1, vi x1), (2, vi x2), (4, vi x4), (5, vi x5)]) [0, 1, 2, 4, 5] rfl ?_
        exact pX11_told_L59 C R hR F σ x1 x2 (gX11_told_L30 F σ x1 x2 n) ih x4 x5 x3 0
      · refine z_iconst C dX11_told_51 52 rfl ?_
        refine z_iload C 5 rfl dX11_told_52 54 rfl ?_
        refine z_ishl C dX11_told_54 55 rfl ?_
        refine z_goto C dX11_told_55 59 (by decide) ?_
        refine z_lv (lv' := [(0, vr G 143), (1, vi x1), (2, vi x2), (4, vi x4), (5, vi x5)]) [0, 1, 2, 4, 5] rfl ?_
        exact pX11_told_L59 C R hR F σ x1 x2 (gX11_told_L30 F σ x1 x2 n) ih x4 x5 x3 (ishl 1 x5)
set_option maxRecDepth 100000 in
set_option maxHeartbeats 4000000 in
theorem tX11_told (l : Launch) (G : GG) (F : Nat) (σ : St) (x1 : Int) (x2 : Int) : Ctr l G yX11_told cX11_told 6 (some .int) rmX11_told [vr G 143, vi x1, vi x2] (w0 σ) vzI (wzR σ) (gX11_told F σ x1 x2) := by
  refine ctr_of (by decide) (Nat.le_of_ble_eq_true rfl) mwX11_told.1 (fun X hl hR C R hnm => ?_)
  subst hl
  refine z_lv (lv' := [(0, vr G 143), (1, vi x1), (2, vi x2)]) [0, 1, 2] rfl ?_
  show ZZ X G 6 (QM X G vzI (wzR σ) (0, 0)) (0, 0) ((gX11_isPost σ x1).bind fun r1 => if w32 r1 = 0 then some ((-1)) else (gX11_in σ (w32 x2) 0 6).bind fun r2 => if w32 r2 ≠ 0 then gX11_told_L30 F σ x1 x2 F 0 0 0 else some ((-1))) (w0 σ) 0 [(0, vr G 143), (1, vi x1), (2, vi x2)] []
  refine z_aload_n C 0 rfl 0 rfl dX11_told_0 1 rfl ?_
  refine z_iload_n C 1 rfl 1 rfl dX11_told_1 2 rfl ?_
  refine y_callVI C hR (tX11_isPost (mL X) G σ x1) ⟨mwX11_isPost, mvX11_isPost, lkX11_150⟩ one_11 rfl rfl (Nat.le_of_ble_eq_true rfl) (by unfold rmOK; decide) dX11_told_2 5 rfl (fun r1 _ => ?_)
  refine z_if_eq C dX11_told_5 20 (by decide) 8 rfl rfl (fun _ => ?_) (fun _ => ?_)
  · refine z_iconst C dX11_told_20 21 rfl ?_
    exact z_iret C R rfl rfl dX11_told_21
  · refine z_iload_n C 2 rfl 2 rfl dX11_told_8 9 rfl ?_
    refine z_i2l C dX11_told_9 10 rfl ?_
    refine z_lconst (v := 0) C (by decide) dX11_told_10 11 rfl ?_
    refine z_ldc2 (v := 6) C clX11_155 (by decide) dX11_told_11 14 rfl ?_
    refine y_callSI C hR (tX11_in (mL X) G σ (w32 x2) 0 6) ⟨mwX11_in, msX11_in, lkX11_126⟩ rfl rfl (Nat.le_of_ble_eq_true rfl) (by unfold rmOK; decide) dX11_told_14 17 rfl (fun r2 _ => ?_)
    refine z_if_ne C dX11_told_17 22 (by decide) 20 rfl rfl (fun _ => ?_) (fun _ => ?_)
    · refine z_iconst C dX11_told_22 23 rfl ?_
      refine z_istore_n (lv' := [(3, vi 0), (0, vr G 143), (1, vi x1), (2, vi x2)]) C 3 rfl (by decide) dX11_told_23 24 rfl rfl ?_
      refine z_iconst C dX11_told_24 25 rfl ?_
      refine z_istore (lv' := [(4, vi 0), (3, vi 0), (0, vr G 143), (1, vi x1), (2, vi x2)]) C (by decide) dX11_told_25 27 rfl rfl ?_
      refine z_iconst C dX11_told_27 28 rfl ?_
      refine z_istore (lv' := [(5, vi 0), (4, vi 0), (3, vi 0), (0, vr G 143), (1, vi x1), (2, vi x2)]) C (by decide) dX11_told_28 30 rfl rfl ?_
      refine z_lv (lv' := [(0, vr G 143), (1, vi x1), (2, vi x2), (3, vi 0), (4, vi 0), (5, vi 0)]) [3, 4, 5, 2, 1, 0] rfl ?_
      exact pX11_told_L30 C R hR F σ x1 x2 F 0 0 0
    · refine z_iconst C dX11_told_20 21 rfl ?_
      exact z_iret C R rfl rfl dX11_told_21
-- feed
def gX11_feed_L19 (F : Nat) (x1 : Int) : Nat → Int → St → Option (Int × St)
  | 0, _, _ => none
  | n + 1, x3, σ => if w32 x3 < 0 then some (σ 143 8, σ) else gd (0 ≤ w32 (σ 143 8) ∧ w32 (σ 143 8) < 160) (gX11_feed_L19 F x1 n (x3 + (-8)) (up (up σ 149 (w32 (σ 143 8)) (iand (l2i_ (lsr x1 x3)) 255)) 143 8 (((up σ 149 (w32 (σ 143 8)) (iand (l2i_ (lsr x1 x3)) 255)) 143 8) + 1)))
def gX11_feed (F : Nat) (σ : St) (x1 : Int) : Option (Int × St) := if w32 ((σ 143 8) + 8) ≤ 160 then gX11_feed_L19 F x1 F 56 σ else some ((-3), σ)
def rmX11_feed : Room := { frames := 0, cells := 0, slots := 0, locals := 0 }
set_option maxRecDepth 100000 in
set_option maxHeartbeats 4000000 in
theorem pX11_feed_L19 {X : MX} {G : GG} (C : CX X G 4 cX11_feed RX11) (R : RT X (some .int)) (hR : mR X = rmX11_feed) (F : Nat) (x1 : Int)  : ∀ (n : Nat) (x3 : Int) (σ : St), ZZ X G 4 (QM X G vzIw wzW (0, 0)) (0, 0) (gX11_feed_L19 F x1 n x3 σ) (w0 σ) 19 [(0, vr G 143), (1, vl x1), (3, vi x3)] [] := by
  intro n
  induction n with
  | zero =>
    intro _ _
    exact z_none
  | succ n ih =>
    intro x3 σ
    show ZZ X G 4 (QM X G vzIw wzW (0, 0)) (0, 0) (if w32 x3 < 0 then some (σ 143 8, σ) else gd (0 ≤ w32 (σ 143 8) ∧ w32 (σ 143 8) < 160) (gX11_feed_L19 F x1 n (x3 + (-8)) (up (up σ 149 (w32 (σ 143 8)) (iand (l2i_ (lsr x1 x3)) 255)) 143 8 (((up σ 149 (w32 (σ 143 8)) (iand (l2i_ (lsr x1 x3)) 255)) 143 8) + 1)))) (w0 σ) 19 [(0, vr G 143), (1, vl x1), (3, vi x3)] []
    refine z_iload_n C 3 rfl 2 rfl dX11_feed_19 20 rfl ?_
    refine z_if_lt C dX11_feed_20 56 (by decide) 23 rfl rfl (fun _ => ?_) (fun _ => ?_)
    · refine z_aload_n C 0 rfl 0 rfl dX11_feed_56 57 rfl ?_
      refine y_getI C fX11_161 one_11 dX11_feed_57 60 rfl ?_
      exact z_iret C R rfl rfl dX11_feed_60
    · refine z_aload_n C 0 rfl 0 rfl dX11_feed_23 24 rfl ?_
      refine y_getR C fX11_25 one_11 lay_11_7 dX11_feed_24 27 rfl ?_
      refine z_aload_n C 0 rfl 0 rfl dX11_feed_27 28 rfl ?_
      refine y_getI C fX11_161 one_11 dX11_feed_28 31 rfl ?_
      refine z_lload_n C 1 rfl 1 rfl dX11_feed_31 32 rfl ?_
      refine z_iload_n C 3 rfl 2 rfl dX11_feed_32 33 rfl ?_
      refine z_lshr C dX11_feed_33 34 rfl ?_
      refine z_l2i C dX11_feed_34 35 rfl ?_
      refine z_sipush C (by decide) dX11_feed_35 38 rfl ?_
      refine z_iand C dX11_feed_38 39 rfl ?_
      refine y_iast C lay_11_7.2 rfl dX11_feed_39 40 rfl rfl (fun _ => ?_)
      refine z_aload_n C 0 rfl 0 rfl dX11_feed_40 41 rfl ?_
      refine z_dup C rfl dX11_feed_41 42 rfl ?_
      refine y_getI C fX11_161 one_11 dX11_feed_42 45 rfl ?_
      refine z_iconst C dX11_feed_45 46 rfl ?_
      refine z_iadd C dX11_feed_46 47 rfl ?_
      refine y_putI C fX11_161 one_11 ⟨rfl, rfl⟩ dX11_feed_47 50 rfl ?_
      refine z_iinc (lv' := [(3, vi (x3 + (-8))), (0, vr G 143), (1, vl x1)]) C (by decide) 2 rfl dX11_feed_50 53 rfl rfl ?_
      refine z_goto C dX11_feed_53 19 (by decide) ?_
      refine z_lv (lv' := [(0, vr G 143), (1, vl x1), (3, vi (x3 + (-8)))]) [1, 2, 0] rfl ?_
      exact ih (x3 + (-8)) (up (up σ 149 (w32 (σ 143 8)) (iand (l2i_ (lsr x1 x3)) 255)) 143 8 (((up σ 149 (w32 (σ 143 8)) (iand (l2i_ (lsr x1 x3)) 255)) 143 8) + 1))
set_option maxRecDepth 100000 in
set_option maxHeartbeats 4000000 in
theorem tX11_feed (l : Launch) (G : GG) (F : Nat) (σ : St) (x1 : Int) : Ctr l G yX11_feed cX11_feed 4 (some .int) rmX11_feed [vr G 143, vl x1] (w0 σ) vzIw wzW (gX11_feed F σ x1) := by
  refine ctr_of (by decide) (Nat.le_of_ble_eq_true rfl) mwX11_feed.1 (fun X hl hR C R hnm => ?_)
  subst hl
  refine z_lv (lv' := [(0, vr G 143), (1, vl x1)]) [0, 1] rfl ?_
  show ZZ X G 4 (QM X G vzIw wzW (0, 0)) (0, 0) (if w32 ((σ 143 8) + 8) ≤ 160 then gX11_feed_L19 F x1 F 56 σ else some ((-3), σ)) (w0 σ) 0 [(0, vr G 143), (1, vl x1)] []
  refine z_aload_n C 0 rfl 0 rfl dX11_feed_0 1 rfl ?_
  refine y_getI C fX11_161 one_11 dX11_feed_1 4 rfl ?_
  refine z_bipush C (by decide) dX11_feed_4 6 rfl ?_
  refine z_iadd C dX11_feed_6 7 rfl ?_
  refine z_sipush C (by decide) dX11_feed_7 10 rfl ?_
  refine z_icmp_le C dX11_feed_10 16 (by decide) 13 rfl rfl (w32_id (a := 160) (by decide)) (fun _ => ?_) (fun _ => ?_)
  · refine z_bipush C (by decide) dX11_feed_16 18 rfl ?_
    refine z_istore_n (lv' := [(3, vi 56), (0, vr G 143), (1, vl x1)]) C 3 rfl (by decide) dX11_feed_18 19 rfl rfl ?_
    refine z_lv (lv' := [(0, vr G 143), (1, vl x1), (3, vi 56)]) [1, 2, 0] rfl ?_
    exact pX11_feed_L19 C R hR F x1 F 56 σ
  · refine z_bipush C (by decide) dX11_feed_13 15 rfl ?_
    exact z_iret C R rfl rfl dX11_feed_15
-- end
def gX11_end (σ : St) (x1 : Int) : Option (Int × St) := (gX11_in σ (w32 x1) 0 (w32 (σ 143 8))).bind fun r1 => if w32 r1 ≠ 0 then some (σ 143 8, up σ 143 8 x1) else some ((-1), σ)
def rmX11_end : Room := { frames := 1, cells := 0, slots := 0, locals := 25 }
set_option maxRecDepth 100000 in
set_option maxHeartbeats 4000000 in
theorem tX11_end (l : Launch) (G : GG) (σ : St) (x1 : Int) : Ctr l G yX11_end cX11_end 3 (some .int) rmX11_end [vr G 143, vi x1] (w0 σ) vzIw wzW (gX11_end σ x1) := by
  refine ctr_of (by decide) (Nat.le_of_ble_eq_true rfl) mwX11_end.1 (fun X hl hR C R hnm => ?_)
  subst hl
  refine z_lv (lv' := [(0, vr G 143), (1, vi x1)]) [0, 1] rfl ?_
  show ZZ X G 3 (QM X G vzIw wzW (0, 0)) (0, 0) ((gX11_in σ (w32 x1) 0 (w32 (σ 143 8))).bind fun r1 => if w32 r1 ≠ 0 then some (σ 143 8, up σ 143 8 x1) else some ((-1), σ)) (w0 σ) 0 [(0, vr G 143), (1, vi x1)] []
  refine z_iload_n C 1 rfl 1 rfl dX11_end_0 1 rfl ?_
  refine z_i2l C dX11_end_1 2 rfl ?_
  refine z_lconst (v := 0) C (by decide) dX11_end_2 3 rfl ?_
  refine z_aload_n C 0 rfl 0 rfl dX11_end_3 4 rfl ?_
  refine y_getI C fX11_161 one_11 dX11_end_4 7 rfl ?_
  refine z_i2l C dX11_end_7 8 rfl ?_
  refine y_callSI C hR (tX11_in (mL X) G σ (w32 x1) 0 (w32 (σ 143 8))) ⟨mwX11_in, msX11_in, lkX11_126⟩ rfl rfl (Nat.le_of_ble_eq_true rfl) (by unfold rmOK; decide) dX11_end_8 11 rfl (fun r1 _ => ?_)
  refine z_if_ne C dX11_end_11 16 (by decide) 14 rfl rfl (fun _ => ?_) (fun _ => ?_)
  · refine z_aload_n C 0 rfl 0 rfl dX11_end_16 17 rfl ?_
    refine y_getI C fX11_161 one_11 dX11_end_17 20 rfl ?_
    refine z_istore_n (lv' := [(2, vi (σ 143 8)), (0, vr G 143), (1, vi x1)]) C 2 rfl (by decide) dX11_end_20 21 rfl rfl ?_
    refine z_aload_n C 0 rfl 1 rfl dX11_end_21 22 rfl ?_
    refine z_iload_n C 1 rfl 2 rfl dX11_end_22 23 rfl ?_
    refine y_putI C fX11_161 one_11 ⟨rfl, rfl⟩ dX11_end_23 26 rfl ?_
    refine z_iload_n C 2 rfl 0 rfl dX11_end_26 27 rfl ?_
    exact z_iret C R rfl rfl dX11_end_27
  · refine z_iconst C dX11_end_14 15 rfl ?_
    exact z_iret C R rfl rfl dX11_end_15
-- byteAt
def gX11_byteAt (σ : St) (x1 : Int) : Option (Int) := if w32 x1 ≥ w32 (σ 143 8) then some ((-4)) else gd (0 ≤ w32 x1 ∧ w32 x1 < 160) (some (σ 149 (w32 x1)))
def rmX11_byteAt : Room := { frames := 0, cells := 0, slots := 0, locals := 0 }
set_option maxRecDepth 100000 in
set_option maxHeartbeats 4000000 in
theorem tX11_byteAt (l : Launch) (G : GG) (σ : St) (x1 : Int) : Ctr l G yX11_byteAt cX11_byteAt 2 (some .int) rmX11_byteAt [vr G 143, vi x1] (w0 σ) vzI (wzR σ) (gX11_byteAt σ x1) := by
  refine ctr_of (by decide) (Nat.le_of_ble_eq_true rfl) mwX11_byteAt.1 (fun X hl hR C R hnm => ?_)
  subst hl
  refine z_lv (lv' := [(0, vr G 143), (1, vi x1)]) [0, 1] rfl ?_
  show ZZ X G 2 (QM X G vzI (wzR σ) (0, 0)) (0, 0) (if w32 x1 ≥ w32 (σ 143 8) then some ((-4)) else gd (0 ≤ w32 x1 ∧ w32 x1 < 160) (some (σ 149 (w32 x1)))) (w0 σ) 0 [(0, vr G 143), (1, vi x1)] []
  refine z_iload_n C 1 rfl 1 rfl dX11_byteAt_0 1 rfl ?_
  refine z_aload_n C 0 rfl 0 rfl dX11_byteAt_1 2 rfl ?_
  refine y_getI C fX11_161 one_11 dX11_byteAt_2 5 rfl ?_
  refine z_icmp_ge C dX11_byteAt_5 17 (by decide) 8 rfl rfl rfl (fun _ => ?_) (fun _ => ?_)
  · refine z_bipush C (by decide) dX11_byteAt_17 19 rfl ?_
    exact z_iret C R rfl rfl dX11_byteAt_19
  · refine z_aload_n C 0 rfl 0 rfl dX11_byteAt_8 9 rfl ?_
    refine y_getR C fX11_25 one_11 lay_11_7 dX11_byteAt_9 12 rfl ?_
    refine z_iload_n C 1 rfl 1 rfl dX11_byteAt_12 13 rfl ?_
    refine y_iald C lay_11_7.2 rfl dX11_byteAt_13 14 rfl rfl (fun _ => ?_)
    refine z_goto C dX11_byteAt_14 19 (by decide) ?_
    exact z_iret C R rfl rfl dX11_byteAt_19
-- fails
def gX11_fails (σ : St) (x1 : Int) : Option (St) := if w32 (σ 143 10) ≠ 0 then some σ else some (up (up σ 143 10 x1) 143 11 ((up σ 143 10 x1) 143 13))
def rmX11_fails : Room := { frames := 0, cells := 0, slots := 0, locals := 0 }
set_option maxRecDepth 100000 in
set_option maxHeartbeats 4000000 in
theorem tX11_fails (l : Launch) (G : GG) (σ : St) (x1 : Int) : Ctr l G yX11_fails cX11_fails 2 none rmX11_fails [vr G 143, vi x1] (w0 σ) vzV wzV (gX11_fails σ x1) := by
  refine ctr_of (by decide) (Nat.le_of_ble_eq_true rfl) mwX11_fails.1 (fun X hl hR C R hnm => ?_)
  subst hl
  refine z_lv (lv' := [(0, vr G 143), (1, vi x1)]) [0, 1] rfl ?_
  show ZZ X G 2 (QM X G vzV wzV (0, 0)) (0, 0) (if w32 (σ 143 10) ≠ 0 then some σ else some (up (up σ 143 10 x1) 143 11 ((up σ 143 10 x1) 143 13))) (w0 σ) 0 [(0, vr G 143), (1, vi x1)] []
  refine z_aload_n C 0 rfl 0 rfl dX11_fails_0 1 rfl ?_
  refine y_getI C fX11_164 one_11 dX11_fails_1 4 rfl ?_
  refine z_if_ne C dX11_fails_4 20 (by decide) 7 rfl rfl (fun _ => ?_) (fun _ => ?_)
  · exact z_vret C R rfl rfl dX11_fails_20
  · refine z_aload_n C 0 rfl 0 rfl dX11_fails_7 8 rfl ?_
    refine z_iload_n C 1 rfl 1 rfl dX11_fails_8 9 rfl ?_
    refine y_putI C fX11_164 one_11 ⟨rfl, rfl⟩ dX11_fails_9 12 rfl ?_
    refine z_aload_n C 0 rfl 0 rfl dX11_fails_12 13 rfl ?_
    refine z_aload_n C 0 rfl 0 rfl dX11_fails_13 14 rfl ?_
    refine y_getI C fX11_167 one_11 dX11_fails_14 17 rfl ?_
    refine y_putI C fX11_170 one_11 ⟨rfl, rfl⟩ dX11_fails_17 20 rfl ?_
    exact z_vret C R rfl rfl dX11_fails_20
-- nameAt
def gX11_nameAt_L90 (F : Nat) (σ : St) (x1 : Int) (x2 : Int) (c2 : Int → Option (Int)) (x3 : Int) (x4 : Int) : Option (Int) := if w32 x4 = 0 then c2 (x3 + 1) else some x3
def gX11_nameAt_L82 (F : Nat) (σ : St) (x1 : Int) (x2 : Int) (c2 : Int → Option (Int)) (c39 : Int → Int → Int → Option (Int)) (x3 : Int) (x5 : Int) (s0 : Int) : Option (Int) := c39 x3 s0 (x5 + 1)
def gX11_nameAt_L39 (F : Nat) (σ : St) (x1 : Int) (x2 : Int) (c2 : Int → Option (Int)) : Nat → Int → Int → Int → Option (Int)
  | 0, _, _, _ => none
  | n + 1, x3, x4, x5 => if w32 x5 ≥ w32 (x2 - x1) then gX11_nameAt_L90 F σ x1 x2 c2 x3 x4 else if w32 x4 = 0 then gX11_nameAt_L90 F σ x1 x2 c2 x3 x4 else (gX11_byteAt σ (x1 + x5)).bind fun r1 => gd (0 ≤ w32 x3 ∧ w32 x3 < 11) (gd (0 ≤ w32 ((σ 157 (w32 x3)) + x5) ∧ w32 ((σ 157 (w32 x3)) + x5) < 38) (if w32 r1 ≠ w32 (σ 158 (w32 ((σ 157 (w32 x3)) + x5))) then gX11_nameAt_L82 F σ x1 x2 c2 (gX11_nameAt_L39 F σ x1 x2 c2 n) x3 x5 0 else gX11_nameAt_L82 F σ x1 x2 c2 (gX11_nameAt_L39 F σ x1 x2 c2 n) x3 x5 1))
def gX11_nameAt_L34 (F : Nat) (σ : St) (x1 : Int) (x2 : Int) (c2 : Int → Option (Int)) (x3 : Int) (s0 : Int) : Option (Int) := gX11_nameAt_L39 F σ x1 x2 c2 F x3 s0 0
def gX11_nameAt_L2 (F : Nat) (σ : St) (x1 : Int) (x2 : Int) : Nat → Int → Option (Int)
  | 0, _ => none
  | n + 1, x3 => if w32 x3 ≥ 10 then some ((-4)) else gd (0 ≤ w32 (x3 + 1) ∧ w32 (x3 + 1) < 11) (gd (0 ≤ w32 x3 ∧ w32 x3 < 11) (if w32 (x2 - x1) ≠ w32 ((σ 157 (w32 (x3 + 1))) - (σ 157 (w32 x3))) then gX11_nameAt_L34 F σ x1 x2 (gX11_nameAt_L2 F σ x1 x2 n) x3 0 else gX11_nameAt_L34 F σ x1 x2 (gX11_nameAt_L2 F σ x1 x2 n) x3 1))
def gX11_nameAt (F : Nat) (σ : St) (x1 : Int) (x2 : Int) : Option (Int) := gX11_nameAt_L2 F σ x1 x2 F 0
def rmX11_nameAt : Room := { frames := 1, cells := 0, slots := 0, locals := 21 }
set_option maxRecDepth 100000 in
set_option maxHeartbeats 4000000 in
theorem pX11_nameAt_L90 {X : MX} {G : GG} (C : CX X G 6 cX11_nameAt RX11) (R : RT X (some .int)) (hR : mR X = rmX11_nameAt) (F : Nat) (σ : St) (x1 : Int) (x2 : Int) (c2 : Int → Option (Int)) (hc2 : ∀ (x3 : Int), ZZ X G 6 (QM X G vzI (wzR σ) (0, 0)) (0, 0) (c2 x3) (w0 σ) 2 [(0, vr G 143), (1, vi x1), (2, vi x2), (3, vi x3)] []) : ∀ (x3 : Int) (x4 : Int), ZZ X G 6 (QM X G vzI (wzR σ) (0, 0)) (0, 0) (gX11_nameAt_L90 F σ x1 x2 c2 x3 x4) (w0 σ) 90 [(0, vr G 143), (1, vi x1), (2, vi x2), (3, vi x3), (4, vi x4)] [] := by
  intro x3 x4
  show ZZ X G 6 (QM X G vzI (wzR σ) (0, 0)) (0, 0) (if w32 x4 = 0 then c2 (x3 + 1) else some x3) (w0 σ) 90 [(0, vr G 143), (1, vi x1), (2, vi x2), (3, vi x3), (4, vi x4)] []
  refine z_iload C 4 rfl dX11_nameAt_90 92 rfl ?_
  refine z_if_eq C dX11_nameAt_92 97 (by decide) 95 rfl rfl (fun _ => ?_) (fun _ => ?_)
  · refine z_iinc (lv' := [(3, vi (x3 + 1)), (0, vr G 143), (1, vi x1), (2, vi x2), (4, vi x4)]) C (by decide) 3 rfl dX11_nameAt_97 100 rfl rfl ?_
    refine z_goto C dX11_nameAt_100 2 (by decide) ?_
    refine z_lv (lv' := [(0, vr G 143), (1, vi x1), (2, vi x2), (3, vi (x3 + 1))]) [1, 2, 3, 0] rfl ?_
    exact hc2 (x3 + 1)
  · refine z_iload_n C 3 rfl 3 rfl dX11_nameAt_95 96 rfl ?_
    exact z_iret C R rfl rfl dX11_nameAt_96
set_option maxRecDepth 100000 in
set_option maxHeartbeats 4000000 in
theorem pX11_nameAt_L82 {X : MX} {G : GG} (C : CX X G 6 cX11_nameAt RX11) (R : RT X (some .int)) (hR : mR X = rmX11_nameAt) (F : Nat) (σ : St) (x1 : Int) (x2 : Int) (c2 : Int → Option (Int)) (hc2 : ∀ (x3 : Int), ZZ X G 6 (QM X G vzI (wzR σ) (0, 0)) (0, 0) (c2 x3) (w0 σ) 2 [(0, vr G 143), (1, vi x1), (2, vi x2), (3, vi x3)] []) (c39 : Int → Int → Int → Option (Int)) (hc39 : ∀ (x3 : Int) (x4 : Int) (x5 : Int), ZZ X G 6 (QM X G vzI (wzR σ) (0, 0)) (0, 0) (c39 x3 x4 x5) (w0 σ) 39 [(0, vr G 143), (1, vi x1), (2, vi x2), (3, vi x3), (4, vi x4), (5, vi x5)] []) : ∀ (x3 : Int) (x5 : Int) (s0 : Int), ZZ X G 6 (QM X G vzI (wzR σ) (0, 0)) (0, 0) (gX11_nameAt_L82 F σ x1 x2 c2 c39 x3 x5 s0) (w0 σ) 82 [(0, vr G 143), (1, vi x1), (2, vi x2), (3, vi x3), (5, vi x5)] [vi s0] := by
  intro x3 x5 s0
  show ZZ X G 6 (QM X G vzI (wzR σ) (0, 0)) (0, 0) (c39 x3 s0 (x5 + 1)) (w0 σ) 82 [(0, vr G 143), (1, vi x1), (2, vi x2), (3, vi x3), (5, vi x5)] [vi s0]
  refine z_istore (lv' := [(4, vi s0), (0, vr G 143), (1, vi x1), (2, vi x2), (3, vi x3), (5, vi x5)]) C (by decide) dX11_nameAt_82 84 rfl rfl ?_
  refine z_iinc (lv' := [(5, vi (x5 + 1)), (4, vi s0), (0, vr G 143), (1, vi x1), (2, vi x2), (3, vi x3)]) C (by decide) 5 rfl dX11_nameAt_84 87 rfl rfl ?_
  refine z_goto C dX11_nameAt_87 39 (by decide) ?_
  refine z_lv (lv' := [(0, vr G 143), (1, vi x1), (2, vi x2), (3, vi x3), (4, vi s0), (5, vi (x5 + 1))]) [2, 3, 4, 5, 1, 0] rfl ?_
  exact hc39 x3 s0 (x5 + 1)
set_option maxRecDepth 100000 in
set_option maxHeartbeats 4000000 in
theorem pX11_nameAt_L39 {X : MX} {G : GG} (C : CX X G 6 cX11_nameAt RX11) (R : RT X (some .int)) (hR : mR X = rmX11_nameAt) (F : Nat) (σ : St) (x1 : Int) (x2 : Int) (c2 : Int → Option (Int)) (hc2 : ∀ (x3 : Int), ZZ X G 6 (QM X G vzI (wzR σ) (0, 0)) (0, 0) (c2 x3) (w0 σ) 2 [(0, vr G 143), (1, vi x1), (2, vi x2), (3, vi x3)] []) : ∀ (n : Nat) (x3 : Int) (x4 : Int) (x5 : Int), ZZ X G 6 (QM X G vzI (wzR σ) (0, 0)) (0, 0) (gX11_nameAt_L39 F σ x1 x2 c2 n x3 x4 x5) (w0 σ) 39 [(0, vr G 143), (1, vi x1), (2, vi x2), (3, vi x3), (4, vi x4), (5, vi x5)] [] := by
  intro n
  induction n with
  | zero =>
    intro _ _ _
    exact z_none
  | succ n ih =>
    intro x3 x4 x5
    show ZZ X G 6 (QM X G vzI (wzR σ) (0, 0)) (0, 0) (if w32 x5 ≥ w32 (x2 - x1) then gX11_nameAt_L90 F σ x1 x2 c2 x3 x4 else if w32 x4 = 0 then gX11_nameAt_L90 F σ x1 x2 c2 x3 x4 else (gX11_byteAt σ (x1 + x5)).bind fun r1 => gd (0 ≤ w32 x3 ∧ w32 x3 < 11) (gd (0 ≤ w32 ((σ 157 (w32 x3)) + x5) ∧ w32 ((σ 157 (w32 x3)) + x5) < 38) (if w32 r1 ≠ w32 (σ 158 (w32 ((σ 157 (w32 x3)) + x5))) then gX11_nameAt_L82 F σ x1 x2 c2 (gX11_nameAt_L39 F σ x1 x2 c2 n) x3 x5 0 else gX11_nameAt_L82 F σ x1 x2 c2 (gX11_nameAt_L39 F σ x1 x2 c2 n) x3 x5 1))) (w0 σ) 39 [(0, vr G 143), (1, vi x1), (2, vi x2), (3, vi x3), (4, vi x4), (5, vi x5)] []
    refine z_iload C 5 rfl dX11_nameAt_39 41 rfl ?_
    refine z_iload_n C 2 rfl 2 rfl dX11_nameAt_41 42 rfl ?_
    refine z_iload_n C 1 rfl 1 rfl dX11_nameAt_42 43 rfl ?_
    refine z_isub C dX11_nameAt_43 44 rfl ?_
    refine z_icmp_ge C dX11_nameAt_44 90 (by decide) 47 rfl rfl rfl (fun _ => ?_) (fun _ => ?_)
    · refine z_lv (lv' := [(0, vr G 143), (1, vi x1), (2, vi x2), (3, vi x3), (4, vi x4)]) [0, 1, 2, 3, 4] rfl ?_
      exact pX11_nameAt_L90 C R hR F σ x1 x2 c2 hc2 x3 x4
    · refine z_iload C 4 rfl dX11_nameAt_47 49 rfl ?_
      refine z_if_eq C dX11_nameAt_49 90 (by decide) 52 rfl rfl (fun _ => ?_) (fun _ => ?_)
      · refine z_lv (lv' := [(0, vr G 143), (1, vi x1), (2, vi x2), (3, vi x3), (4, vi x4)]) [0, 1, 2, 3, 4] rfl ?_
        exact pX11_nameAt_L90 C R hR F σ x1 x2 c2 hc2 x3 x4
      · refine z_aload_n C 0 rfl 0 rfl dX11_nameAt_52 53 rfl ?_
        refine z_iload_n C 1 rfl 1 rfl dX11_nameAt_53 54 rfl ?_
        refine z_iload C 5 rfl dX11_nameAt_54 56 rfl ?_
        refine z_iadd C dX11_nameAt_56 57 rfl ?_
        refine y_callVI C hR (tX11_byteAt (mL X) G σ (x1 + x5)) ⟨mwX11_byteAt, mvX11_byteAt, lkX11_173⟩ one_11 rfl rfl (Nat.le_of_ble_eq_true rfl) (by unfold rmOK; decide) dX11_nameAt_57 60 rfl (fun r1 _ => ?_)
        refine z_aload_n C 0 rfl 0 rfl dX11_nameAt_60 61 rfl ?_
        refine y_getR C fX11_52 one_11 lay_11_25 dX11_nameAt_61 64 rfl ?_
        refine z_aload_n C 0 rfl 0 rfl dX11_nameAt_64 65 rfl ?_
        refine y_getR C fX11_49 one_11 lay_11_24 dX11_nameAt_65 68 rfl ?_
        refine z_iload_n C 3 rfl 3 rfl dX11_nameAt_68 69 rfl ?_
        refine y_iald C lay_11_24.2 rfl dX11_nameAt_69 70 rfl rfl (fun _ => ?_)
        refine z_iload C 5 rfl dX11_nameAt_70 72 rfl ?_
        refine z_iadd C dX11_nameAt_72 73 rfl ?_
        refine y_iald C lay_11_25.2 rfl dX11_nameAt_73 74 rfl rfl (fun _ => ?_)
        refine z_icmp_ne C dX11_nameAt_74 81 (by decide) 77 rfl rfl rfl (fun _ => ?_) (fun _ => ?_)
        · refine z_iconst C dX11_nameAt_81 82 rfl ?_
          refine z_lv (lv' := [(0, vr G 143), (1, vi x1), (2, vi x2), (3, vi x3), (5, vi x5)]) [0, 1, 2, 3, 5] rfl ?_
          exact pX11_nameAt_L82 C R hR F σ x1 x2 c2 hc2 (gX11_nameAt_L39 F σ x1 x2 c2 n) ih x3 x5 0
        · refine z_iconst C dX11_nameAt_77 78 rfl ?_
          refine z_goto C dX11_nameAt_78 82 (by decide) ?_
          refine z_lv (lv' := [(0, vr G 143), (1, vi x1), (2, vi x2), (3, vi x3), (5, vi x5)]) [0, 1, 2, 3, 5] rfl ?_
          exact pX11_nameAt_L82 C R hR F σ x1 x2 c2 hc2 (gX11_nameAt_L39 F σ x1 x2 c2 n) ih x3 x5 1
set_option maxRecDepth 100000 in
set_option maxHeartbeats 4000000 in
theorem pX11_nameAt_L34 {X : MX} {G : GG} (C : CX X G 6 cX11_nameAt RX11) (R : RT X (some .int)) (hR : mR X = rmX11_nameAt) (F : Nat) (σ : St) (x1 : Int) (x2 : Int) (c2 : Int → Option (Int)) (hc2 : ∀ (x3 : Int), ZZ X G 6 (QM X G vzI (wzR σ) (0, 0)) (0, 0) (c2 x3) (w0 σ) 2 [(0, vr G 143), (1, vi x1), (2, vi x2), (3, vi x3)] []) : ∀ (x3 : Int) (s0 : Int), ZZ X G 6 (QM X G vzI (wzR σ) (0, 0)) (0, 0) (gX11_nameAt_L34 F σ x1 x2 c2 x3 s0) (w0 σ) 34 [(0, vr G 143), (1, vi x1), (2, vi x2), (3, vi x3)] [vi s0] := by
  intro x3 s0
  show ZZ X G 6 (QM X G vzI (wzR σ) (0, 0)) (0, 0) (gX11_nameAt_L39 F σ x1 x2 c2 F x3 s0 0) (w0 σ) 34 [(0, vr G 143), (1, vi x1), (2, vi x2), (3, vi x3)] [vi s0]
  refine z_istore (lv' := [(4, vi s0), (0, vr G 143), (1, vi x1), (2, vi x2), (3, vi x3)]) C (by decide) dX11_nameAt_34 36 rfl rfl ?_
  refine z_iconst C dX11_nameAt_36 37 rfl ?_
  refine z_istore (lv' := [(5, vi 0), (4, vi s0), (0, vr G 143), (1, vi x1), (2, vi x2), (3, vi x3)]) C (by decide) dX11_nameAt_37 39 rfl rfl ?_
  refine z_lv (lv' := [(0, vr G 143), (1, vi x1), (2, vi x2), (3, vi x3), (4, vi s0), (5, vi 0)]) [2, 3, 4, 5, 1, 0] rfl ?_
  exact pX11_nameAt_L39 C R hR F σ x1 x2 c2 hc2 F x3 s0 0
set_option maxRecDepth 100000 in
set_option maxHeartbeats 4000000 in
theorem pX11_nameAt_L2 {X : MX} {G : GG} (C : CX X G 6 cX11_nameAt RX11) (R : RT X (some .int)) (hR : mR X = rmX11_nameAt) (F : Nat) (σ : St) (x1 : Int) (x2 : Int)  : ∀ (n : Nat) (x3 : Int), ZZ X G 6 (QM X G vzI (wzR σ) (0, 0)) (0, 0) (gX11_nameAt_L2 F σ x1 x2 n x3) (w0 σ) 2 [(0, vr G 143), (1, vi x1), (2, vi x2), (3, vi x3)] [] := by
  intro n
  induction n with
  | zero =>
    intro _
    exact z_none
  | succ n ih =>
    intro x3
    show ZZ X G 6 (QM X G vzI (wzR σ) (0, 0)) (0, 0) (if w32 x3 ≥ 10 then some ((-4)) else gd (0 ≤ w32 (x3 + 1) ∧ w32 (x3 + 1) < 11) (gd (0 ≤ w32 x3 ∧ w32 x3 < 11) (if w32 (x2 - x1) ≠ w32 ((σ 157 (w32 (x3 + 1))) - (σ 157 (w32 x3))) then gX11_nameAt_L34 F σ x1 x2 (gX11_nameAt_L2 F σ x1 x2 n) x3 0 else gX11_nameAt_L34 F σ x1 x2 (gX11_nameAt_L2 F σ x1 x2 n) x3 1))) (w0 σ) 2 [(0, vr G 143), (1, vi x1), (2, vi x2), (3, vi x3)] []
    refine z_iload_n C 3 rfl 3 rfl dX11_nameAt_2 3 rfl ?_
    refine z_bipush C (by decide) dX11_nameAt_3 5 rfl ?_
    refine z_icmp_ge C dX11_nameAt_5 103 (by decide) 8 rfl rfl (w32_id (a := 10) (by decide)) (fun _ => ?_) (fun _ => ?_)
    · refine z_bipush C (by decide) dX11_nameAt_103 105 rfl ?_
      exact z_iret C R rfl rfl dX11_nameAt_105
    · refine z_iload_n C 2 rfl 2 rfl dX11_nameAt_8 9 rfl ?_
      refine z_iload_n C 1 rfl 1 rfl dX11_nameAt_9 10 rfl ?_
      refine z_isub C dX11_nameAt_10 11 rfl ?_
      refine z_aload_n C 0 rfl 0 rfl dX11_nameAt_11 12 rfl ?_
      refine y_getR C fX11_49 one_11 lay_11_24 dX11_nameAt_12 15 rfl ?_
      refine z_iload_n C 3 rfl 3 rfl dX11_nameAt_15 16 rfl ?_
      refine z_iconst C dX11_nameAt_16 17 rfl ?_
      refine z_iadd C dX11_nameAt_17 18 rfl ?_
      refine y_iald C lay_11_24.2 rfl dX11_nameAt_18 19 rfl rfl (fun _ => ?_)
      refine z_aload_n C 0 rfl 0 rfl dX11_nameAt_19 20 rfl ?_
      refine y_getR C fX11_49 one_11 lay_11_24 dX11_nameAt_20 23 rfl ?_
      refine z_iload_n C 3 rfl 3 rfl dX11_nameAt_23 24 rfl ?_
      refine y_iald C lay_11_24.2 rfl dX11_nameAt_24 25 rfl rfl (fun _ => ?_)
      refine z_isub C dX11_nameAt_25 26 rfl ?_
      refine z_icmp_ne C dX11_nameAt_26 33 (by decide) 29 rfl rfl rfl (fun _ => ?_) (fun _ => ?_)
      · refine z_iconst C dX11_nameAt_33 34 rfl ?_
        exact pX11_nameAt_L34 C R hR F σ x1 x2 (gX11_nameAt_L2 F σ x1 x2 n) ih x3 0
      · refine z_iconst C dX11_nameAt_29 30 rfl ?_
        refine z_goto C dX11_nameAt_30 34 (by decide) ?_
        exact pX11_nameAt_L34 C R hR F σ x1 x2 (gX11_nameAt_L2 F σ x1 x2 n) ih x3 1
set_option maxRecDepth 100000 in
set_option maxHeartbeats 4000000 in
theorem tX11_nameAt (l : Launch) (G : GG) (F : Nat) (σ : St) (x1 : Int) (x2 : Int) : Ctr l G yX11_nameAt cX11_nameAt 6 (some .int) rmX11_nameAt [vr G 143, vi x1, vi x2] (w0 σ) vzI (wzR σ) (gX11_nameAt F σ x1 x2) := by
  refine ctr_of (by decide) (Nat.le_of_ble_eq_true rfl) mwX11_nameAt.1 (fun X hl hR C R hnm => ?_)
  subst hl
  refine z_lv (lv' := [(0, vr G 143), (1, vi x1), (2, vi x2)]) [0, 1, 2] rfl ?_
  show ZZ X G 6 (QM X G vzI (wzR σ) (0, 0)) (0, 0) (gX11_nameAt_L2 F σ x1 x2 F 0) (w0 σ) 0 [(0, vr G 143), (1, vi x1), (2, vi x2)] []
  refine z_iconst C dX11_nameAt_0 1 rfl ?_
  refine z_istore_n (lv' := [(3, vi 0), (0, vr G 143), (1, vi x1), (2, vi x2)]) C 3 rfl (by decide) dX11_nameAt_1 2 rfl rfl ?_
  refine z_lv (lv' := [(0, vr G 143), (1, vi x1), (2, vi x2), (3, vi 0)]) [1, 2, 3, 0] rfl ?_
  exact pX11_nameAt_L2 C R hR F σ x1 x2 F 0
-- next
def gX11_next_L231 (F : Nat) (c170 : St → Option (St)) (s1 : Int) (σ : St) : Option (St) := c170 (up (up σ 143 15 s1) 143 12 (((up σ 143 15 s1) 143 12) + 1))
def gX11_next_L170 (F : Nat) : Nat → St → Option (St)
  | 0, _ => none
  | n + 1, σ => (gX11_byteAt σ (σ 143 12)).bind fun r1 => (gX11_in σ (w32 r1) 48 57).bind fun r2 => if w32 r2 = 0 then if w32 (((up σ 143 14 2) 143 12) - ((up σ 143 14 2) 143 13)) ≤ 3 then some (up σ 143 14 2) else (gX11_fails (up σ 143 14 2) 1).bind fun r3 => some r3 else if w32 ((σ 143 12) - (σ 143 13)) ≥ 3 then gX11_next_L231 F (gX11_next_L170 F n) (σ 143 15) σ else (gX11_byteAt σ (σ 143 12)).bind fun r4 => gX11_next_L231 F (gX11_next_L170 F n) (((10 * (σ 143 15)) + r4) - 48) σ
def gX11_next_L84 (F : Nat) : Nat → St → Option (St)
  | 0, _ => none
  | n + 1, σ => (gX11_byteAt σ (σ 143 12)).bind fun r1 => (gX11_in σ (w32 r1) 97 122).bind fun r2 => if w32 r2 = 0 then (gX11_nameAt F (up σ 143 14 1) ((up σ 143 14 1) 143 13) ((up σ 143 14 1) 143 12)).bind fun r3 => if w32 ((up (up σ 143 14 1) 143 15 r3) 143 15) ≠ (-4) then some (up (up σ 143 14 1) 143 15 r3) else (gX11_fails (up (up σ 143 14 1) 143 15 r3) 1).bind fun r4 => some r4 else gX11_next_L84 F n (up σ 143 12 ((σ 143 12) + 1))
def gX11_next_L8 (F : Nat) : Nat → St → Option (St)
  | 0, _ => none
  | n + 1, σ => (gX11_byteAt σ (σ 143 12)).bind fun r1 => if w32 r1 ≠ 32 then (gX11_byteAt (up σ 143 13 (σ 143 12)) ((up σ 143 13 (σ 143 12)) 143 12)).bind fun r2 => if w32 r2 ≠ (-4) then (gX11_in (up (up σ 143 13 (σ 143 12)) 143 15 0) (w32 r2) 97 122).bind fun r3 => if w32 r3 = 0 then (gX11_in (up (up σ 143 13 (σ 143 12)) 143 15 0) (w32 r2) 48 57).bind fun r4 => if w32 r4 = 0 then if w32 r2 = 43 then some (up (up (up (up (up σ 143 13 (σ 143 12)) 143 15 0) 143 14 3) 143 15 r2) 143 12 (((up (up (up (up σ 143 13 (σ 143 12)) 143 15 0) 143 14 3) 143 15 r2) 143 12) + 1)) else if w32 r2 = 45 then some (up (up (up (up (up σ 143 13 (σ 143 12)) 143 15 0) 143 14 3) 143 15 r2) 143 12 (((up (up (up (up σ 143 13 (σ 143 12)) 143 15 0) 143 14 3) 143 15 r2) 143 12) + 1)) else if w32 r2 = 44 then some (up (up (up (up (up σ 143 13 (σ 143 12)) 143 15 0) 143 14 3) 143 15 r2) 143 12 (((up (up (up (up σ 143 13 (σ 143 12)) 143 15 0) 143 14 3) 143 15 r2) 143 12) + 1)) else if w32 r2 = 60 then some (up (up (up (up (up σ 143 13 (σ 143 12)) 143 15 0) 143 14 3) 143 15 r2) 143 12 (((up (up (up (up σ 143 13 (σ 143 12)) 143 15 0) 143 14 3) 143 15 r2) 143 12) + 1)) else if w32 r2 = 62 then some (up (up (up (up (up σ 143 13 (σ 143 12)) 143 15 0) 143 14 3) 143 15 r2) 143 12 (((up (up (up (up σ 143 13 (σ 143 12)) 143 15 0) 143 14 3) 143 15 r2) 143 12) + 1)) else if w32 r2 = 59 then some (up (up (up (up (up σ 143 13 (σ 143 12)) 143 15 0) 143 14 3) 143 15 r2) 143 12 (((up (up (up (up σ 143 13 (σ 143 12)) 143 15 0) 143 14 3) 143 15 r2) 143 12) + 1)) else (gX11_fails (up (up (up (up (up σ 143 13 (σ 143 12)) 143 15 0) 143 14 3) 143 15 r2) 143 12 (((up (up (up (up σ 143 13 (σ 143 12)) 143 15 0) 143 14 3) 143 15 r2) 143 12) + 1)) 1).bind fun r5 => some r5 else gX11_next_L170 F F (up (up σ 143 13 (σ 143 12)) 143 15 0) else gX11_next_L84 F F (up (up σ 143 13 (σ 143 12)) 143 15 0) else some (up (up (up σ 143 13 (σ 143 12)) 143 15 0) 143 14 0) else gX11_next_L8 F n (up σ 143 12 ((σ 143 12) + 1))
def gX11_next (F : Nat) (σ : St) : Option (St) := if w32 (σ 143 10) ≤ 0 then gX11_next_L8 F F σ else some σ
def rmX11_next : Room := { frames := 2, cells := 0, slots := 0, locals := 46 }
set_option maxRecDepth 100000 in
set_option maxHeartbeats 4000000 in
theorem pX11_next_L231 {X : MX} {G : GG} (C : CX X G 2 cX11_next RX11) (R : RT X none) (hR : mR X = rmX11_next) (F : Nat) (c170 : St → Option (St)) (hc170 : ∀  (σ : St), ZZ X G 2 (QM X G vzV wzV (0, 0)) (0, 0) (c170 σ) (w0 σ) 170 [(0, vr G 143)] []) : ∀ (s1 : Int) (σ : St), ZZ X G 2 (QM X G vzV wzV (0, 0)) (0, 0) (gX11_next_L231 F c170 s1 σ) (w0 σ) 231 [(0, vr G 143)] [vi s1, vr G 143] := by
  intro s1 σ
  show ZZ X G 2 (QM X G vzV wzV (0, 0)) (0, 0) (c170 (up (up σ 143 15 s1) 143 12 (((up σ 143 15 s1) 143 12) + 1))) (w0 σ) 231 [(0, vr G 143)] [vi s1, vr G 143]
  refine y_putI C fX11_179 one_11 ⟨rfl, rfl⟩ dX11_next_231 234 rfl ?_
  refine z_aload_n C 0 rfl 0 rfl dX11_next_234 235 rfl ?_
  refine z_dup C rfl dX11_next_235 236 rfl ?_
  refine y_getI C fX11_176 one_11 dX11_next_236 239 rfl ?_
  refine z_iconst C dX11_next_239 240 rfl ?_
  refine z_iadd C dX11_next_240 241 rfl ?_
  refine y_putI C fX11_176 one_11 ⟨rfl, rfl⟩ dX11_next_241 244 rfl ?_
  refine z_goto C dX11_next_244 170 (by decide) ?_
  exact hc170 (up (up σ 143 15 s1) 143 12 (((up σ 143 15 s1) 143 12) + 1))
set_option maxRecDepth 100000 in
set_option maxHeartbeats 4000000 in
theorem pX11_next_L170 {X : MX} {G : GG} (C : CX X G 2 cX11_next RX11) (R : RT X none) (hR : mR X = rmX11_next) (F : Nat)  : ∀ (n : Nat)  (σ : St), ZZ X G 2 (QM X G vzV wzV (0, 0)) (0, 0) (gX11_next_L170 F n σ) (w0 σ) 170 [(0, vr G 143)] [] := by
  intro n
  induction n with
  | zero =>
    intro _
    exact z_none
  | succ n ih =>
    intro σ
    show ZZ X G 2 (QM X G vzV wzV (0, 0)) (0, 0) ((gX11_byteAt σ (σ 143 12)).bind fun r1 => (gX11_in σ (w32 r1) 48 57).bind fun r2 => if w32 r2 = 0 then if w32 (((up σ 143 14 2) 143 12) - ((up σ 143 14 2) 143 13)) ≤ 3 then some (up σ 143 14 2) else (gX11_fails (up σ 143 14 2) 1).bind fun r3 => some r3 else if w32 ((σ 143 12) - (σ 143 13)) ≥ 3 then gX11_next_L231 F (gX11_next_L170 F n) (σ 143 15) σ else (gX11_byteAt σ (σ 143 12)).bind fun r4 => gX11_next_L231 F (gX11_next_L170 F n) (((10 * (σ 143 15)) + r4) - 48) σ) (w0 σ) 170 [(0, vr G 143)] []
    refine z_aload_n C 0 rfl 0 rfl dX11_next_170 171 rfl ?_
    refine z_aload_n C 0 rfl 0 rfl dX11_next_171 172 rfl ?_
    refine y_getI C fX11_176 one_11 dX11_next_172 175 rfl ?_
    refine y_callVI C hR (tX11_byteAt (mL X) G σ (σ 143 12)) ⟨mwX11_byteAt, mvX11_byteAt, lkX11_173⟩ one_11 rfl rfl (Nat.le_of_ble_eq_true rfl) (by unfold rmOK; decide) dX11_next_175 178 rfl (fun r1 _ => ?_)
    refine z_i2l C dX11_next_178 179 rfl ?_
    refine z_ldc2 (v := 48) C clX11_197 (by decide) dX11_next_179 182 rfl ?_
    refine z_ldc2 (v := 57) C clX11_199 (by decide) dX11_next_182 185 rfl ?_
    refine y_callSI C hR (tX11_in (mL X) G σ (w32 r1) 48 57) ⟨mwX11_in, msX11_in, lkX11_126⟩ rfl rfl (Nat.le_of_ble_eq_true rfl) (by unfold rmOK; decide) dX11_next_185 188 rfl (fun r2 _ => ?_)
    refine z_if_eq C dX11_next_188 247 (by decide) 191 rfl rfl (fun _ => ?_) (fun _ => ?_)
    · refine z_aload_n C 0 rfl 0 rfl dX11_next_247 248 rfl ?_
      refine z_iconst C dX11_next_248 249 rfl ?_
      refine y_putI C fX11_182 one_11 ⟨rfl, rfl⟩ dX11_next_249 252 rfl ?_
      refine z_aload_n C 0 rfl 0 rfl dX11_next_252 253 rfl ?_
      refine y_getI C fX11_176 one_11 dX11_next_253 256 rfl ?_
      refine z_aload_n C 0 rfl 0 rfl dX11_next_256 257 rfl ?_
      refine y_getI C fX11_167 one_11 dX11_next_257 260 rfl ?_
      refine z_isub C dX11_next_260 261 rfl ?_
      refine z_iconst C dX11_next_261 262 rfl ?_
      refine z_icmp_le C dX11_next_262 334 (by decide) 265 rfl rfl (w32_id (a := 3) (by decide)) (fun _ => ?_) (fun _ => ?_)
      · exact z_vret C R rfl rfl dX11_next_334
      · refine z_aload_n C 0 rfl 0 rfl dX11_next_265 266 rfl ?_
        refine z_iconst C dX11_next_266 267 rfl ?_
        refine y_callVv C hR (tX11_fails (mL X) G (up σ 143 14 2) 1) ⟨mwX11_fails, mvX11_fails, lkX11_193⟩ one_11 rfl rfl (Nat.le_of_ble_eq_true rfl) (by unfold rmOK; decide) dX11_next_267 270 rfl (fun r3 _ => ?_)
        refine z_goto C dX11_next_270 334 (by decide) ?_
        exact z_vret C R rfl rfl dX11_next_334
    · refine z_aload_n C 0 rfl 0 rfl dX11_next_191 192 rfl ?_
      refine z_aload_n C 0 rfl 0 rfl dX11_next_192 193 rfl ?_
      refine y_getI C fX11_176 one_11 dX11_next_193 196 rfl ?_
      refine z_aload_n C 0 rfl 0 rfl dX11_next_196 197 rfl ?_
      refine y_getI C fX11_167 one_11 dX11_next_197 200 rfl ?_
      refine z_isub C dX11_next_200 201 rfl ?_
      refine z_iconst C dX11_next_201 202 rfl ?_
      refine z_icmp_ge C dX11_next_202 227 (by decide) 205 rfl rfl (w32_id (a := 3) (by decide)) (fun _ => ?_) (fun _ => ?_)
      · refine z_aload_n C 0 rfl 0 rfl dX11_next_227 228 rfl ?_
        refine y_getI C fX11_179 one_11 dX11_next_228 231 rfl ?_
        exact pX11_next_L231 C R hR F (gX11_next_L170 F n) ih (σ 143 15) σ
      · refine z_bipush C (by decide) dX11_next_205 207 rfl ?_
        refine z_aload_n C 0 rfl 0 rfl dX11_next_207 208 rfl ?_
        refine y_getI C fX11_179 one_11 dX11_next_208 211 rfl ?_
        refine z_imul C dX11_next_211 212 rfl ?_
        refine z_aload_n C 0 rfl 0 rfl dX11_next_212 213 rfl ?_
        refine z_aload_n C 0 rfl 0 rfl dX11_next_213 214 rfl ?_
        refine y_getI C fX11_176 one_11 dX11_next_214 217 rfl ?_
        refine y_callVI C hR (tX11_byteAt (mL X) G σ (σ 143 12)) ⟨mwX11_byteAt, mvX11_byteAt, lkX11_173⟩ one_11 rfl rfl (Nat.le_of_ble_eq_true rfl) (by unfold rmOK; decide) dX11_next_217 220 rfl (fun r4 _ => ?_)
        refine z_iadd C dX11_next_220 221 rfl ?_
        refine z_bipush C (by decide) dX11_next_221 223 rfl ?_
        refine z_isub C dX11_next_223 224 rfl ?_
        refine z_goto C dX11_next_224 231 (by decide) ?_
        exact pX11_next_L231 C R hR F (gX11_next_L170 F n) ih (((10 * (σ 143 15)) + r4) - 48) σ
set_option maxRecDepth 100000 in
set_option maxHeartbeats 4000000 in
theorem pX11_next_L84 {X : MX} {G : GG} (C : CX X G 2 cX11_next RX11) (R : RT X none) (hR : mR X = rmX11_next) (F : Nat)  : ∀ (n : Nat)  (σ : St), ZZ X G 2 (QM X G vzV wzV (0, 0)) (0, 0) (gX11_next_L84 F n σ) (w0 σ) 84 [(0, vr G 143)] [] := by
  intro n
  induction n with
  | zero =>
    intro _
    exact z_none
  | succ n ih =>
    intro σ
    show ZZ X G 2 (QM X G vzV wzV (0, 0)) (0, 0) ((gX11_byteAt σ (σ 143 12)).bind fun r1 => (gX11_in σ (w32 r1) 97 122).bind fun r2 => if w32 r2 = 0 then (gX11_nameAt F (up σ 143 14 1) ((up σ 143 14 1) 143 13) ((up σ 143 14 1) 143 12)).bind fun r3 => if w32 ((up (up σ 143 14 1) 143 15 r3) 143 15) ≠ (-4) then some (up (up σ 143 14 1) 143 15 r3) else (gX11_fails (up (up σ 143 14 1) 143 15 r3) 1).bind fun r4 => some r4 else gX11_next_L84 F n (up σ 143 12 ((σ 143 12) + 1))) (w0 σ) 84 [(0, vr G 143)] []
    refine z_aload_n C 0 rfl 0 rfl dX11_next_84 85 rfl ?_
    refine z_aload_n C 0 rfl 0 rfl dX11_next_85 86 rfl ?_
    refine y_getI C fX11_176 one_11 dX11_next_86 89 rfl ?_
    refine y_callVI C hR (tX11_byteAt (mL X) G σ (σ 143 12)) ⟨mwX11_byteAt, mvX11_byteAt, lkX11_173⟩ one_11 rfl rfl (Nat.le_of_ble_eq_true rfl) (by unfold rmOK; decide) dX11_next_89 92 rfl (fun r1 _ => ?_)
    refine z_i2l C dX11_next_92 93 rfl ?_
    refine z_ldc2 (v := 97) C clX11_185 (by decide) dX11_next_93 96 rfl ?_
    refine z_ldc2 (v := 122) C clX11_187 (by decide) dX11_next_96 99 rfl ?_
    refine y_callSI C hR (tX11_in (mL X) G σ (w32 r1) 97 122) ⟨mwX11_in, msX11_in, lkX11_126⟩ rfl rfl (Nat.le_of_ble_eq_true rfl) (by unfold rmOK; decide) dX11_next_99 102 rfl (fun r2 _ => ?_)
    refine z_if_eq C dX11_next_102 118 (by decide) 105 rfl rfl (fun _ => ?_) (fun _ => ?_)
    · refine z_aload_n C 0 rfl 0 rfl dX11_next_118 119 rfl ?_
      refine z_iconst C dX11_next_119 120 rfl ?_
      refine y_putI C fX11_182 one_11 ⟨rfl, rfl⟩ dX11_next_120 123 rfl ?_
      refine z_aload_n C 0 rfl 0 rfl dX11_next_123 124 rfl ?_
      refine z_aload_n C 0 rfl 0 rfl dX11_next_124 125 rfl ?_
      refine z_aload_n C 0 rfl 0 rfl dX11_next_125 126 rfl ?_
      refine y_getI C fX11_167 one_11 dX11_next_126 129 rfl ?_
      refine z_aload_n C 0 rfl 0 rfl dX11_next_129 130 rfl ?_
      refine y_getI C fX11_176 one_11 dX11_next_130 133 rfl ?_
      refine y_callVI C hR (tX11_nameAt (mL X) G F (up σ 143 14 1) ((up σ 143 14 1) 143 13) ((up σ 143 14 1) 143 12)) ⟨mwX11_nameAt, mvX11_nameAt, lkX11_189⟩ one_11 rfl rfl (Nat.le_of_ble_eq_true rfl) (by unfold rmOK; decide) dX11_next_133 136 rfl (fun r3 _ => ?_)
      refine y_putI C fX11_179 one_11 ⟨rfl, rfl⟩ dX11_next_136 139 rfl ?_
      refine z_aload_n C 0 rfl 0 rfl dX11_next_139 140 rfl ?_
      refine y_getI C fX11_179 one_11 dX11_next_140 143 rfl ?_
      refine z_bipush C (by decide) dX11_next_143 145 rfl ?_
      refine z_icmp_ne C dX11_next_145 334 (by decide) 148 rfl rfl (w32_id (a := (-4)) (by decide)) (fun _ => ?_) (fun _ => ?_)
      · exact z_vret C R rfl rfl dX11_next_334
      · refine z_aload_n C 0 rfl 0 rfl dX11_next_148 149 rfl ?_
        refine z_iconst C dX11_next_149 150 rfl ?_
        refine y_callVv C hR (tX11_fails (mL X) G (up (up σ 143 14 1) 143 15 r3) 1) ⟨mwX11_fails, mvX11_fails, lkX11_193⟩ one_11 rfl rfl (Nat.le_of_ble_eq_true rfl) (by unfold rmOK; decide) dX11_next_150 153 rfl (fun r4 _ => ?_)
        refine z_goto C dX11_next_153 334 (by decide) ?_
        exact z_vret C R rfl rfl dX11_next_334
    · refine z_aload_n C 0 rfl 0 rfl dX11_next_105 106 rfl ?_
      refine z_dup C rfl dX11_next_106 107 rfl ?_
      refine y_getI C fX11_176 one_11 dX11_next_107 110 rfl ?_
      refine z_iconst C dX11_next_110 111 rfl ?_
      refine z_iadd C dX11_next_111 112 rfl ?_
      refine y_putI C fX11_176 one_11 ⟨rfl, rfl⟩ dX11_next_112 115 rfl ?_
      refine z_goto C dX11_next_115 84 (by decide) ?_
      exact ih (up σ 143 12 ((σ 143 12) + 1))
set_option maxRecDepth 100000 in
set_option maxHeartbeats 4000000 in
theorem pX11_next_L8 {X : MX} {G : GG} (C : CX X G 2 cX11_next RX11) (R : RT X none) (hR : mR X = rmX11_next) (F : Nat)  : ∀ (n : Nat)  (σ : St), ZZ X G 2 (QM X G vzV wzV (0, 0)) (0, 0) (gX11_next_L8 F n σ) (w0 σ) 8 [(0, vr G 143)] [] := by
  intro n
  induction n with
  | zero =>
    intro _
    exact z_none
  | succ n ih =>
    intro σ
    show ZZ X G 2 (QM X G vzV wzV (0, 0)) (0, 0) ((gX11_byteAt σ (σ 143 12)).bind fun r1 => if w32 r1 ≠ 32 then (gX11_byteAt (up σ 143 13 (σ 143 12)) ((up σ 143 13 (σ 143 12)) 143 12)).bind fun r2 => if w32 r2 ≠ (-4) then (gX11_in (up (up σ 143 13 (σ 143 12)) 143 15 0) (w32 r2) 97 122).bind fun r3 => if w32 r3 = 0 then (gX11_in (up (up σ 143 13 (σ 143 12)) 143 15 0) (w32 r2) 48 57).bind fun r4 => if w32 r4 = 0 then if w32 r2 = 43 then some (up (up (up (up (up σ 143 13 (σ 143 12)) 143 15 0) 143 14 3) 143 15 r2) 143 12 (((up (up (up (up σ 143 13 (σ 143 12)) 143 15 0) 143 14 3) 143 15 r2) 143 12) + 1)) else if w32 r2 = 45 then some (up (up (up (up (up σ 143 13 (σ 143 12)) 143 15 0) 143 14 3) 143 15 r2) 143 12 (((up (up (up (up σ 143 13 (σ 143 12)) 143 15 0) 143 14 3) 143 15 r2) 143 12) + 1)) else if w32 r2 = 44 then some (up (up (up (up (up σ 143 13 (σ 143 12)) 143 15 0) 143 14 3) 143 15 r2) 143 12 (((up (up (up (up σ 143 13 (σ 143 12)) 143 15 0) 143 14 3) 143 15 r2) 143 12) + 1)) else if w32 r2 = 60 then some (up (up (up (up (up σ 143 13 (σ 143 12)) 143 15 0) 143 14 3) 143 15 r2) 143 12 (((up (up (up (up σ 143 13 (σ 143 12)) 143 15 0) 143 14 3) 143 15 r2) 143 12) + 1)) else if w32 r2 = 62 then some (up (up (up (up (up σ 143 13 (σ 143 12)) 143 15 0) 143 14 3) 143 15 r2) 143 12 (((up (up (up (up σ 143 13 (σ 143 12)) 143 15 0) 143 14 3) 143 15 r2) 143 12) + 1)) else if w32 r2 = 59 then some (up (up (up (up (up σ 143 13 (σ 143 12)) 143 15 0) 143 14 3) 143 15 r2) 143 12 (((up (up (up (up σ 143 13 (σ 143 12)) 143 15 0) 143 14 3) 143 15 r2) 143 12) + 1)) else (gX11_fails (up (up (up (up (up σ 143 13 (σ 143 12)) 143 15 0) 143 14 3) 143 15 r2) 143 12 (((up (up (up (up σ 143 13 (σ 143 12)) 143 15 0) 143 14 3) 143 15 r2) 143 12) + 1)) 1).bind fun r5 => some r5 else gX11_next_L170 F F (up (up σ 143 13 (σ 143 12)) 143 15 0) else gX11_next_L84 F F (up (up σ 143 13 (σ 143 12)) 143 15 0) else some (up (up (up σ 143 13 (σ 143 12)) 143 15 0) 143 14 0) else gX11_next_L8 F n (up σ 143 12 ((σ 143 12) + 1))) (w0 σ) 8 [(0, vr G 143)] []
    refine z_aload_n C 0 rfl 0 rfl dX11_next_8 9 rfl ?_
    refine z_aload_n C 0 rfl 0 rfl dX11_next_9 10 rfl ?_
    refine y_getI C fX11_176 one_11 dX11_next_10 13 rfl ?_
    refine y_callVI C hR (tX11_byteAt (mL X) G σ (σ 143 12)) ⟨mwX11_byteAt, mvX11_byteAt, lkX11_173⟩ one_11 rfl rfl (Nat.le_of_ble_eq_true rfl) (by unfold rmOK; decide) dX11_next_13 16 rfl (fun r1 _ => ?_)
    refine z_bipush C (by decide) dX11_next_16 18 rfl ?_
    refine z_icmp_ne C dX11_next_18 34 (by decide) 21 rfl rfl (w32_id (a := 32) (by decide)) (fun _ => ?_) (fun _ => ?_)
    · refine z_aload_n C 0 rfl 0 rfl dX11_next_34 35 rfl ?_
      refine z_aload_n C 0 rfl 0 rfl dX11_next_35 36 rfl ?_
      refine y_getI C fX11_176 one_11 dX11_next_36 39 rfl ?_
      refine y_putI C fX11_167 one_11 ⟨rfl, rfl⟩ dX11_next_39 42 rfl ?_
      refine z_aload_n C 0 rfl 0 rfl dX11_next_42 43 rfl ?_
      refine z_aload_n C 0 rfl 0 rfl dX11_next_43 44 rfl ?_
      refine y_getI C fX11_176 one_11 dX11_next_44 47 rfl ?_
      refine y_callVI C hR (tX11_byteAt (mL X) G (up σ 143 13 (σ 143 12)) ((up σ 143 13 (σ 143 12)) 143 12)) ⟨mwX11_byteAt, mvX11_byteAt, lkX11_173⟩ one_11 rfl rfl (Nat.le_of_ble_eq_true rfl) (by unfold rmOK; decide) dX11_next_47 50 rfl (fun r2 _ => ?_)
      refine z_istore_n (lv' := [(1, vi r2), (0, vr G 143)]) C 1 rfl (by decide) dX11_next_50 51 rfl rfl ?_
      refine z_aload_n C 0 rfl 1 rfl dX11_next_51 52 rfl ?_
      refine z_iconst C dX11_next_52 53 rfl ?_
      refine y_putI C fX11_179 one_11 ⟨rfl, rfl⟩ dX11_next_53 56 rfl ?_
      refine z_iload_n C 1 rfl 0 rfl dX11_next_56 57 rfl ?_
      refine z_bipush C (by decide) dX11_next_57 59 rfl ?_
      refine z_icmp_ne C dX11_next_59 70 (by decide) 62 rfl rfl (w32_id (a := (-4)) (by decide)) (fun _ => ?_) (fun _ => ?_)
      · refine z_iload_n C 1 rfl 0 rfl dX11_next_70 71 rfl ?_
        refine z_i2l C dX11_next_71 72 rfl ?_
        refine z_ldc2 (v := 97) C clX11_185 (by decide) dX11_next_72 75 rfl ?_
        refine z_ldc2 (v := 122) C clX11_187 (by decide) dX11_next_75 78 rfl ?_
        refine y_callSI C hR (tX11_in (mL X) G (up (up σ 143 13 (σ 143 12)) 143 15 0) (w32 r2) 97 122) ⟨mwX11_in, msX11_in, lkX11_126⟩ rfl rfl (Nat.le_of_ble_eq_true rfl) (by unfold rmOK; decide) dX11_next_78 81 rfl (fun r3 _ => ?_)
        refine z_if_eq C dX11_next_81 156 (by decide) 84 rfl rfl (fun _ => ?_) (fun _ => ?_)
        · refine z_iload_n C 1 rfl 0 rfl dX11_next_156 157 rfl ?_
          refine z_i2l C dX11_next_157 158 rfl ?_
          refine z_ldc2 (v := 48) C clX11_197 (by decide) dX11_next_158 161 rfl ?_
          refine z_ldc2 (v := 57) C clX11_199 (by decide) dX11_next_161 164 rfl ?_
          refine y_callSI C hR (tX11_in (mL X) G (up (up σ 143 13 (σ 143 12)) 143 15 0) (w32 r2) 48 57) ⟨mwX11_in, msX11_in, lkX11_126⟩ rfl rfl (Nat.le_of_ble_eq_true rfl) (by unfold rmOK; decide) dX11_next_164 167 rfl (fun r4 _ => ?_)
          refine z_if_eq C dX11_next_167 273 (by decide) 170 rfl rfl (fun _ => ?_) (fun _ => ?_)
          · refine z_aload_n C 0 rfl 1 rfl dX11_next_273 274 rfl ?_
            refine z_iconst C dX11_next_274 275 rfl ?_
            refine y_putI C fX11_182 one_11 ⟨rfl, rfl⟩ dX11_next_275 278 rfl ?_
            refine z_aload_n C 0 rfl 1 rfl dX11_next_278 279 rfl ?_
            refine z_iload_n C 1 rfl 0 rfl dX11_next_279 280 rfl ?_
            refine y_putI C fX11_179 one_11 ⟨rfl, rfl⟩ dX11_next_280 283 rfl ?_
            refine z_aload_n C 0 rfl 1 rfl dX11_next_283 284 rfl ?_
            refine z_dup C rfl dX11_next_284 285 rfl ?_
            refine y_getI C fX11_176 one_11 dX11_next_285 288 rfl ?_
            refine z_iconst C dX11_next_288 289 rfl ?_
            refine z_iadd C dX11_next_289 290 rfl ?_
            refine y_putI C fX11_176 one_11 ⟨rfl, rfl⟩ dX11_next_290 293 rfl ?_
            refine z_iload_n C 1 rfl 0 rfl dX11_next_293 294 rfl ?_
            refine z_bipush C (by decide) dX11_next_294 296 rfl ?_
            refine z_icmp_eq C dX11_next_296 334 (by decide) 299 rfl rfl (w32_id (a := 43) (by decide)) (fun _ => ?_) (fun _ => ?_)
            · exact z_vret C R rfl rfl dX11_next_334
            · refine z_iload_n C 1 rfl 0 rfl dX11_next_299 300 rfl ?_
              refine z_bipush C (by decide) dX11_next_300 302 rfl ?_
              refine z_icmp_eq C dX11_next_302 334 (by decide) 305 rfl rfl (w32_id (a := 45) (by decide)) (fun _ => ?_) (fun _ => ?_)
              · exact z_vret C R rfl rfl dX11_next_334
              · refine z_iload_n C 1 rfl 0 rfl dX11_next_305 306 rfl ?_
                refine z_bipush C (by decide) dX11_next_306 308 rfl ?_
                refine z_icmp_eq C dX11_next_308 334 (by decide) 311 rfl rfl (w32_id (a := 44) (by decide)) (fun _ => ?_) (fun _ => ?_)
                · exact z_vret C R rfl rfl dX11_next_334
                · refine z_iload_n C 1 rfl 0 rfl dX11_next_311 312 rfl ?_
                  refine z_bipush C (by decide) dX11_next_312 314 rfl ?_
                  refine z_icmp_eq C dX11_next_314 334 (by decide) 317 rfl rfl (w32_id (a := 60) (by decide)) (fun _ => ?_) (fun _ => ?_)
                  · exact z_vret C R rfl rfl dX11_next_334
                  · refine z_iload_n C 1 rfl 0 rfl dX11_next_317 318 rfl ?_
                    refine z_bipush C (by decide) dX11_next_318 320 rfl ?_
                    refine z_icmp_eq C dX11_next_320 334 (by decide) 323 rfl rfl (w32_id (a := 62) (by decide)) (fun _ => ?_) (fun _ => ?_)
                    · exact z_vret C R rfl rfl dX11_next_334
                    · refine z_iload_n C 1 rfl 0 rfl dX11_next_323 324 rfl ?_
                      refine z_bipush C (by decide) dX11_next_324 326 rfl ?_
                      refine z_icmp_eq C dX11_next_326 334 (by decide) 329 rfl rfl (w32_id (a := 59) (by decide)) (fun _ => ?_) (fun _ => ?_)
                      · exact z_vret C R rfl rfl dX11_next_334
                      · refine z_aload_n C 0 rfl 1 rfl dX11_next_329 330 rfl ?_
                        refine z_iconst C dX11_next_330 331 rfl ?_
                        refine y_callVv C hR (tX11_fails (mL X) G (up (up (up (up (up σ 143 13 (σ 143 12)) 143 15 0) 143 14 3) 143 15 r2) 143 12 (((up (up (up (up σ 143 13 (σ 143 12)) 143 15 0) 143 14 3) 143 15 r2) 143 12) + 1)) 1) ⟨mwX11_fails, mvX11_fails, lkX11_193⟩ one_11 rfl rfl (Nat.le_of_ble_eq_true rfl) (by unfold rmOK; decide) dX11_next_331 334 rfl (fun r5 _ => ?_)
                        exact z_vret C R rfl rfl dX11_next_334
          · refine z_lv (lv' := [(0, vr G 143)]) [1] rfl ?_
            exact pX11_next_L170 C R hR F F (up (up σ 143 13 (σ 143 12)) 143 15 0)
        · refine z_lv (lv' := [(0, vr G 143)]) [1] rfl ?_
          exact pX11_next_L84 C R hR F F (up (up σ 143 13 (σ 143 12)) 143 15 0)
      · refine z_aload_n C 0 rfl 1 rfl dX11_next_62 63 rfl ?_
        refine z_iconst C dX11_next_63 64 rfl ?_
        refine y_putI C fX11_182 one_11 ⟨rfl, rfl⟩ dX11_next_64 67 rfl ?_
        refine z_goto C dX11_next_67 334 (by decide) ?_
        exact z_vret C R rfl rfl dX11_next_334
    · refine z_aload_n C 0 rfl 0 rfl dX11_next_21 22 rfl ?_
      refine z_dup C rfl dX11_next_22 23 rfl ?_
      refine y_getI C fX11_176 one_11 dX11_next_23 26 rfl ?_
      refine z_iconst C dX11_next_26 27 rfl ?_
      refine z_iadd C dX11_next_27 28 rfl ?_
      refine y_putI C fX11_176 one_11 ⟨rfl, rfl⟩ dX11_next_28 31 rfl ?_
      refine z_goto C dX11_next_31 8 (by decide) ?_
      exact ih (up σ 143 12 ((σ 143 12) + 1))
set_option maxRecDepth 100000 in
set_option maxHeartbeats 4000000 in
theorem tX11_next (l : Launch) (G : GG) (F : Nat) (σ : St) : Ctr l G yX11_next cX11_next 2 none rmX11_next [vr G 143] (w0 σ) vzV wzV (gX11_next F σ) := by
  refine ctr_of (by decide) (Nat.le_of_ble_eq_true rfl) mwX11_next.1 (fun X hl hR C R hnm => ?_)
  subst hl
  refine z_lv (lv' := [(0, vr G 143)]) [0] rfl ?_
  show ZZ X G 2 (QM X G vzV wzV (0, 0)) (0, 0) (if w32 (σ 143 10) ≤ 0 then gX11_next_L8 F F σ else some σ) (w0 σ) 0 [(0, vr G 143)] []
  refine z_aload_n C 0 rfl 0 rfl dX11_next_0 1 rfl ?_
  refine y_getI C fX11_164 one_11 dX11_next_1 4 rfl ?_
  refine z_if_le C dX11_next_4 8 (by decide) 7 rfl rfl (fun _ => ?_) (fun _ => ?_)
  · exact pX11_next_L8 C R hR F F σ
  · exact z_vret C R rfl rfl dX11_next_7
-- isName
def gX11_isName (σ : St) (x1 : Int) : Option (Int) := if w32 (σ 143 14) ≠ 1 then some 0 else if w32 (σ 143 15) ≠ w32 x1 then some 0 else some 1
def rmX11_isName : Room := { frames := 0, cells := 0, slots := 0, locals := 0 }
set_option maxRecDepth 100000 in
set_option maxHeartbeats 4000000 in
theorem tX11_isName (l : Launch) (G : GG) (σ : St) (x1 : Int) : Ctr l G yX11_isName cX11_isName 2 (some .boolean) rmX11_isName [vr G 143, vi x1] (w0 σ) vzI (wzR σ) (gX11_isName σ x1) := by
  refine ctr_of (by decide) (Nat.le_of_ble_eq_true rfl) mwX11_isName.1 (fun X hl hR C R hnm => ?_)
  subst hl
  refine z_lv (lv' := [(0, vr G 143), (1, vi x1)]) [0, 1] rfl ?_
  show ZZ X G 2 (QM X G vzI (wzR σ) (0, 0)) (0, 0) (if w32 (σ 143 14) ≠ 1 then some 0 else if w32 (σ 143 15) ≠ w32 x1 then some 0 else some 1) (w0 σ) 0 [(0, vr G 143), (1, vi x1)] []
  refine z_aload_n C 0 rfl 0 rfl dX11_isName_0 1 rfl ?_
  refine y_getI C fX11_182 one_11 dX11_isName_1 4 rfl ?_
  refine z_iconst C dX11_isName_4 5 rfl ?_
  refine z_icmp_ne C dX11_isName_5 20 (by decide) 8 rfl rfl (w32_id (a := 1) (by decide)) (fun _ => ?_) (fun _ => ?_)
  · refine z_iconst C dX11_isName_20 21 rfl ?_
    exact z_zret C R nz0 rfl rfl dX11_isName_21
  · refine z_aload_n C 0 rfl 0 rfl dX11_isName_8 9 rfl ?_
    refine y_getI C fX11_179 one_11 dX11_isName_9 12 rfl ?_
    refine z_iload_n C 1 rfl 1 rfl dX11_isName_12 13 rfl ?_
    refine z_icmp_ne C dX11_isName_13 20 (by decide) 16 rfl rfl rfl (fun _ => ?_) (fun _ => ?_)
    · refine z_iconst C dX11_isName_20 21 rfl ?_
      exact z_zret C R nz0 rfl rfl dX11_isName_21
    · refine z_iconst C dX11_isName_16 17 rfl ?_
      refine z_goto C dX11_isName_17 21 (by decide) ?_
      exact z_zret C R nz1 rfl rfl dX11_isName_21
-- isSign
def gX11_isSign (σ : St) (x1 : Int) : Option (Int) := if w32 (σ 143 14) ≠ 3 then some 0 else if w32 (σ 143 15) ≠ w32 x1 then some 0 else some 1
def rmX11_isSign : Room := { frames := 0, cells := 0, slots := 0, locals := 0 }
set_option maxRecDepth 100000 in
set_option maxHeartbeats 4000000 in
theorem tX11_isSign (l : Launch) (G : GG) (σ : St) (x1 : Int) : Ctr l G yX11_isSign cX11_isSign 2 (some .boolean) rmX11_isSign [vr G 143, vi x1] (w0 σ) vzI (wzR σ) (gX11_isSign σ x1) := by
  refine ctr_of (by decide) (Nat.le_of_ble_eq_true rfl) mwX11_isSign.1 (fun X hl hR C R hnm => ?_)
  subst hl
  refine z_lv (lv' := [(0, vr G 143), (1, vi x1)]) [0, 1] rfl ?_
  show ZZ X G 2 (QM X G vzI (wzR σ) (0, 0)) (0, 0) (if w32 (σ 143 14) ≠ 3 then some 0 else if w32 (σ 143 15) ≠ w32 x1 then some 0 else some 1) (w0 σ) 0 [(0, vr G 143), (1, vi x1)] []
  refine z_aload_n C 0 rfl 0 rfl dX11_isSign_0 1 rfl ?_
  refine y_getI C fX11_182 one_11 dX11_isSign_1 4 rfl ?_
  refine z_iconst C dX11_isSign_4 5 rfl ?_
  refine z_icmp_ne C dX11_isSign_5 20 (by decide) 8 rfl rfl (w32_id (a := 3) (by decide)) (fun _ => ?_) (fun _ => ?_)
  · refine z_iconst C dX11_isSign_20 21 rfl ?_
    exact z_zret C R nz0 rfl rfl dX11_isSign_21
  · refine z_aload_n C 0 rfl 0 rfl dX11_isSign_8 9 rfl ?_
    refine y_getI C fX11_179 one_11 dX11_isSign_9 12 rfl ?_
    refine z_iload_n C 1 rfl 1 rfl dX11_isSign_12 13 rfl ?_
    refine z_icmp_ne C dX11_isSign_13 20 (by decide) 16 rfl rfl rfl (fun _ => ?_) (fun _ => ?_)
    · refine z_iconst C dX11_isSign_20 21 rfl ?_
      exact z_zret C R nz0 rfl rfl dX11_isSign_21
    · refine z_iconst C dX11_isSign_16 17 rfl ?_
      refine z_goto C dX11_isSign_17 21 (by decide) ?_
      exact z_zret C R nz1 rfl rfl dX11_isSign_21
-- isKey
def gX11_isKey (σ : St) : Option (Int) := if w32 (σ 143 14) ≠ 1 then some 0 else if w32 (σ 143 15) > 5 then some 0 else some 1
def rmX11_isKey : Room := { frames := 0, cells := 0, slots := 0, locals := 0 }
set_option maxRecDepth 100000 in
set_option maxHeartbeats 4000000 in
theorem tX11_isKey (l : Launch) (G : GG) (σ : St) : Ctr l G yX11_isKey cX11_isKey 1 (some .boolean) rmX11_isKey [vr G 143] (w0 σ) vzI (wzR σ) (gX11_isKey σ) := by
  refine ctr_of (by decide) (Nat.le_of_ble_eq_true rfl) mwX11_isKey.1 (fun X hl hR C R hnm => ?_)
  subst hl
  refine z_lv (lv' := [(0, vr G 143)]) [0] rfl ?_
  show ZZ X G 1 (QM X G vzI (wzR σ) (0, 0)) (0, 0) (if w32 (σ 143 14) ≠ 1 then some 0 else if w32 (σ 143 15) > 5 then some 0 else some 1) (w0 σ) 0 [(0, vr G 143)] []
  refine z_aload_n C 0 rfl 0 rfl dX11_isKey_0 1 rfl ?_
  refine y_getI C fX11_182 one_11 dX11_isKey_1 4 rfl ?_
  refine z_iconst C dX11_isKey_4 5 rfl ?_
  refine z_icmp_ne C dX11_isKey_5 20 (by decide) 8 rfl rfl (w32_id (a := 1) (by decide)) (fun _ => ?_) (fun _ => ?_)
  · refine z_iconst C dX11_isKey_20 21 rfl ?_
    exact z_zret C R nz0 rfl rfl dX11_isKey_21
  · refine z_aload_n C 0 rfl 0 rfl dX11_isKey_8 9 rfl ?_
    refine y_getI C fX11_179 one_11 dX11_isKey_9 12 rfl ?_
    refine z_iconst C dX11_isKey_12 13 rfl ?_
    refine z_icmp_gt C dX11_isKey_13 20 (by decide) 16 rfl rfl (w32_id (a := 5) (by decide)) (fun _ => ?_) (fun _ => ?_)
    · refine z_iconst C dX11_isKey_20 21 rfl ?_
      exact z_zret C R nz0 rfl rfl dX11_isKey_21
    · refine z_iconst C dX11_isKey_16 17 rfl ?_
      refine z_goto C dX11_isKey_17 21 (by decide) ?_
      exact z_zret C R nz1 rfl rfl dX11_isKey_21
-- key
def gX11_key_L147 (F : Nat) (s1 : Int) (s2 : Int) (s3 : Int) (σ : St) : Option (St) := gd (0 ≤ w32 s1 ∧ w32 s1 < 36) (gd (0 ≤ w32 ((up σ 151 (w32 s1) (s2 + s3)) 143 16) ∧ w32 ((up σ 151 (w32 s1) (s2 + s3)) 143 16) < 6) (gd (0 ≤ w32 ((up σ 151 (w32 s1) (s2 + s3)) 143 16) ∧ w32 ((up σ 151 (w32 s1) (s2 + s3)) 143 16) < 6) ((gX11_next F (up (up σ 151 (w32 s1) (s2 + s3)) 150 (w32 ((up σ 151 (w32 s1) (s2 + s3)) 143 16)) (((up σ 151 (w32 s1) (s2 + s3)) 150 (w32 ((up σ 151 (w32 s1) (s2 + s3)) 143 16))) + 1))).bind fun r1 => some r1)))
def gX11_key_L105 (F : Nat) (x1 : Int) (σ : St) : Option (St) := if w32 (σ 143 10) ≠ 0 then some σ else gd (0 ≤ w32 (σ 143 16) ∧ w32 (σ 143 16) < 6) (if w32 x1 = 0 then gX11_key_L147 F ((6 * (σ 143 16)) + (σ 150 (w32 (σ 143 16)))) (σ 143 15) 0 σ else gX11_key_L147 F ((6 * (σ 143 16)) + (σ 150 (w32 (σ 143 16)))) (σ 143 15) 10 σ)
def gX11_key_L99 (F : Nat) (c50 : Int → Int → St → Option (St)) (x1 : Int) (x2 : Int) (σ : St) : Option (St) := c50 x1 (x2 + 1) σ
def gX11_key_L50 (F : Nat) : Nat → Int → Int → St → Option (St)
  | 0, _, _, _ => none
  | n + 1, x1, x2, σ => gd (0 ≤ w32 (σ 143 16) ∧ w32 (σ 143 16) < 6) (if w32 x2 ≥ w32 (σ 150 (w32 (σ 143 16))) then gX11_key_L105 F x1 σ else if w32 (σ 143 10) ≠ 0 then gX11_key_L105 F x1 σ else gd (0 ≤ w32 ((6 * (σ 143 16)) + x2) ∧ w32 ((6 * (σ 143 16)) + x2) < 36) (gd (w32 10 ≠ 0) (if irm (σ 151 (w32 ((6 * (σ 143 16)) + x2))) 10 ≠ w32 (σ 143 15) then gX11_key_L99 F (gX11_key_L50 F n) x1 x2 σ else (gX11_fails σ 3).bind fun r1 => gX11_key_L99 F (gX11_key_L50 F n) x1 x2 r1)))
def gX11_key_L48 (F : Nat) (x1 : Int) (σ : St) : Option (St) := gX11_key_L50 F F x1 0 σ
def gX11_key_L25 (F : Nat) (x1 : Int) (σ : St) : Option (St) := (gX11_next F σ).bind fun r1 => if w32 (r1 143 10) ≠ 0 then gX11_key_L48 F x1 r1 else (gX11_isKey r1).bind fun r2 => if w32 r2 ≠ 0 then gX11_key_L48 F x1 r1 else (gX11_fails r1 2).bind fun r3 => gX11_key_L48 F x1 r3
def gX11_key (F : Nat) (σ : St) : Option (St) := (gX11_isSign σ 45).bind fun r1 => if w32 r1 ≠ 0 then gX11_key_L25 F r1 σ else (gX11_isSign σ 43).bind fun r2 => if w32 r2 ≠ 0 then gX11_key_L25 F r1 σ else (gX11_fails σ 2).bind fun r3 => gX11_key_L25 F r1 r3
def rmX11_key : Room := { frames := 3, cells := 0, slots := 0, locals := 67 }
set_option maxRecDepth 100000 in
set_option maxHeartbeats 4000000 in
theorem pX11_key_L147 {X : MX} {G : GG} (C : CX X G 3 cX11_key RX11) (R : RT X none) (hR : mR X = rmX11_key) (F : Nat)  : ∀ (s1 : Int) (s2 : Int) (s3 : Int) (σ : St), ZZ X G 3 (QM X G vzV wzV (0, 0)) (0, 0) (gX11_key_L147 F s1 s2 s3 σ) (w0 σ) 147 [(0, vr G 143)] [vi s3, vi s2, vi s1, vr G 151] := by
  intro s1 s2 s3 σ
  show ZZ X G 3 (QM X G vzV wzV (0, 0)) (0, 0) (gd (0 ≤ w32 s1 ∧ w32 s1 < 36) (gd (0 ≤ w32 ((up σ 151 (w32 s1) (s2 + s3)) 143 16) ∧ w32 ((up σ 151 (w32 s1) (s2 + s3)) 143 16) < 6) (gd (0 ≤ w32 ((up σ 151 (w32 s1) (s2 + s3)) 143 16) ∧ w32 ((up σ 151 (w32 s1) (s2 + s3)) 143 16) < 6) ((gX11_next F (up (up σ 151 (w32 s1) (s2 + s3)) 150 (w32 ((up σ 151 (w32 s1) (s2 + s3)) 143 16)) (((up σ 151 (w32 s1) (s2 + s3)) 150 (w32 ((up σ 151 (w32 s1) (s2 + s3)) 143 16))) + 1))).bind fun r1 => some r1)))) (w0 σ) 147 [(0, vr G 143)] [vi s3, vi s2, vi s1, vr G 151]
  refine z_iadd C dX11_key_147 148 rfl ?_
  refine y_iast C lay_11_18.2 rfl dX11_key_148 149 rfl rfl (fun _ => ?_)
  refine z_aload_n C 0 rfl 0 rfl dX11_key_149 150 rfl ?_
  refine y_getR C fX11_28 one_11 lay_11_17 dX11_key_150 153 rfl ?_
  refine z_aload_n C 0 rfl 0 rfl dX11_key_153 154 rfl ?_
  refine y_getI C fX11_211 one_11 dX11_key_154 157 rfl ?_
  refine z_dup2 C rfl rfl dX11_key_157 158 rfl ?_
  refine y_iald C lay_11_17.2 rfl dX11_key_158 159 rfl rfl (fun _ => ?_)
  refine z_iconst C dX11_key_159 160 rfl ?_
  refine z_iadd C dX11_key_160 161 rfl ?_
  refine y_iast C lay_11_17.2 rfl dX11_key_161 162 rfl rfl (fun _ => ?_)
  refine z_aload_n C 0 rfl 0 rfl dX11_key_162 163 rfl ?_
  refine y_callVv C hR (tX11_next (mL X) G F (up (up σ 151 (w32 s1) (s2 + s3)) 150 (w32 ((up σ 151 (w32 s1) (s2 + s3)) 143 16)) (((up σ 151 (w32 s1) (s2 + s3)) 150 (w32 ((up σ 151 (w32 s1) (s2 + s3)) 143 16))) + 1))) ⟨mwX11_next, mvX11_next, lkX11_204⟩ one_11 rfl rfl (Nat.le_of_ble_eq_true rfl) (by unfold rmOK; decide) dX11_key_163 166 rfl (fun r1 _ => ?_)
  exact z_vret C R rfl rfl dX11_key_166
set_option maxRecDepth 100000 in
set_option maxHeartbeats 4000000 in
theorem pX11_key_L105 {X : MX} {G : GG} (C : CX X G 3 cX11_key RX11) (R : RT X none) (hR : mR X = rmX11_key) (F : Nat)  : ∀ (x1 : Int) (σ : St), ZZ X G 3 (QM X G vzV wzV (0, 0)) (0, 0) (gX11_key_L105 F x1 σ) (w0 σ) 105 [(0, vr G 143), (1, vi x1)] [] := by
  intro x1 σ
  show ZZ X G 3 (QM X G vzV wzV (0, 0)) (0, 0) (if w32 (σ 143 10) ≠ 0 then some σ else gd (0 ≤ w32 (σ 143 16) ∧ w32 (σ 143 16) < 6) (if w32 x1 = 0 then gX11_key_L147 F ((6 * (σ 143 16)) + (σ 150 (w32 (σ 143 16)))) (σ 143 15) 0 σ else gX11_key_L147 F ((6 * (σ 143 16)) + (σ 150 (w32 (σ 143 16)))) (σ 143 15) 10 σ)) (w0 σ) 105 [(0, vr G 143), (1, vi x1)] []
  refine z_aload_n C 0 rfl 0 rfl dX11_key_105 106 rfl ?_
  refine y_getI C fX11_164 one_11 dX11_key_106 109 rfl ?_
  refine z_if_ne C dX11_key_109 166 (by decide) 112 rfl rfl (fun _ => ?_) (fun _ => ?_)
  · exact z_vret C R rfl rfl dX11_key_166
  · refine z_aload_n C 0 rfl 0 rfl dX11_key_112 113 rfl ?_
    refine y_getR C fX11_31 one_11 lay_11_18 dX11_key_113 116 rfl ?_
    refine z_bipush C (by decide) dX11_key_116 118 rfl ?_
    refine z_aload_n C 0 rfl 0 rfl dX11_key_118 119 rfl ?_
    refine y_getI C fX11_211 one_11 dX11_key_119 122 rfl ?_
    refine z_imul C dX11_key_122 123 rfl ?_
    refine z_aload_n C 0 rfl 0 rfl dX11_key_123 124 rfl ?_
    refine y_getR C fX11_28 one_11 lay_11_17 dX11_key_124 127 rfl ?_
    refine z_aload_n C 0 rfl 0 rfl dX11_key_127 128 rfl ?_
    refine y_getI C fX11_211 one_11 dX11_key_128 131 rfl ?_
    refine y_iald C lay_11_17.2 rfl dX11_key_131 132 rfl rfl (fun _ => ?_)
    refine z_iadd C dX11_key_132 133 rfl ?_
    refine z_aload_n C 0 rfl 0 rfl dX11_key_133 134 rfl ?_
    refine y_getI C fX11_179 one_11 dX11_key_134 137 rfl ?_
    refine z_iload_n C 1 rfl 1 rfl dX11_key_137 138 rfl ?_
    refine z_if_eq C dX11_key_138 146 (by decide) 141 rfl rfl (fun _ => ?_) (fun _ => ?_)
    · refine z_iconst C dX11_key_146 147 rfl ?_
      refine z_lv (lv' := [(0, vr G 143)]) [0] rfl ?_
      exact pX11_key_L147 C R hR F ((6 * (σ 143 16)) + (σ 150 (w32 (σ 143 16)))) (σ 143 15) 0 σ
    · refine z_bipush C (by decide) dX11_key_141 143 rfl ?_
      refine z_goto C dX11_key_143 147 (by decide) ?_
      refine z_lv (lv' := [(0, vr G 143)]) [0] rfl ?_
      exact pX11_key_L147 C R hR F ((6 * (σ 143 16)) + (σ 150 (w32 (σ 143 16)))) (σ 143 15) 10 σ
set_option maxRecDepth 100000 in
set_option maxHeartbeats 4000000 in
theorem pX11_key_L99 {X : MX} {G : GG} (C : CX X G 3 cX11_key RX11) (R : RT X none) (hR : mR X = rmX11_key) (F : Nat) (c50 : Int → Int → St → Option (St)) (hc50 : ∀ (x1 : Int) (x2 : Int) (σ : St), ZZ X G 3 (QM X G vzV wzV (0, 0)) (0, 0) (c50 x1 x2 σ) (w0 σ) 50 [(0, vr G 143), (1, vi x1), (2, vi x2)] []) : ∀ (x1 : Int) (x2 : Int) (σ : St), ZZ X G 3 (QM X G vzV wzV (0, 0)) (0, 0) (gX11_key_L99 F c50 x1 x2 σ) (w0 σ) 99 [(0, vr G 143), (1, vi x1), (2, vi x2)] [] := by
  intro x1 x2 σ
  show ZZ X G 3 (QM X G vzV wzV (0, 0)) (0, 0) (c50 x1 (x2 + 1) σ) (w0 σ) 99 [(0, vr G 143), (1, vi x1), (2, vi x2)] []
  refine z_iinc (lv' := [(2, vi (x2 + 1)), (0, vr G 143), (1, vi x1)]) C (by decide) 2 rfl dX11_key_99 102 rfl rfl ?_
  refine z_goto C dX11_key_102 50 (by decide) ?_
  refine z_lv (lv' := [(0, vr G 143), (1, vi x1), (2, vi (x2 + 1))]) [1, 2, 0] rfl ?_
  exact hc50 x1 (x2 + 1) σ
set_option maxRecDepth 100000 in
set_option maxHeartbeats 4000000 in
theorem pX11_key_L50 {X : MX} {G : GG} (C : CX X G 3 cX11_key RX11) (R : RT X none) (hR : mR X = rmX11_key) (F : Nat)  : ∀ (n : Nat) (x1 : Int) (x2 : Int) (σ : St), ZZ X G 3 (QM X G vzV wzV (0, 0)) (0, 0) (gX11_key_L50 F n x1 x2 σ) (w0 σ) 50 [(0, vr G 143), (1, vi x1), (2, vi x2)] [] := by
  intro n
  induction n with
  | zero =>
    intro _ _ _
    exact z_none
  | succ n ih =>
    intro x1 x2 σ
    show ZZ X G 3 (QM X G vzV wzV (0, 0)) (0, 0) (gd (0 ≤ w32 (σ 143 16) ∧ w32 (σ 143 16) < 6) (if w32 x2 ≥ w32 (σ 150 (w32 (σ 143 16))) then gX11_key_L105 F x1 σ else if w32 (σ 143 10) ≠ 0 then gX11_key_L105 F x1 σ else gd (0 ≤ w32 ((6 * (σ 143 16)) + x2) ∧ w32 ((6 * (σ 143 16)) + x2) < 36) (gd (w32 10 ≠ 0) (if irm (σ 151 (w32 ((6 * (σ 143 16)) + x2))) 10 ≠ w32 (σ 143 15) then gX11_key_L99 F (gX11_key_L50 F n) x1 x2 σ else (gX11_fails σ 3).bind fun r1 => gX11_key_L99 F (gX11_key_L50 F n) x1 x2 r1)))) (w0 σ) 50 [(0, vr G 143), (1, vi x1), (2, vi x2)] []
    refine z_iload_n C 2 rfl 2 rfl dX11_key_50 51 rfl ?_
    refine z_aload_n C 0 rfl 0 rfl dX11_key_51 52 rfl ?_
    refine y_getR C fX11_28 one_11 lay_11_17 dX11_key_52 55 rfl ?_
    refine z_aload_n C 0 rfl 0 rfl dX11_key_55 56 rfl ?_
    refine y_getI C fX11_211 one_11 dX11_key_56 59 rfl ?_
    refine y_iald C lay_11_17.2 rfl dX11_key_59 60 rfl rfl (fun _ => ?_)
    refine z_icmp_ge C dX11_key_60 105 (by decide) 63 rfl rfl rfl (fun _ => ?_) (fun _ => ?_)
    · refine z_lv (lv' := [(0, vr G 143), (1, vi x1)]) [0, 1] rfl ?_
      exact pX11_key_L105 C R hR F x1 σ
    · refine z_aload_n C 0 rfl 0 rfl dX11_key_63 64 rfl ?_
      refine y_getI C fX11_164 one_11 dX11_key_64 67 rfl ?_
      refine z_if_ne C dX11_key_67 105 (by decide) 70 rfl rfl (fun _ => ?_) (fun _ => ?_)
      · refine z_lv (lv' := [(0, vr G 143), (1, vi x1)]) [0, 1] rfl ?_
        exact pX11_key_L105 C R hR F x1 σ
      · refine z_aload_n C 0 rfl 0 rfl dX11_key_70 71 rfl ?_
        refine y_getR C fX11_31 one_11 lay_11_18 dX11_key_71 74 rfl ?_
        refine z_bipush C (by decide) dX11_key_74 76 rfl ?_
        refine z_aload_n C 0 rfl 0 rfl dX11_key_76 77 rfl ?_
        refine y_getI C fX11_211 one_11 dX11_key_77 80 rfl ?_
        refine z_imul C dX11_key_80 81 rfl ?_
        refine z_iload_n C 2 rfl 2 rfl dX11_key_81 82 rfl ?_
        refine z_iadd C dX11_key_82 83 rfl ?_
        refine y_iald C lay_11_18.2 rfl dX11_key_83 84 rfl rfl (fun _ => ?_)
        refine z_bipush C (by decide) dX11_key_84 86 rfl ?_
        refine z_irem C dX11_key_86 87 rfl ?_
        refine z_aload_n C 0 rfl 0 rfl dX11_key_87 88 rfl ?_
        refine y_getI C fX11_179 one_11 dX11_key_88 91 rfl ?_
        refine z_icmp_ne C dX11_key_91 99 (by decide) 94 rfl (w32_irm _ _) rfl (fun _ => ?_) (fun _ => ?_)
        · exact pX11_key_L99 C R hR F (gX11_key_L50 F n) ih x1 x2 σ
        · refine z_aload_n C 0 rfl 0 rfl dX11_key_94 95 rfl ?_
          refine z_iconst C dX11_key_95 96 rfl ?_
          refine y_callVv C hR (tX11_fails (mL X) G σ 3) ⟨mwX11_fails, mvX11_fails, lkX11_193⟩ one_11 rfl rfl (Nat.le_of_ble_eq_true rfl) (by unfold rmOK; decide) dX11_key_96 99 rfl (fun r1 _ => ?_)
          exact pX11_key_L99 C R hR F (gX11_key_L50 F n) ih x1 x2 r1
set_option maxRecDepth 100000 in
set_option maxHeartbeats 4000000 in
theorem pX11_key_L48 {X : MX} {G : GG} (C : CX X G 3 cX11_key RX11) (R : RT X none) (hR : mR X = rmX11_key) (F : Nat)  : ∀ (x1 : Int) (σ : St), ZZ X G 3 (QM X G vzV wzV (0, 0)) (0, 0) (gX11_key_L48 F x1 σ) (w0 σ) 48 [(0, vr G 143), (1, vi x1)] [] := by
  intro x1 σ
  show ZZ X G 3 (QM X G vzV wzV (0, 0)) (0, 0) (gX11_key_L50 F F x1 0 σ) (w0 σ) 48 [(0, vr G 143), (1, vi x1)] []
  refine z_iconst C dX11_key_48 49 rfl ?_
  refine z_istore_n (lv' := [(2, vi 0), (0, vr G 143), (1, vi x1)]) C 2 rfl (by decide) dX11_key_49 50 rfl rfl ?_
  refine z_lv (lv' := [(0, vr G 143), (1, vi x1), (2, vi 0)]) [1, 2, 0] rfl ?_
  exact pX11_key_L50 C R hR F F x1 0 σ
set_option maxRecDepth 100000 in
set_option maxHeartbeats 4000000 in
theorem pX11_key_L25 {X : MX} {G : GG} (C : CX X G 3 cX11_key RX11) (R : RT X none) (hR : mR X = rmX11_key) (F : Nat)  : ∀ (x1 : Int) (σ : St), ZZ X G 3 (QM X G vzV wzV (0, 0)) (0, 0) (gX11_key_L25 F x1 σ) (w0 σ) 25 [(0, vr G 143), (1, vi x1)] [] := by
  intro x1 σ
  show ZZ X G 3 (QM X G vzV wzV (0, 0)) (0, 0) ((gX11_next F σ).bind fun r1 => if w32 (r1 143 10) ≠ 0 then gX11_key_L48 F x1 r1 else (gX11_isKey r1).bind fun r2 => if w32 r2 ≠ 0 then gX11_key_L48 F x1 r1 else (gX11_fails r1 2).bind fun r3 => gX11_key_L48 F x1 r3) (w0 σ) 25 [(0, vr G 143), (1, vi x1)] []
  refine z_aload_n C 0 rfl 0 rfl dX11_key_25 26 rfl ?_
  refine y_callVv C hR (tX11_next (mL X) G F σ) ⟨mwX11_next, mvX11_next, lkX11_204⟩ one_11 rfl rfl (Nat.le_of_ble_eq_true rfl) (by unfold rmOK; decide) dX11_key_26 29 rfl (fun r1 _ => ?_)
  refine z_aload_n C 0 rfl 0 rfl dX11_key_29 30 rfl ?_
  refine y_getI C fX11_164 one_11 dX11_key_30 33 rfl ?_
  refine z_if_ne C dX11_key_33 48 (by decide) 36 rfl rfl (fun _ => ?_) (fun _ => ?_)
  · exact pX11_key_L48 C R hR F x1 r1
  · refine z_aload_n C 0 rfl 0 rfl dX11_key_36 37 rfl ?_
    refine y_callVI C hR (tX11_isKey (mL X) G r1) ⟨mwX11_isKey, mvX11_isKey, lkX11_207⟩ one_11 rfl rfl (Nat.le_of_ble_eq_true rfl) (by unfold rmOK; decide) dX11_key_37 40 rfl (fun r2 _ => ?_)
    refine z_if_ne C dX11_key_40 48 (by decide) 43 rfl rfl (fun _ => ?_) (fun _ => ?_)
    · exact pX11_key_L48 C R hR F x1 r1
    · refine z_aload_n C 0 rfl 0 rfl dX11_key_43 44 rfl ?_
      refine z_iconst C dX11_key_44 45 rfl ?_
      refine y_callVv C hR (tX11_fails (mL X) G r1 2) ⟨mwX11_fails, mvX11_fails, lkX11_193⟩ one_11 rfl rfl (Nat.le_of_ble_eq_true rfl) (by unfold rmOK; decide) dX11_key_45 48 rfl (fun r3 _ => ?_)
      exact pX11_key_L48 C R hR F x1 r3
set_option maxRecDepth 100000 in
set_option maxHeartbeats 4000000 in
theorem tX11_key (l : Launch) (G : GG) (F : Nat) (σ : St) : Ctr l G yX11_key cX11_key 3 none rmX11_key [vr G 143] (w0 σ) vzV wzV (gX11_key F σ) := by
  refine ctr_of (by decide) (Nat.le_of_ble_eq_true rfl) mwX11_key.1 (fun X hl hR C R hnm => ?_)
  subst hl
  refine z_lv (lv' := [(0, vr G 143)]) [0] rfl ?_
  show ZZ X G 3 (QM X G vzV wzV (0, 0)) (0, 0) ((gX11_isSign σ 45).bind fun r1 => if w32 r1 ≠ 0 then gX11_key_L25 F r1 σ else (gX11_isSign σ 43).bind fun r2 => if w32 r2 ≠ 0 then gX11_key_L25 F r1 σ else (gX11_fails σ 2).bind fun r3 => gX11_key_L25 F r1 r3) (w0 σ) 0 [(0, vr G 143)] []
  refine z_aload_n C 0 rfl 0 rfl dX11_key_0 1 rfl ?_
  refine z_bipush C (by decide) dX11_key_1 3 rfl ?_
  refine y_callVI C hR (tX11_isSign (mL X) G σ 45) ⟨mwX11_isSign, mvX11_isSign, lkX11_201⟩ one_11 rfl rfl (Nat.le_of_ble_eq_true rfl) (by unfold rmOK; decide) dX11_key_3 6 rfl (fun r1 _ => ?_)
  refine z_istore_n (lv' := [(1, vi r1), (0, vr G 143)]) C 1 rfl (by decide) dX11_key_6 7 rfl rfl ?_
  refine z_iload_n C 1 rfl 0 rfl dX11_key_7 8 rfl ?_
  refine z_if_ne C dX11_key_8 25 (by decide) 11 rfl rfl (fun _ => ?_) (fun _ => ?_)
  · refine z_lv (lv' := [(0, vr G 143), (1, vi r1)]) [1, 0] rfl ?_
    exact pX11_key_L25 C R hR F r1 σ
  · refine z_aload_n C 0 rfl 1 rfl dX11_key_11 12 rfl ?_
    refine z_bipush C (by decide) dX11_key_12 14 rfl ?_
    refine y_callVI C hR (tX11_isSign (mL X) G σ 43) ⟨mwX11_isSign, mvX11_isSign, lkX11_201⟩ one_11 rfl rfl (Nat.le_of_ble_eq_true rfl) (by unfold rmOK; decide) dX11_key_14 17 rfl (fun r2 _ => ?_)
    refine z_if_ne C dX11_key_17 25 (by decide) 20 rfl rfl (fun _ => ?_) (fun _ => ?_)
    · refine z_lv (lv' := [(0, vr G 143), (1, vi r1)]) [1, 0] rfl ?_
      exact pX11_key_L25 C R hR F r1 σ
    · refine z_aload_n C 0 rfl 1 rfl dX11_key_20 21 rfl ?_
      refine z_iconst C dX11_key_21 22 rfl ?_
      refine y_callVv C hR (tX11_fails (mL X) G σ 2) ⟨mwX11_fails, mvX11_fails, lkX11_193⟩ one_11 rfl rfl (Nat.le_of_ble_eq_true rfl) (by unfold rmOK; decide) dX11_key_22 25 rfl (fun r3 _ => ?_)
      refine z_lv (lv' := [(0, vr G 143), (1, vi r1)]) [1, 0] rfl ?_
      exact pX11_key_L25 C R hR F r1 r3
-- test
def gX11_test_L147 (F : Nat) (x1 : Int) (σ : St) : Option (St) := gd (0 ≤ w32 x1 ∧ w32 x1 < 24) (gd (0 ≤ w32 ((up σ 155 (w32 x1) (σ 143 15)) 143 16) ∧ w32 ((up σ 155 (w32 x1) (σ 143 15)) 143 16) < 6) (gd (0 ≤ w32 ((up σ 155 (w32 x1) (σ 143 15)) 143 16) ∧ w32 ((up σ 155 (w32 x1) (σ 143 15)) 143 16) < 6) ((gX11_next F (up (up σ 155 (w32 x1) (σ 143 15)) 152 (w32 ((up σ 155 (w32 x1) (σ 143 15)) 143 16)) (((up σ 155 (w32 x1) (σ 143 15)) 152 (w32 ((up σ 155 (w32 x1) (σ 143 15)) 143 16))) + 1))).bind fun r1 => some r1)))
def gX11_test_L113 (F : Nat) (x1 : Int) (σ : St) : Option (St) := gd (0 ≤ w32 x1 ∧ w32 x1 < 24) ((gX11_next F (up σ 154 (w32 x1) (σ 143 15))).bind fun r1 => if w32 (r1 143 10) ≠ 0 then gX11_test_L147 F x1 r1 else if w32 (r1 143 14) = 2 then gX11_test_L147 F x1 r1 else (gX11_fails r1 2).bind fun r2 => gX11_test_L147 F x1 r2)
def gX11_test_L44 (F : Nat) (σ : St) : Option (St) := if w32 (σ 143 10) ≤ 0 then gd (0 ≤ w32 (σ 143 16) ∧ w32 (σ 143 16) < 6) (gd (0 ≤ w32 ((4 * (σ 143 16)) + (σ 152 (w32 (σ 143 16)))) ∧ w32 ((4 * (σ 143 16)) + (σ 152 (w32 (σ 143 16)))) < 24) ((gX11_next F (up σ 153 (w32 ((4 * (σ 143 16)) + (σ 152 (w32 (σ 143 16))))) (σ 143 15))).bind fun r1 => if w32 (r1 143 10) ≠ 0 then gX11_test_L113 F ((4 * (σ 143 16)) + (σ 152 (w32 (σ 143 16)))) r1 else (gX11_isSign r1 60).bind fun r2 => if w32 r2 ≠ 0 then gX11_test_L113 F ((4 * (σ 143 16)) + (σ 152 (w32 (σ 143 16)))) r1 else (gX11_isSign r1 62).bind fun r3 => if w32 r3 ≠ 0 then gX11_test_L113 F ((4 * (σ 143 16)) + (σ 152 (w32 (σ 143 16)))) r1 else (gX11_fails r1 2).bind fun r4 => gX11_test_L113 F ((4 * (σ 143 16)) + (σ 152 (w32 (σ 143 16)))) r4)) else some σ
def gX11_test_L19 (F : Nat) (σ : St) : Option (St) := if w32 (σ 143 10) ≠ 0 then gX11_test_L44 F σ else gd (0 ≤ w32 (σ 143 16) ∧ w32 (σ 143 16) < 6) (if w32 (σ 152 (w32 (σ 143 16))) ≠ 4 then gX11_test_L44 F σ else (gX11_fails σ 4).bind fun r1 => gX11_test_L44 F r1)
def gX11_test (F : Nat) (σ : St) : Option (St) := if w32 (σ 143 10) ≠ 0 then gX11_test_L19 F σ else (gX11_isKey σ).bind fun r1 => if w32 r1 ≠ 0 then gX11_test_L19 F σ else (gX11_fails σ 2).bind fun r2 => gX11_test_L19 F r2
def rmX11_test : Room := { frames := 3, cells := 0, slots := 0, locals := 67 }
set_option maxRecDepth 100000 in
set_option maxHeartbeats 4000000 in
theorem pX11_test_L147 {X : MX} {G : GG} (C : CX X G 2 cX11_test RX11) (R : RT X none) (hR : mR X = rmX11_test) (F : Nat)  : ∀ (x1 : Int) (σ : St), ZZ X G 2 (QM X G vzV wzV (0, 0)) (0, 0) (gX11_test_L147 F x1 σ) (w0 σ) 147 [(0, vr G 143), (1, vi x1)] [] := by
  intro x1 σ
  show ZZ X G 2 (QM X G vzV wzV (0, 0)) (0, 0) (gd (0 ≤ w32 x1 ∧ w32 x1 < 24) (gd (0 ≤ w32 ((up σ 155 (w32 x1) (σ 143 15)) 143 16) ∧ w32 ((up σ 155 (w32 x1) (σ 143 15)) 143 16) < 6) (gd (0 ≤ w32 ((up σ 155 (w32 x1) (σ 143 15)) 143 16) ∧ w32 ((up σ 155 (w32 x1) (σ 143 15)) 143 16) < 6) ((gX11_next F (up (up σ 155 (w32 x1) (σ 143 15)) 152 (w32 ((up σ 155 (w32 x1) (σ 143 15)) 143 16)) (((up σ 155 (w32 x1) (σ 143 15)) 152 (w32 ((up σ 155 (w32 x1) (σ 143 15)) 143 16))) + 1))).bind fun r1 => some r1)))) (w0 σ) 147 [(0, vr G 143), (1, vi x1)] []
  refine z_aload_n C 0 rfl 0 rfl dX11_test_147 148 rfl ?_
  refine y_getR C fX11_43 one_11 lay_11_22 dX11_test_148 151 rfl ?_
  refine z_iload_n C 1 rfl 1 rfl dX11_test_151 152 rfl ?_
  refine z_aload_n C 0 rfl 0 rfl dX11_test_152 153 rfl ?_
  refine y_getI C fX11_179 one_11 dX11_test_153 156 rfl ?_
  refine y_iast C lay_11_22.2 rfl dX11_test_156 157 rfl rfl (fun _ => ?_)
  refine z_aload_n C 0 rfl 0 rfl dX11_test_157 158 rfl ?_
  refine y_getR C fX11_34 one_11 lay_11_19 dX11_test_158 161 rfl ?_
  refine z_aload_n C 0 rfl 0 rfl dX11_test_161 162 rfl ?_
  refine y_getI C fX11_211 one_11 dX11_test_162 165 rfl ?_
  refine z_dup2 C rfl rfl dX11_test_165 166 rfl ?_
  refine y_iald C lay_11_19.2 rfl dX11_test_166 167 rfl rfl (fun _ => ?_)
  refine z_iconst C dX11_test_167 168 rfl ?_
  refine z_iadd C dX11_test_168 169 rfl ?_
  refine y_iast C lay_11_19.2 rfl dX11_test_169 170 rfl rfl (fun _ => ?_)
  refine z_aload_n C 0 rfl 0 rfl dX11_test_170 171 rfl ?_
  refine y_callVv C hR (tX11_next (mL X) G F (up (up σ 155 (w32 x1) (σ 143 15)) 152 (w32 ((up σ 155 (w32 x1) (σ 143 15)) 143 16)) (((up σ 155 (w32 x1) (σ 143 15)) 152 (w32 ((up σ 155 (w32 x1) (σ 143 15)) 143 16))) + 1))) ⟨mwX11_next, mvX11_next, lkX11_204⟩ one_11 rfl rfl (Nat.le_of_ble_eq_true rfl) (by unfold rmOK; decide) dX11_test_171 174 rfl (fun r1 _ => ?_)
  exact z_vret C R rfl rfl dX11_test_174
set_option maxRecDepth 100000 in
set_option maxHeartbeats 4000000 in
theorem pX11_test_L113 {X : MX} {G : GG} (C : CX X G 2 cX11_test RX11) (R : RT X none) (hR : mR X = rmX11_test) (F : Nat)  : ∀ (x1 : Int) (σ : St), ZZ X G 2 (QM X G vzV wzV (0, 0)) (0, 0) (gX11_test_L113 F x1 σ) (w0 σ) 113 [(0, vr G 143), (1, vi x1)] [] := by
  intro x1 σ
  show ZZ X G 2 (QM X G vzV wzV (0, 0)) (0, 0) (gd (0 ≤ w32 x1 ∧ w32 x1 < 24) ((gX11_next F (up σ 154 (w32 x1) (σ 143 15))).bind fun r1 => if w32 (r1 143 10) ≠ 0 then gX11_test_L147 F x1 r1 else if w32 (r1 143 14) = 2 then gX11_test_L147 F x1 r1 else (gX11_fails r1 2).bind fun r2 => gX11_test_L147 F x1 r2)) (w0 σ) 113 [(0, vr G 143), (1, vi x1)] []
  refine z_aload_n C 0 rfl 0 rfl dX11_test_113 114 rfl ?_
  refine y_getR C fX11_40 one_11 lay_11_21 dX11_test_114 117 rfl ?_
  refine z_iload_n C 1 rfl 1 rfl dX11_test_117 118 rfl ?_
  refine z_aload_n C 0 rfl 0 rfl dX11_test_118 119 rfl ?_
  refine y_getI C fX11_179 one_11 dX11_test_119 122 rfl ?_
  refine y_iast C lay_11_21.2 rfl dX11_test_122 123 rfl rfl (fun _ => ?_)
  refine z_aload_n C 0 rfl 0 rfl dX11_test_123 124 rfl ?_
  refine y_callVv C hR (tX11_next (mL X) G F (up σ 154 (w32 x1) (σ 143 15))) ⟨mwX11_next, mvX11_next, lkX11_204⟩ one_11 rfl rfl (Nat.le_of_ble_eq_true rfl) (by unfold rmOK; decide) dX11_test_124 127 rfl (fun r1 _ => ?_)
  refine z_aload_n C 0 rfl 0 rfl dX11_test_127 128 rfl ?_
  refine y_getI C fX11_164 one_11 dX11_test_128 131 rfl ?_
  refine z_if_ne C dX11_test_131 147 (by decide) 134 rfl rfl (fun _ => ?_) (fun _ => ?_)
  · exact pX11_test_L147 C R hR F x1 r1
  · refine z_aload_n C 0 rfl 0 rfl dX11_test_134 135 rfl ?_
    refine y_getI C fX11_182 one_11 dX11_test_135 138 rfl ?_
    refine z_iconst C dX11_test_138 139 rfl ?_
    refine z_icmp_eq C dX11_test_139 147 (by decide) 142 rfl rfl (w32_id (a := 2) (by decide)) (fun _ => ?_) (fun _ => ?_)
    · exact pX11_test_L147 C R hR F x1 r1
    · refine z_aload_n C 0 rfl 0 rfl dX11_test_142 143 rfl ?_
      refine z_iconst C dX11_test_143 144 rfl ?_
      refine y_callVv C hR (tX11_fails (mL X) G r1 2) ⟨mwX11_fails, mvX11_fails, lkX11_193⟩ one_11 rfl rfl (Nat.le_of_ble_eq_true rfl) (by unfold rmOK; decide) dX11_test_144 147 rfl (fun r2 _ => ?_)
      exact pX11_test_L147 C R hR F x1 r2
set_option maxRecDepth 100000 in
set_option maxHeartbeats 4000000 in
theorem pX11_test_L44 {X : MX} {G : GG} (C : CX X G 2 cX11_test RX11) (R : RT X none) (hR : mR X = rmX11_test) (F : Nat)  : ∀ (σ : St), ZZ X G 2 (QM X G vzV wzV (0, 0)) (0, 0) (gX11_test_L44 F σ) (w0 σ) 44 [(0, vr G 143)] [] := by
  intro σ
  show ZZ X G 2 (QM X G vzV wzV (0, 0)) (0, 0) (if w32 (σ 143 10) ≤ 0 then gd (0 ≤ w32 (σ 143 16) ∧ w32 (σ 143 16) < 6) (gd (0 ≤ w32 ((4 * (σ 143 16)) + (σ 152 (w32 (σ 143 16)))) ∧ w32 ((4 * (σ 143 16)) + (σ 152 (w32 (σ 143 16)))) < 24) ((gX11_next F (up σ 153 (w32 ((4 * (σ 143 16)) + (σ 152 (w32 (σ 143 16))))) (σ 143 15))).bind fun r1 => if w32 (r1 143 10) ≠ 0 then gX11_test_L113 F ((4 * (σ 143 16)) + (σ 152 (w32 (σ 143 16)))) r1 else (gX11_isSign r1 60).bind fun r2 => if w32 r2 ≠ 0 then gX11_test_L113 F ((4 * (σ 143 16)) + (σ 152 (w32 (σ 143 16)))) r1 else (gX11_isSign r1 62).bind fun r3 => if w32 r3 ≠ 0 then gX11_test_L113 F ((4 * (σ 143 16)) + (σ 152 (w32 (σ 143 16)))) r1 else (gX11_fails r1 2).bind fun r4 => gX11_test_L113 F ((4 * (σ 143 16)) + (σ 152 (w32 (σ 143 16)))) r4)) else some σ) (w0 σ) 44 [(0, vr G 143)] []
  refine z_aload_n C 0 rfl 0 rfl dX11_test_44 45 rfl ?_
  refine y_getI C fX11_164 one_11 dX11_test_45 48 rfl ?_
  refine z_if_le C dX11_test_48 52 (by decide) 51 rfl rfl (fun _ => ?_) (fun _ => ?_)
  · refine z_iconst C dX11_test_52 53 rfl ?_
    refine z_aload_n C 0 rfl 0 rfl dX11_test_53 54 rfl ?_
    refine y_getI C fX11_211 one_11 dX11_test_54 57 rfl ?_
    refine z_imul C dX11_test_57 58 rfl ?_
    refine z_aload_n C 0 rfl 0 rfl dX11_test_58 59 rfl ?_
    refine y_getR C fX11_34 one_11 lay_11_19 dX11_test_59 62 rfl ?_
    refine z_aload_n C 0 rfl 0 rfl dX11_test_62 63 rfl ?_
    refine y_getI C fX11_211 one_11 dX11_test_63 66 rfl ?_
    refine y_iald C lay_11_19.2 rfl dX11_test_66 67 rfl rfl (fun _ => ?_)
    refine z_iadd C dX11_test_67 68 rfl ?_
    refine z_istore_n (lv' := [(1, vi ((4 * (σ 143 16)) + (σ 152 (w32 (σ 143 16))))), (0, vr G 143)]) C 1 rfl (by decide) dX11_test_68 69 rfl rfl ?_
    refine z_aload_n C 0 rfl 1 rfl dX11_test_69 70 rfl ?_
    refine y_getR C fX11_37 one_11 lay_11_20 dX11_test_70 73 rfl ?_
    refine z_iload_n C 1 rfl 0 rfl dX11_test_73 74 rfl ?_
    refine z_aload_n C 0 rfl 1 rfl dX11_test_74 75 rfl ?_
    refine y_getI C fX11_179 one_11 dX11_test_75 78 rfl ?_
    refine y_iast C lay_11_20.2 rfl dX11_test_78 79 rfl rfl (fun _ => ?_)
    refine z_aload_n C 0 rfl 1 rfl dX11_test_79 80 rfl ?_
    refine y_callVv C hR (tX11_next (mL X) G F (up σ 153 (w32 ((4 * (σ 143 16)) + (σ 152 (w32 (σ 143 16))))) (σ 143 15))) ⟨mwX11_next, mvX11_next, lkX11_204⟩ one_11 rfl rfl (Nat.le_of_ble_eq_true rfl) (by unfold rmOK; decide) dX11_test_80 83 rfl (fun r1 _ => ?_)
    refine z_aload_n C 0 rfl 1 rfl dX11_test_83 84 rfl ?_
    refine y_getI C fX11_164 one_11 dX11_test_84 87 rfl ?_
    refine z_if_ne C dX11_test_87 113 (by decide) 90 rfl rfl (fun _ => ?_) (fun _ => ?_)
    · refine z_lv (lv' := [(0, vr G 143), (1, vi ((4 * (σ 143 16)) + (σ 152 (w32 (σ 143 16)))))]) [1, 0] rfl ?_
      exact pX11_test_L113 C R hR F ((4 * (σ 143 16)) + (σ 152 (w32 (σ 143 16)))) r1
    · refine z_aload_n C 0 rfl 1 rfl dX11_test_90 91 rfl ?_
      refine z_bipush C (by decide) dX11_test_91 93 rfl ?_
      refine y_callVI C hR (tX11_isSign (mL X) G r1 60) ⟨mwX11_isSign, mvX11_isSign, lkX11_201⟩ one_11 rfl rfl (Nat.le_of_ble_eq_true rfl) (by unfold rmOK; decide) dX11_test_93 96 rfl (fun r2 _ => ?_)
      refine z_if_ne C dX11_test_96 113 (by decide) 99 rfl rfl (fun _ => ?_) (fun _ => ?_)
      · refine z_lv (lv' := [(0, vr G 143), (1, vi ((4 * (σ 143 16)) + (σ 152 (w32 (σ 143 16)))))]) [1, 0] rfl ?_
        exact pX11_test_L113 C R hR F ((4 * (σ 143 16)) + (σ 152 (w32 (σ 143 16)))) r1
      · refine z_aload_n C 0 rfl 1 rfl dX11_test_99 100 rfl ?_
        refine z_bipush C (by decide) dX11_test_100 102 rfl ?_
        refine y_callVI C hR (tX11_isSign (mL X) G r1 62) ⟨mwX11_isSign, mvX11_isSign, lkX11_201⟩ one_11 rfl rfl (Nat.le_of_ble_eq_true rfl) (by unfold rmOK; decide) dX11_test_102 105 rfl (fun r3 _ => ?_)
        refine z_if_ne C dX11_test_105 113 (by decide) 108 rfl rfl (fun _ => ?_) (fun _ => ?_)
        · refine z_lv (lv' := [(0, vr G 143), (1, vi ((4 * (σ 143 16)) + (σ 152 (w32 (σ 143 16)))))]) [1, 0] rfl ?_
          exact pX11_test_L113 C R hR F ((4 * (σ 143 16)) + (σ 152 (w32 (σ 143 16)))) r1
        · refine z_aload_n C 0 rfl 1 rfl dX11_test_108 109 rfl ?_
          refine z_iconst C dX11_test_109 110 rfl ?_
          refine y_callVv C hR (tX11_fails (mL X) G r1 2) ⟨mwX11_fails, mvX11_fails, lkX11_193⟩ one_11 rfl rfl (Nat.le_of_ble_eq_true rfl) (by unfold rmOK; decide) dX11_test_110 113 rfl (fun r4 _ => ?_)
          refine z_lv (lv' := [(0, vr G 143), (1, vi ((4 * (σ 143 16)) + (σ 152 (w32 (σ 143 16)))))]) [1, 0] rfl ?_
          exact pX11_test_L113 C R hR F ((4 * (σ 143 16)) + (σ 152 (w32 (σ 143 16)))) r4
  · exact z_vret C R rfl rfl dX11_test_51
set_option maxRecDepth 100000 in
set_option maxHeartbeats 4000000 in
theorem pX11_test_L19 {X : MX} {G : GG} (C : CX X G 2 cX11_test RX11) (R : RT X none) (hR : mR X = rmX11_test) (F : Nat)  : ∀ (σ : St), ZZ X G 2 (QM X G vzV wzV (0, 0)) (0, 0) (gX11_test_L19 F σ) (w0 σ) 19 [(0, vr G 143)] [] := by
  intro σ
  show ZZ X G 2 (QM X G vzV wzV (0, 0)) (0, 0) (if w32 (σ 143 10) ≠ 0 then gX11_test_L44 F σ else gd (0 ≤ w32 (σ 143 16) ∧ w32 (σ 143 16) < 6) (if w32 (σ 152 (w32 (σ 143 16))) ≠ 4 then gX11_test_L44 F σ else (gX11_fails σ 4).bind fun r1 => gX11_test_L44 F r1)) (w0 σ) 19 [(0, vr G 143)] []
  refine z_aload_n C 0 rfl 0 rfl dX11_test_19 20 rfl ?_
  refine y_getI C fX11_164 one_11 dX11_test_20 23 rfl ?_
  refine z_if_ne C dX11_test_23 44 (by decide) 26 rfl rfl (fun _ => ?_) (fun _ => ?_)
  · exact pX11_test_L44 C R hR F σ
  · refine z_aload_n C 0 rfl 0 rfl dX11_test_26 27 rfl ?_
    refine y_getR C fX11_34 one_11 lay_11_19 dX11_test_27 30 rfl ?_
    refine z_aload_n C 0 rfl 0 rfl dX11_test_30 31 rfl ?_
    refine y_getI C fX11_211 one_11 dX11_test_31 34 rfl ?_
    refine y_iald C lay_11_19.2 rfl dX11_test_34 35 rfl rfl (fun _ => ?_)
    refine z_iconst C dX11_test_35 36 rfl ?_
    refine z_icmp_ne C dX11_test_36 44 (by decide) 39 rfl rfl (w32_id (a := 4) (by decide)) (fun _ => ?_) (fun _ => ?_)
    · exact pX11_test_L44 C R hR F σ
    · refine z_aload_n C 0 rfl 0 rfl dX11_test_39 40 rfl ?_
      refine z_iconst C dX11_test_40 41 rfl ?_
      refine y_callVv C hR (tX11_fails (mL X) G σ 4) ⟨mwX11_fails, mvX11_fails, lkX11_193⟩ one_11 rfl rfl (Nat.le_of_ble_eq_true rfl) (by unfold rmOK; decide) dX11_test_41 44 rfl (fun r1 _ => ?_)
      exact pX11_test_L44 C R hR F r1
set_option maxRecDepth 100000 in
set_option maxHeartbeats 4000000 in
theorem tX11_test (l : Launch) (G : GG) (F : Nat) (σ : St) : Ctr l G yX11_test cX11_test 2 none rmX11_test [vr G 143] (w0 σ) vzV wzV (gX11_test F σ) := by
  refine ctr_of (by decide) (Nat.le_of_ble_eq_true rfl) mwX11_test.1 (fun X hl hR C R hnm => ?_)
  subst hl
  refine z_lv (lv' := [(0, vr G 143)]) [0] rfl ?_
  show ZZ X G 2 (QM X G vzV wzV (0, 0)) (0, 0) (if w32 (σ 143 10) ≠ 0 then gX11_test_L19 F σ else (gX11_isKey σ).bind fun r1 => if w32 r1 ≠ 0 then gX11_test_L19 F σ else (gX11_fails σ 2).bind fun r2 => gX11_test_L19 F r2) (w0 σ) 0 [(0, vr G 143)] []
  refine z_aload_n C 0 rfl 0 rfl dX11_test_0 1 rfl ?_
  refine y_getI C fX11_164 one_11 dX11_test_1 4 rfl ?_
  refine z_if_ne C dX11_test_4 19 (by decide) 7 rfl rfl (fun _ => ?_) (fun _ => ?_)
  · exact pX11_test_L19 C R hR F σ
  · refine z_aload_n C 0 rfl 0 rfl dX11_test_7 8 rfl ?_
    refine y_callVI C hR (tX11_isKey (mL X) G σ) ⟨mwX11_isKey, mvX11_isKey, lkX11_207⟩ one_11 rfl rfl (Nat.le_of_ble_eq_true rfl) (by unfold rmOK; decide) dX11_test_8 11 rfl (fun r1 _ => ?_)
    refine z_if_ne C dX11_test_11 19 (by decide) 14 rfl rfl (fun _ => ?_) (fun _ => ?_)
    · exact pX11_test_L19 C R hR F σ
    · refine z_aload_n C 0 rfl 0 rfl dX11_test_14 15 rfl ?_
      refine z_iconst C dX11_test_15 16 rfl ?_
      refine y_callVv C hR (tX11_fails (mL X) G σ 2) ⟨mwX11_fails, mvX11_fails, lkX11_193⟩ one_11 rfl rfl (Nat.le_of_ble_eq_true rfl) (by unfold rmOK; decide) dX11_test_16 19 rfl (fun r2 _ => ?_)
      exact pX11_test_L19 C R hR F r2
