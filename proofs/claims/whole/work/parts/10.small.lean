-- allRooms
def gX0_allRooms_L4 (F : Nat) (σ : St) (k : Int) : Nat → Int → Int → Option (Int)
  | 0, _, _ => none
  | n + 1, x1, x2 => if w32 x2 ≥ w32 (σ k 5) then some x1 else gd (0 ≤ w32 x2 ∧ w32 x2 < 6) (gX0_allRooms_L4 F σ k n (x1 + (σ (k + 1) (w32 x2))) (x2 + 1))
def gX0_allRooms (F : Nat) (σ : St) (k : Int) : Option (Int) := gX0_allRooms_L4 F σ k F 0 0
def rmX0_allRooms : Room := { frames := 0, cells := 0, slots := 0, locals := 0 }
set_option maxRecDepth 100000 in
set_option maxHeartbeats 4000000 in
theorem pX0_allRooms_L4 {X : MX} {G : GG} (C : CX X G 3 cX0_allRooms RX0) (R : RT X (some .int)) (hR : mR X = rmX0_allRooms) (F : Nat) (σ : St) (k : Int) (hk : isK k (0, 0))  : ∀ (n : Nat) (x1 : Int) (x2 : Int), ZZ X G 3 (QM X G vzI (wzR σ) (0, 0)) (0, 0) (gX0_allRooms_L4 F σ k n x1 x2) (w0 σ) 4 [(0, vr G k), (1, vi x1), (2, vi x2)] [] := by
  intro n
  induction n with
  | zero =>
    intro _ _
    exact z_none
  | succ n ih =>
    intro x1 x2
    show ZZ X G 3 (QM X G vzI (wzR σ) (0, 0)) (0, 0) (if w32 x2 ≥ w32 (σ k 5) then some x1 else gd (0 ≤ w32 x2 ∧ w32 x2 < 6) (gX0_allRooms_L4 F σ k n (x1 + (σ (k + 1) (w32 x2))) (x2 + 1))) (w0 σ) 4 [(0, vr G k), (1, vi x1), (2, vi x2)] []
    refine z_iload_n C 2 rfl 2 rfl dX0_allRooms_4 5 rfl ?_
    refine z_aload_n C 0 rfl 0 rfl dX0_allRooms_5 6 rfl ?_
    refine y_getI C fX0_27 hk dX0_allRooms_6 9 rfl ?_
    refine z_icmp_ge C dX0_allRooms_9 27 (by decide) 12 rfl rfl rfl (fun _ => ?_) (fun _ => ?_)
    · refine z_iload_n C 1 rfl 1 rfl dX0_allRooms_27 28 rfl ?_
      exact z_iret C R rfl rfl dX0_allRooms_28
    · refine z_iload_n C 1 rfl 1 rfl dX0_allRooms_12 13 rfl ?_
      refine z_aload_n C 0 rfl 0 rfl dX0_allRooms_13 14 rfl ?_
      refine y_getR C fX0_9 hk (lay_0_0 hk) dX0_allRooms_14 17 rfl ?_
      refine z_iload_n C 2 rfl 2 rfl dX0_allRooms_17 18 rfl ?_
      refine y_iald C ((lay_0_0 hk).2) rfl dX0_allRooms_18 19 rfl rfl (fun _ => ?_)
      refine z_iadd C dX0_allRooms_19 20 rfl ?_
      refine z_istore_n (lv' := [(1, vi (x1 + (σ (k + 1) (w32 x2)))), (0, vr G k), (2, vi x2)]) C 1 rfl (by decide) dX0_allRooms_20 21 rfl rfl ?_
      refine z_iinc (lv' := [(2, vi (x2 + 1)), (1, vi (x1 + (σ (k + 1) (w32 x2)))), (0, vr G k)]) C (by decide) 2 rfl dX0_allRooms_21 24 rfl rfl ?_
      refine z_goto C dX0_allRooms_24 4 (by decide) ?_
      refine z_lv (lv' := [(0, vr G k), (1, vi (x1 + (σ (k + 1) (w32 x2)))), (2, vi (x2 + 1))]) [2, 1, 0] rfl ?_
      exact ih (x1 + (σ (k + 1) (w32 x2))) (x2 + 1)
set_option maxRecDepth 100000 in
set_option maxHeartbeats 4000000 in
theorem tX0_allRooms (l : Launch) (G : GG) (F : Nat) (σ : St) (k : Int) (hk : isK k (0, 0)) : Ctr l G yX0_allRooms cX0_allRooms 3 (some .int) rmX0_allRooms [vr G k] (w0 σ) vzI (wzR σ) (gX0_allRooms F σ k) := by
  refine ctr_of (by decide) (Nat.le_of_ble_eq_true rfl) mwX0_allRooms.1 (fun X hl hR C R hnm => ?_)
  subst hl
  refine z_lv (lv' := [(0, vr G k)]) [0] rfl ?_
  show ZZ X G 3 (QM X G vzI (wzR σ) (0, 0)) (0, 0) (gX0_allRooms_L4 F σ k F 0 0) (w0 σ) 0 [(0, vr G k)] []
  refine z_iconst C dX0_allRooms_0 1 rfl ?_
  refine z_istore_n (lv' := [(1, vi 0), (0, vr G k)]) C 1 rfl (by decide) dX0_allRooms_1 2 rfl rfl ?_
  refine z_iconst C dX0_allRooms_2 3 rfl ?_
  refine z_istore_n (lv' := [(2, vi 0), (1, vi 0), (0, vr G k)]) C 2 rfl (by decide) dX0_allRooms_3 4 rfl rfl ?_
  refine z_lv (lv' := [(0, vr G k), (1, vi 0), (2, vi 0)]) [2, 1, 0] rfl ?_
  exact pX0_allRooms_L4 C R hR F σ k hk F 0 0
-- addPost
def gX0_addPost (σ : St) (k : Int) (x1 : Int) (x2 : Int) (x3 : Int) : Option (Int × St) := gd (0 ≤ w32 (σ k 5) ∧ w32 (σ k 5) < 6) (gd (0 ≤ w32 ((up σ (k + 1) (w32 (σ k 5)) x1) k 5) ∧ w32 ((up σ (k + 1) (w32 (σ k 5)) x1) k 5) < 6) (gd (0 ≤ w32 ((up (up σ (k + 1) (w32 (σ k 5)) x1) (k + 2) (w32 ((up σ (k + 1) (w32 (σ k 5)) x1) k 5)) x2) k 5) ∧ w32 ((up (up σ (k + 1) (w32 (σ k 5)) x1) (k + 2) (w32 ((up σ (k + 1) (w32 (σ k 5)) x1) k 5)) x2) k 5) < 6) (some (((up (up (up (up (up σ (k + 1) (w32 (σ k 5)) x1) (k + 2) (w32 ((up σ (k + 1) (w32 (σ k 5)) x1) k 5)) x2) (k + 3) (w32 ((up (up σ (k + 1) (w32 (σ k 5)) x1) (k + 2) (w32 ((up σ (k + 1) (w32 (σ k 5)) x1) k 5)) x2) k 5)) x3) k 5 (((up (up (up σ (k + 1) (w32 (σ k 5)) x1) (k + 2) (w32 ((up σ (k + 1) (w32 (σ k 5)) x1) k 5)) x2) (k + 3) (w32 ((up (up σ (k + 1) (w32 (σ k 5)) x1) (k + 2) (w32 ((up σ (k + 1) (w32 (σ k 5)) x1) k 5)) x2) k 5)) x3) k 5) + 1)) k 7 (((up (up (up (up σ (k + 1) (w32 (σ k 5)) x1) (k + 2) (w32 ((up σ (k + 1) (w32 (σ k 5)) x1) k 5)) x2) (k + 3) (w32 ((up (up σ (k + 1) (w32 (σ k 5)) x1) (k + 2) (w32 ((up σ (k + 1) (w32 (σ k 5)) x1) k 5)) x2) k 5)) x3) k 5 (((up (up (up σ (k + 1) (w32 (σ k 5)) x1) (k + 2) (w32 ((up σ (k + 1) (w32 (σ k 5)) x1) k 5)) x2) (k + 3) (w32 ((up (up σ (k + 1) (w32 (σ k 5)) x1) (k + 2) (w32 ((up σ (k + 1) (w32 (σ k 5)) x1) k 5)) x2) k 5)) x3) k 5) + 1)) k 7) + 1)) k 5) - 1, up (up (up (up (up σ (k + 1) (w32 (σ k 5)) x1) (k + 2) (w32 ((up σ (k + 1) (w32 (σ k 5)) x1) k 5)) x2) (k + 3) (w32 ((up (up σ (k + 1) (w32 (σ k 5)) x1) (k + 2) (w32 ((up σ (k + 1) (w32 (σ k 5)) x1) k 5)) x2) k 5)) x3) k 5 (((up (up (up σ (k + 1) (w32 (σ k 5)) x1) (k + 2) (w32 ((up σ (k + 1) (w32 (σ k 5)) x1) k 5)) x2) (k + 3) (w32 ((up (up σ (k + 1) (w32 (σ k 5)) x1) (k + 2) (w32 ((up σ (k + 1) (w32 (σ k 5)) x1) k 5)) x2) k 5)) x3) k 5) + 1)) k 7 (((up (up (up (up σ (k + 1) (w32 (σ k 5)) x1) (k + 2) (w32 ((up σ (k + 1) (w32 (σ k 5)) x1) k 5)) x2) (k + 3) (w32 ((up (up σ (k + 1) (w32 (σ k 5)) x1) (k + 2) (w32 ((up σ (k + 1) (w32 (σ k 5)) x1) k 5)) x2) k 5)) x3) k 5 (((up (up (up σ (k + 1) (w32 (σ k 5)) x1) (k + 2) (w32 ((up σ (k + 1) (w32 (σ k 5)) x1) k 5)) x2) (k + 3) (w32 ((up (up σ (k + 1) (w32 (σ k 5)) x1) (k + 2) (w32 ((up σ (k + 1) (w32 (σ k 5)) x1) k 5)) x2) k 5)) x3) k 5) + 1)) k 7) + 1)))))
def rmX0_addPost : Room := { frames := 0, cells := 0, slots := 0, locals := 0 }
set_option maxRecDepth 100000 in
set_option maxHeartbeats 4000000 in
theorem tX0_addPost (l : Launch) (G : GG) (σ : St) (k : Int) (x1 : Int) (x2 : Int) (x3 : Int) (hk : isK k (0, 0)) : Ctr l G yX0_addPost cX0_addPost 4 (some .int) rmX0_addPost [vr G k, vi x1, vi x2, vi x3] (w0 σ) vzIw wzW (gX0_addPost σ k x1 x2 x3) := by
  refine ctr_of (by decide) (Nat.le_of_ble_eq_true rfl) mwX0_addPost.1 (fun X hl hR C R hnm => ?_)
  subst hl
  refine z_lv (lv' := [(0, vr G k), (1, vi x1), (2, vi x2), (3, vi x3)]) [0, 1, 2, 3] rfl ?_
  show ZZ X G 4 (QM X G vzIw wzW (0, 0)) (0, 0) (gd (0 ≤ w32 (σ k 5) ∧ w32 (σ k 5) < 6) (gd (0 ≤ w32 ((up σ (k + 1) (w32 (σ k 5)) x1) k 5) ∧ w32 ((up σ (k + 1) (w32 (σ k 5)) x1) k 5) < 6) (gd (0 ≤ w32 ((up (up σ (k + 1) (w32 (σ k 5)) x1) (k + 2) (w32 ((up σ (k + 1) (w32 (σ k 5)) x1) k 5)) x2) k 5) ∧ w32 ((up (up σ (k + 1) (w32 (σ k 5)) x1) (k + 2) (w32 ((up σ (k + 1) (w32 (σ k 5)) x1) k 5)) x2) k 5) < 6) (some (((up (up (up (up (up σ (k + 1) (w32 (σ k 5)) x1) (k + 2) (w32 ((up σ (k + 1) (w32 (σ k 5)) x1) k 5)) x2) (k + 3) (w32 ((up (up σ (k + 1) (w32 (σ k 5)) x1) (k + 2) (w32 ((up σ (k + 1) (w32 (σ k 5)) x1) k 5)) x2) k 5)) x3) k 5 (((up (up (up σ (k + 1) (w32 (σ k 5)) x1) (k + 2) (w32 ((up σ (k + 1) (w32 (σ k 5)) x1) k 5)) x2) (k + 3) (w32 ((up (up σ (k + 1) (w32 (σ k 5)) x1) (k + 2) (w32 ((up σ (k + 1) (w32 (σ k 5)) x1) k 5)) x2) k 5)) x3) k 5) + 1)) k 7 (((up (up (up (up σ (k + 1) (w32 (σ k 5)) x1) (k + 2) (w32 ((up σ (k + 1) (w32 (σ k 5)) x1) k 5)) x2) (k + 3) (w32 ((up (up σ (k + 1) (w32 (σ k 5)) x1) (k + 2) (w32 ((up σ (k + 1) (w32 (σ k 5)) x1) k 5)) x2) k 5)) x3) k 5 (((up (up (up σ (k + 1) (w32 (σ k 5)) x1) (k + 2) (w32 ((up σ (k + 1) (w32 (σ k 5)) x1) k 5)) x2) (k + 3) (w32 ((up (up σ (k + 1) (w32 (σ k 5)) x1) (k + 2) (w32 ((up σ (k + 1) (w32 (σ k 5)) x1) k 5)) x2) k 5)) x3) k 5) + 1)) k 7) + 1)) k 5) - 1, up (up (up (up (up σ (k + 1) (w32 (σ k 5)) x1) (k + 2) (w32 ((up σ (k + 1) (w32 (σ k 5)) x1) k 5)) x2) (k + 3) (w32 ((up (up σ (k + 1) (w32 (σ k 5)) x1) (k + 2) (w32 ((up σ (k + 1) (w32 (σ k 5)) x1) k 5)) x2) k 5)) x3) k 5 (((up (up (up σ (k + 1) (w32 (σ k 5)) x1) (k + 2) (w32 ((up σ (k + 1) (w32 (σ k 5)) x1) k 5)) x2) (k + 3) (w32 ((up (up σ (k + 1) (w32 (σ k 5)) x1) (k + 2) (w32 ((up σ (k + 1) (w32 (σ k 5)) x1) k 5)) x2) k 5)) x3) k 5) + 1)) k 7 (((up (up (up (up σ (k + 1) (w32 (σ k 5)) x1) (k + 2) (w32 ((up σ (k + 1) (w32 (σ k 5)) x1) k 5)) x2) (k + 3) (w32 ((up (up σ (k + 1) (w32 (σ k 5)) x1) (k + 2) (w32 ((up σ (k + 1) (w32 (σ k 5)) x1) k 5)) x2) k 5)) x3) k 5 (((up (up (up σ (k + 1) (w32 (σ k 5)) x1) (k + 2) (w32 ((up σ (k + 1) (w32 (σ k 5)) x1) k 5)) x2) (k + 3) (w32 ((up (up σ (k + 1) (w32 (σ k 5)) x1) (k + 2) (w32 ((up σ (k + 1) (w32 (σ k 5)) x1) k 5)) x2) k 5)) x3) k 5) + 1)) k 7) + 1)))))) (w0 σ) 0 [(0, vr G k), (1, vi x1), (2, vi x2), (3, vi x3)] []
  refine z_aload_n C 0 rfl 0 rfl dX0_addPost_0 1 rfl ?_
  refine y_getR C fX0_9 hk (lay_0_0 hk) dX0_addPost_1 4 rfl ?_
  refine z_aload_n C 0 rfl 0 rfl dX0_addPost_4 5 rfl ?_
  refine y_getI C fX0_27 hk dX0_addPost_5 8 rfl ?_
  refine z_iload_n C 1 rfl 1 rfl dX0_addPost_8 9 rfl ?_
  refine y_iast C ((lay_0_0 hk).2) rfl dX0_addPost_9 10 rfl rfl (fun _ => ?_)
  refine z_aload_n C 0 rfl 0 rfl dX0_addPost_10 11 rfl ?_
  refine y_getR C fX0_15 hk (lay_0_1 hk) dX0_addPost_11 14 rfl ?_
  refine z_aload_n C 0 rfl 0 rfl dX0_addPost_14 15 rfl ?_
  refine y_getI C fX0_27 hk dX0_addPost_15 18 rfl ?_
  refine z_iload_n C 2 rfl 2 rfl dX0_addPost_18 19 rfl ?_
  refine y_iast C ((lay_0_1 hk).2) rfl dX0_addPost_19 20 rfl rfl (fun _ => ?_)
  refine z_aload_n C 0 rfl 0 rfl dX0_addPost_20 21 rfl ?_
  refine y_getR C fX0_18 hk (lay_0_2 hk) dX0_addPost_21 24 rfl ?_
  refine z_aload_n C 0 rfl 0 rfl dX0_addPost_24 25 rfl ?_
  refine y_getI C fX0_27 hk dX0_addPost_25 28 rfl ?_
  refine z_iload_n C 3 rfl 3 rfl dX0_addPost_28 29 rfl ?_
  refine y_iast C ((lay_0_2 hk).2) rfl dX0_addPost_29 30 rfl rfl (fun _ => ?_)
  refine z_aload_n C 0 rfl 0 rfl dX0_addPost_30 31 rfl ?_
  refine z_dup C rfl dX0_addPost_31 32 rfl ?_
  refine y_getI C fX0_27 hk dX0_addPost_32 35 rfl ?_
  refine z_iconst C dX0_addPost_35 36 rfl ?_
  refine z_iadd C dX0_addPost_36 37 rfl ?_
  refine y_putI C fX0_27 hk ⟨rfl, rfl⟩ dX0_addPost_37 40 rfl ?_
  refine z_aload_n C 0 rfl 0 rfl dX0_addPost_40 41 rfl ?_
  refine z_dup C rfl dX0_addPost_41 42 rfl ?_
  refine y_getI C fX0_31 hk dX0_addPost_42 45 rfl ?_
  refine z_iconst C dX0_addPost_45 46 rfl ?_
  refine z_iadd C dX0_addPost_46 47 rfl ?_
  refine y_putI C fX0_31 hk ⟨rfl, rfl⟩ dX0_addPost_47 50 rfl ?_
  refine z_aload_n C 0 rfl 0 rfl dX0_addPost_50 51 rfl ?_
  refine y_getI C fX0_27 hk dX0_addPost_51 54 rfl ?_
  refine z_iconst C dX0_addPost_54 55 rfl ?_
  refine z_isub C dX0_addPost_55 56 rfl ?_
  exact z_iret C R rfl rfl dX0_addPost_56
-- addGuest
def gX0_addGuest (σ : St) (k : Int) : Option (Int × St) := gd (0 ≤ w32 (σ k 6) ∧ w32 (σ k 6) < 9) (some (((up (up (up σ (k + 4) (w32 (σ k 6)) 1) k 6 (((up σ (k + 4) (w32 (σ k 6)) 1) k 6) + 1)) k 7 (((up (up σ (k + 4) (w32 (σ k 6)) 1) k 6 (((up σ (k + 4) (w32 (σ k 6)) 1) k 6) + 1)) k 7) + 1)) k 6) - 1, up (up (up σ (k + 4) (w32 (σ k 6)) 1) k 6 (((up σ (k + 4) (w32 (σ k 6)) 1) k 6) + 1)) k 7 (((up (up σ (k + 4) (w32 (σ k 6)) 1) k 6 (((up σ (k + 4) (w32 (σ k 6)) 1) k 6) + 1)) k 7) + 1)))
def rmX0_addGuest : Room := { frames := 0, cells := 0, slots := 0, locals := 0 }
set_option maxRecDepth 100000 in
set_option maxHeartbeats 4000000 in
theorem tX0_addGuest (l : Launch) (G : GG) (σ : St) (k : Int) (hk : isK k (0, 0)) : Ctr l G yX0_addGuest cX0_addGuest 1 (some .int) rmX0_addGuest [vr G k] (w0 σ) vzIw wzW (gX0_addGuest σ k) := by
  refine ctr_of (by decide) (Nat.le_of_ble_eq_true rfl) mwX0_addGuest.1 (fun X hl hR C R hnm => ?_)
  subst hl
  refine z_lv (lv' := [(0, vr G k)]) [0] rfl ?_
  show ZZ X G 1 (QM X G vzIw wzW (0, 0)) (0, 0) (gd (0 ≤ w32 (σ k 6) ∧ w32 (σ k 6) < 9) (some (((up (up (up σ (k + 4) (w32 (σ k 6)) 1) k 6 (((up σ (k + 4) (w32 (σ k 6)) 1) k 6) + 1)) k 7 (((up (up σ (k + 4) (w32 (σ k 6)) 1) k 6 (((up σ (k + 4) (w32 (σ k 6)) 1) k 6) + 1)) k 7) + 1)) k 6) - 1, up (up (up σ (k + 4) (w32 (σ k 6)) 1) k 6 (((up σ (k + 4) (w32 (σ k 6)) 1) k 6) + 1)) k 7 (((up (up σ (k + 4) (w32 (σ k 6)) 1) k 6 (((up σ (k + 4) (w32 (σ k 6)) 1) k 6) + 1)) k 7) + 1)))) (w0 σ) 0 [(0, vr G k)] []
  refine z_aload_n C 0 rfl 0 rfl dX0_addGuest_0 1 rfl ?_
  refine y_getR C fX0_21 hk (lay_0_3 hk) dX0_addGuest_1 4 rfl ?_
  refine z_aload_n C 0 rfl 0 rfl dX0_addGuest_4 5 rfl ?_
  refine y_getI C fX0_34 hk dX0_addGuest_5 8 rfl ?_
  refine z_iconst C dX0_addGuest_8 9 rfl ?_
  refine y_iast C ((lay_0_3 hk).2) rfl dX0_addGuest_9 10 rfl rfl (fun _ => ?_)
  refine z_aload_n C 0 rfl 0 rfl dX0_addGuest_10 11 rfl ?_
  refine z_dup C rfl dX0_addGuest_11 12 rfl ?_
  refine y_getI C fX0_34 hk dX0_addGuest_12 15 rfl ?_
  refine z_iconst C dX0_addGuest_15 16 rfl ?_
  refine z_iadd C dX0_addGuest_16 17 rfl ?_
  refine y_putI C fX0_34 hk ⟨rfl, rfl⟩ dX0_addGuest_17 20 rfl ?_
  refine z_aload_n C 0 rfl 0 rfl dX0_addGuest_20 21 rfl ?_
  refine z_dup C rfl dX0_addGuest_21 22 rfl ?_
  refine y_getI C fX0_31 hk dX0_addGuest_22 25 rfl ?_
  refine z_iconst C dX0_addGuest_25 26 rfl ?_
  refine z_iadd C dX0_addGuest_26 27 rfl ?_
  refine y_putI C fX0_31 hk ⟨rfl, rfl⟩ dX0_addGuest_27 30 rfl ?_
  refine z_aload_n C 0 rfl 0 rfl dX0_addGuest_30 31 rfl ?_
  refine y_getI C fX0_34 hk dX0_addGuest_31 34 rfl ?_
  refine z_iconst C dX0_addGuest_34 35 rfl ?_
  refine z_isub C dX0_addGuest_35 36 rfl ?_
  exact z_iret C R rfl rfl dX0_addGuest_36
-- worthAt
def gX0_worthAt (σ : St) (k : Int) (x1 : Int) (x2 : Int) : Option (Int) := gd (0 ≤ w32 ((x1 * 6) + x2) ∧ w32 ((x1 * 6) + x2) < 54) (some (σ (k + 5) (w32 ((x1 * 6) + x2))))
def rmX0_worthAt : Room := { frames := 0, cells := 0, slots := 0, locals := 0 }
set_option maxRecDepth 100000 in
set_option maxHeartbeats 4000000 in
theorem tX0_worthAt (l : Launch) (G : GG) (σ : St) (k : Int) (x1 : Int) (x2 : Int) (hk : isK k (0, 0)) : Ctr l G yX0_worthAt cX0_worthAt 3 (some .int) rmX0_worthAt [vr G k, vi x1, vi x2] (w0 σ) vzI (wzR σ) (gX0_worthAt σ k x1 x2) := by
  refine ctr_of (by decide) (Nat.le_of_ble_eq_true rfl) mwX0_worthAt.1 (fun X hl hR C R hnm => ?_)
  subst hl
  refine z_lv (lv' := [(0, vr G k), (1, vi x1), (2, vi x2)]) [0, 1, 2] rfl ?_
  show ZZ X G 3 (QM X G vzI (wzR σ) (0, 0)) (0, 0) (gd (0 ≤ w32 ((x1 * 6) + x2) ∧ w32 ((x1 * 6) + x2) < 54) (some (σ (k + 5) (w32 ((x1 * 6) + x2))))) (w0 σ) 0 [(0, vr G k), (1, vi x1), (2, vi x2)] []
  refine z_aload_n C 0 rfl 0 rfl dX0_worthAt_0 1 rfl ?_
  refine y_getR C fX0_24 hk (lay_0_4 hk) dX0_worthAt_1 4 rfl ?_
  refine z_iload_n C 1 rfl 1 rfl dX0_worthAt_4 5 rfl ?_
  refine z_bipush C (by decide) dX0_worthAt_5 7 rfl ?_
  refine z_imul C dX0_worthAt_7 8 rfl ?_
  refine z_iload_n C 2 rfl 2 rfl dX0_worthAt_8 9 rfl ?_
  refine z_iadd C dX0_worthAt_9 10 rfl ?_
  refine y_iald C ((lay_0_4 hk).2) rfl dX0_worthAt_10 11 rfl rfl (fun _ => ?_)
  exact z_iret C R rfl rfl dX0_worthAt_11
-- putWorth
def gX0_putWorth (σ : St) (k : Int) (x1 : Int) (x2 : Int) (x3 : Int) : Option (St) := gd (0 ≤ w32 ((x1 * 6) + x2) ∧ w32 ((x1 * 6) + x2) < 54) (some (up (up σ (k + 5) (w32 ((x1 * 6) + x2)) x3) k 7 (((up σ (k + 5) (w32 ((x1 * 6) + x2)) x3) k 7) + 1)))
def rmX0_putWorth : Room := { frames := 0, cells := 0, slots := 0, locals := 0 }
set_option maxRecDepth 100000 in
set_option maxHeartbeats 4000000 in
theorem tX0_putWorth (l : Launch) (G : GG) (σ : St) (k : Int) (x1 : Int) (x2 : Int) (x3 : Int) (hk : isK k (0, 0)) : Ctr l G yX0_putWorth cX0_putWorth 4 none rmX0_putWorth [vr G k, vi x1, vi x2, vi x3] (w0 σ) vzV wzV (gX0_putWorth σ k x1 x2 x3) := by
  refine ctr_of (by decide) (Nat.le_of_ble_eq_true rfl) mwX0_putWorth.1 (fun X hl hR C R hnm => ?_)
  subst hl
  refine z_lv (lv' := [(0, vr G k), (1, vi x1), (2, vi x2), (3, vi x3)]) [0, 1, 2, 3] rfl ?_
  show ZZ X G 4 (QM X G vzV wzV (0, 0)) (0, 0) (gd (0 ≤ w32 ((x1 * 6) + x2) ∧ w32 ((x1 * 6) + x2) < 54) (some (up (up σ (k + 5) (w32 ((x1 * 6) + x2)) x3) k 7 (((up σ (k + 5) (w32 ((x1 * 6) + x2)) x3) k 7) + 1)))) (w0 σ) 0 [(0, vr G k), (1, vi x1), (2, vi x2), (3, vi x3)] []
  refine z_aload_n C 0 rfl 0 rfl dX0_putWorth_0 1 rfl ?_
  refine y_getR C fX0_24 hk (lay_0_4 hk) dX0_putWorth_1 4 rfl ?_
  refine z_iload_n C 1 rfl 1 rfl dX0_putWorth_4 5 rfl ?_
  refine z_bipush C (by decide) dX0_putWorth_5 7 rfl ?_
  refine z_imul C dX0_putWorth_7 8 rfl ?_
  refine z_iload_n C 2 rfl 2 rfl dX0_putWorth_8 9 rfl ?_
  refine z_iadd C dX0_putWorth_9 10 rfl ?_
  refine z_iload_n C 3 rfl 3 rfl dX0_putWorth_10 11 rfl ?_
  refine y_iast C ((lay_0_4 hk).2) rfl dX0_putWorth_11 12 rfl rfl (fun _ => ?_)
  refine z_aload_n C 0 rfl 0 rfl dX0_putWorth_12 13 rfl ?_
  refine z_dup C rfl dX0_putWorth_13 14 rfl ?_
  refine y_getI C fX0_31 hk dX0_putWorth_14 17 rfl ?_
  refine z_iconst C dX0_putWorth_17 18 rfl ?_
  refine z_iadd C dX0_putWorth_18 19 rfl ?_
  refine y_putI C fX0_31 hk ⟨rfl, rfl⟩ dX0_putWorth_19 22 rfl ?_
  exact z_vret C R rfl rfl dX0_putWorth_22
-- putChance
def gX0_putChance (σ : St) (k : Int) (x1 : Int) (x2 : Int) : Option (St) := gd (0 ≤ w32 x1 ∧ w32 x1 < 9) (some (up (up σ (k + 4) (w32 x1) x2) k 7 (((up σ (k + 4) (w32 x1) x2) k 7) + 1)))
def rmX0_putChance : Room := { frames := 0, cells := 0, slots := 0, locals := 0 }
set_option maxRecDepth 100000 in
set_option maxHeartbeats 4000000 in
theorem tX0_putChance (l : Launch) (G : GG) (σ : St) (k : Int) (x1 : Int) (x2 : Int) (hk : isK k (0, 0)) : Ctr l G yX0_putChance cX0_putChance 3 none rmX0_putChance [vr G k, vi x1, vi x2] (w0 σ) vzV wzV (gX0_putChance σ k x1 x2) := by
  refine ctr_of (by decide) (Nat.le_of_ble_eq_true rfl) mwX0_putChance.1 (fun X hl hR C R hnm => ?_)
  subst hl
  refine z_lv (lv' := [(0, vr G k), (1, vi x1), (2, vi x2)]) [0, 1, 2] rfl ?_
  show ZZ X G 3 (QM X G vzV wzV (0, 0)) (0, 0) (gd (0 ≤ w32 x1 ∧ w32 x1 < 9) (some (up (up σ (k + 4) (w32 x1) x2) k 7 (((up σ (k + 4) (w32 x1) x2) k 7) + 1)))) (w0 σ) 0 [(0, vr G k), (1, vi x1), (2, vi x2)] []
  refine z_aload_n C 0 rfl 0 rfl dX0_putChance_0 1 rfl ?_
  refine y_getR C fX0_21 hk (lay_0_3 hk) dX0_putChance_1 4 rfl ?_
  refine z_iload_n C 1 rfl 1 rfl dX0_putChance_4 5 rfl ?_
  refine z_iload_n C 2 rfl 2 rfl dX0_putChance_5 6 rfl ?_
  refine y_iast C ((lay_0_3 hk).2) rfl dX0_putChance_6 7 rfl rfl (fun _ => ?_)
  refine z_aload_n C 0 rfl 0 rfl dX0_putChance_7 8 rfl ?_
  refine z_dup C rfl dX0_putChance_8 9 rfl ?_
  refine y_getI C fX0_31 hk dX0_putChance_9 12 rfl ?_
  refine z_iconst C dX0_putChance_12 13 rfl ?_
  refine z_iadd C dX0_putChance_13 14 rfl ?_
  refine y_putI C fX0_31 hk ⟨rfl, rfl⟩ dX0_putChance_14 17 rfl ?_
  exact z_vret C R rfl rfl dX0_putChance_17
-- putRank
def gX0_putRank (σ : St) (k : Int) (x1 : Int) (x2 : Int) : Option (St) := gd (0 ≤ w32 x1 ∧ w32 x1 < 6) (some (up (up σ (k + 2) (w32 x1) x2) k 7 (((up σ (k + 2) (w32 x1) x2) k 7) + 1)))
def rmX0_putRank : Room := { frames := 0, cells := 0, slots := 0, locals := 0 }
set_option maxRecDepth 100000 in
set_option maxHeartbeats 4000000 in
theorem tX0_putRank (l : Launch) (G : GG) (σ : St) (k : Int) (x1 : Int) (x2 : Int) (hk : isK k (0, 0)) : Ctr l G yX0_putRank cX0_putRank 3 none rmX0_putRank [vr G k, vi x1, vi x2] (w0 σ) vzV wzV (gX0_putRank σ k x1 x2) := by
  refine ctr_of (by decide) (Nat.le_of_ble_eq_true rfl) mwX0_putRank.1 (fun X hl hR C R hnm => ?_)
  subst hl
  refine z_lv (lv' := [(0, vr G k), (1, vi x1), (2, vi x2)]) [0, 1, 2] rfl ?_
  show ZZ X G 3 (QM X G vzV wzV (0, 0)) (0, 0) (gd (0 ≤ w32 x1 ∧ w32 x1 < 6) (some (up (up σ (k + 2) (w32 x1) x2) k 7 (((up σ (k + 2) (w32 x1) x2) k 7) + 1)))) (w0 σ) 0 [(0, vr G k), (1, vi x1), (2, vi x2)] []
  refine z_aload_n C 0 rfl 0 rfl dX0_putRank_0 1 rfl ?_
  refine y_getR C fX0_15 hk (lay_0_1 hk) dX0_putRank_1 4 rfl ?_
  refine z_iload_n C 1 rfl 1 rfl dX0_putRank_4 5 rfl ?_
  refine z_iload_n C 2 rfl 2 rfl dX0_putRank_5 6 rfl ?_
  refine y_iast C ((lay_0_1 hk).2) rfl dX0_putRank_6 7 rfl rfl (fun _ => ?_)
  refine z_aload_n C 0 rfl 0 rfl dX0_putRank_7 8 rfl ?_
  refine z_dup C rfl dX0_putRank_8 9 rfl ?_
  refine y_getI C fX0_31 hk dX0_putRank_9 12 rfl ?_
  refine z_iconst C dX0_putRank_12 13 rfl ?_
  refine z_iadd C dX0_putRank_13 14 rfl ?_
  refine y_putI C fX0_31 hk ⟨rfl, rfl⟩ dX0_putRank_14 17 rfl ?_
  exact z_vret C R rfl rfl dX0_putRank_17
-- linksOf
def gX0_linksOf_L24 (F : Nat) (σ : St) (k : Int) (x1 : Int) (c4 : Int → Int → Option (Int)) (x2 : Int) (x3 : Int) : Option (Int) := c4 x2 (x3 + 1)
def gX0_linksOf_L4 (F : Nat) (σ : St) (k : Int) (x1 : Int) : Nat → Int → Int → Option (Int)
  | 0, _, _ => none
  | n + 1, x2, x3 => if w32 x3 ≥ w32 (σ k 6) then some x2 else (gX0_worthAt σ k x3 x1).bind fun r1 => if w32 r1 ≤ 0 then gX0_linksOf_L24 F σ k x1 (gX0_linksOf_L4 F σ k x1 n) x2 x3 else gX0_linksOf_L24 F σ k x1 (gX0_linksOf_L4 F σ k x1 n) (x2 + 1) x3
def gX0_linksOf (F : Nat) (σ : St) (k : Int) (x1 : Int) : Option (Int) := gX0_linksOf_L4 F σ k x1 F 0 0
def rmX0_linksOf : Room := { frames := 1, cells := 0, slots := 0, locals := 22 }
set_option maxRecDepth 100000 in
set_option maxHeartbeats 4000000 in
theorem pX0_linksOf_L24 {X : MX} {G : GG} (C : CX X G 4 cX0_linksOf RX0) (R : RT X (some .int)) (hR : mR X = rmX0_linksOf) (F : Nat) (σ : St) (k : Int) (hk : isK k (0, 0)) (x1 : Int) (c4 : Int → Int → Option (Int)) (hc4 : ∀ (x2 : Int) (x3 : Int), ZZ X G 4 (QM X G vzI (wzR σ) (0, 0)) (0, 0) (c4 x2 x3) (w0 σ) 4 [(0, vr G k), (1, vi x1), (2, vi x2), (3, vi x3)] []) : ∀ (x2 : Int) (x3 : Int), ZZ X G 4 (QM X G vzI (wzR σ) (0, 0)) (0, 0) (gX0_linksOf_L24 F σ k x1 c4 x2 x3) (w0 σ) 24 [(0, vr G k), (1, vi x1), (2, vi x2), (3, vi x3)] [] := by
  intro x2 x3
  show ZZ X G 4 (QM X G vzI (wzR σ) (0, 0)) (0, 0) (c4 x2 (x3 + 1)) (w0 σ) 24 [(0, vr G k), (1, vi x1), (2, vi x2), (3, vi x3)] []
  refine z_iinc (lv' := [(3, vi (x3 + 1)), (0, vr G k), (1, vi x1), (2, vi x2)]) C (by decide) 3 rfl dX0_linksOf_24 27 rfl rfl ?_
  refine z_goto C dX0_linksOf_27 4 (by decide) ?_
  refine z_lv (lv' := [(0, vr G k), (1, vi x1), (2, vi x2), (3, vi (x3 + 1))]) [1, 2, 3, 0] rfl ?_
  exact hc4 x2 (x3 + 1)
set_option maxRecDepth 100000 in
set_option maxHeartbeats 4000000 in
theorem pX0_linksOf_L4 {X : MX} {G : GG} (C : CX X G 4 cX0_linksOf RX0) (R : RT X (some .int)) (hR : mR X = rmX0_linksOf) (F : Nat) (σ : St) (k : Int) (hk : isK k (0, 0)) (x1 : Int)  : ∀ (n : Nat) (x2 : Int) (x3 : Int), ZZ X G 4 (QM X G vzI (wzR σ) (0, 0)) (0, 0) (gX0_linksOf_L4 F σ k x1 n x2 x3) (w0 σ) 4 [(0, vr G k), (1, vi x1), (2, vi x2), (3, vi x3)] [] := by
  intro n
  induction n with
  | zero =>
    intro _ _
    exact z_none
  | succ n ih =>
    intro x2 x3
    show ZZ X G 4 (QM X G vzI (wzR σ) (0, 0)) (0, 0) (if w32 x3 ≥ w32 (σ k 6) then some x2 else (gX0_worthAt σ k x3 x1).bind fun r1 => if w32 r1 ≤ 0 then gX0_linksOf_L24 F σ k x1 (gX0_linksOf_L4 F σ k x1 n) x2 x3 else gX0_linksOf_L24 F σ k x1 (gX0_linksOf_L4 F σ k x1 n) (x2 + 1) x3) (w0 σ) 4 [(0, vr G k), (1, vi x1), (2, vi x2), (3, vi x3)] []
    refine z_iload_n C 3 rfl 3 rfl dX0_linksOf_4 5 rfl ?_
    refine z_aload_n C 0 rfl 0 rfl dX0_linksOf_5 6 rfl ?_
    refine y_getI C fX0_34 hk dX0_linksOf_6 9 rfl ?_
    refine z_icmp_ge C dX0_linksOf_9 30 (by decide) 12 rfl rfl rfl (fun _ => ?_) (fun _ => ?_)
    · refine z_iload_n C 2 rfl 2 rfl dX0_linksOf_30 31 rfl ?_
      exact z_iret C R rfl rfl dX0_linksOf_31
    · refine z_aload_n C 0 rfl 0 rfl dX0_linksOf_12 13 rfl ?_
      refine z_iload_n C 3 rfl 3 rfl dX0_linksOf_13 14 rfl ?_
      refine z_iload_n C 1 rfl 1 rfl dX0_linksOf_14 15 rfl ?_
      refine y_callVI C hR (tX0_worthAt (mL X) G σ k x3 x1 hk) ⟨mwX0_worthAt, mvX0_worthAt, lkX0_37⟩ hk rfl rfl (Nat.le_of_ble_eq_true rfl) (by unfold rmOK; decide) dX0_linksOf_15 18 rfl (fun r1 _ => ?_)
      refine z_if_le C dX0_linksOf_18 24 (by decide) 21 rfl rfl (fun _ => ?_) (fun _ => ?_)
      · exact pX0_linksOf_L24 C R hR F σ k hk x1 (gX0_linksOf_L4 F σ k x1 n) ih x2 x3
      · refine z_iinc (lv' := [(2, vi (x2 + 1)), (0, vr G k), (1, vi x1), (3, vi x3)]) C (by decide) 2 rfl dX0_linksOf_21 24 rfl rfl ?_
        refine z_lv (lv' := [(0, vr G k), (1, vi x1), (2, vi (x2 + 1)), (3, vi x3)]) [1, 2, 0, 3] rfl ?_
        exact pX0_linksOf_L24 C R hR F σ k hk x1 (gX0_linksOf_L4 F σ k x1 n) ih (x2 + 1) x3
set_option maxRecDepth 100000 in
set_option maxHeartbeats 4000000 in
theorem tX0_linksOf (l : Launch) (G : GG) (F : Nat) (σ : St) (k : Int) (x1 : Int) (hk : isK k (0, 0)) : Ctr l G yX0_linksOf cX0_linksOf 4 (some .int) rmX0_linksOf [vr G k, vi x1] (w0 σ) vzI (wzR σ) (gX0_linksOf F σ k x1) := by
  refine ctr_of (by decide) (Nat.le_of_ble_eq_true rfl) mwX0_linksOf.1 (fun X hl hR C R hnm => ?_)
  subst hl
  refine z_lv (lv' := [(0, vr G k), (1, vi x1)]) [0, 1] rfl ?_
  show ZZ X G 4 (QM X G vzI (wzR σ) (0, 0)) (0, 0) (gX0_linksOf_L4 F σ k x1 F 0 0) (w0 σ) 0 [(0, vr G k), (1, vi x1)] []
  refine z_iconst C dX0_linksOf_0 1 rfl ?_
  refine z_istore_n (lv' := [(2, vi 0), (0, vr G k), (1, vi x1)]) C 2 rfl (by decide) dX0_linksOf_1 2 rfl rfl ?_
  refine z_iconst C dX0_linksOf_2 3 rfl ?_
  refine z_istore_n (lv' := [(3, vi 0), (2, vi 0), (0, vr G k), (1, vi x1)]) C 3 rfl (by decide) dX0_linksOf_3 4 rfl rfl ?_
  refine z_lv (lv' := [(0, vr G k), (1, vi x1), (2, vi 0), (3, vi 0)]) [2, 3, 1, 0] rfl ?_
  exact pX0_linksOf_L4 C R hR F σ k hk x1 F 0 0
-- gainOver
def gX0_gainOver_L5 (F : Nat) (σ : St) (k : Int) (x1 : Int) (x2 : Int) : Nat → Int → Int → Option (Int)
  | 0, _, _ => none
  | n + 1, x3, x4 => if w32 x4 ≥ w32 (σ k 5) then some x3 else (gX0_worthAt σ k x1 x4).bind fun r1 => gd (0 ≤ w32 x4 ∧ w32 x4 < 6) (gX0_gainOver_L5 F σ k x1 x2 n (if w32 x3 < w32 (r1 - (σ x2 (w32 x4))) then r1 - (σ x2 (w32 x4)) else x3) (x4 + 1))
def gX0_gainOver (F : Nat) (σ : St) (k : Int) (x1 : Int) (x2 : Int) : Option (Int) := gX0_gainOver_L5 F σ k x1 x2 F 0 0
def rmX0_gainOver : Room := { frames := 1, cells := 0, slots := 0, locals := 23 }
set_option maxRecDepth 100000 in
set_option maxHeartbeats 4000000 in
theorem pX0_gainOver_L5 {X : MX} {G : GG} (C : CX X G 5 cX0_gainOver RX0) (R : RT X (some .int)) (hR : mR X = rmX0_gainOver) (F : Nat) (σ : St) (k : Int) (hk : isK k (0, 0)) (x1 : Int) (x2 : Int) (h2 : isK x2 (1, 6))  : ∀ (n : Nat) (x3 : Int) (x4 : Int), ZZ X G 5 (QM X G vzI (wzR σ) (0, 0)) (0, 0) (gX0_gainOver_L5 F σ k x1 x2 n x3 x4) (w0 σ) 5 [(0, vr G k), (1, vi x1), (2, vr G x2), (3, vi x3), (4, vi x4)] [] := by
  intro n
  induction n with
  | zero =>
    intro _ _
    exact z_none
  | succ n ih =>
    intro x3 x4
    show ZZ X G 5 (QM X G vzI (wzR σ) (0, 0)) (0, 0) (if w32 x4 ≥ w32 (σ k 5) then some x3 else (gX0_worthAt σ k x1 x4).bind fun r1 => gd (0 ≤ w32 x4 ∧ w32 x4 < 6) (gX0_gainOver_L5 F σ k x1 x2 n (if w32 x3 < w32 (r1 - (σ x2 (w32 x4))) then r1 - (σ x2 (w32 x4)) else x3) (x4 + 1))) (w0 σ) 5 [(0, vr G k), (1, vi x1), (2, vr G x2), (3, vi x3), (4, vi x4)] []
    refine z_iload C 4 rfl dX0_gainOver_5 7 rfl ?_
    refine z_aload_n C 0 rfl 0 rfl dX0_gainOver_7 8 rfl ?_
    refine y_getI C fX0_27 hk dX0_gainOver_8 11 rfl ?_
    refine z_icmp_ge C dX0_gainOver_11 37 (by decide) 14 rfl rfl rfl (fun _ => ?_) (fun _ => ?_)
    · refine z_iload_n C 3 rfl 3 rfl dX0_gainOver_37 38 rfl ?_
      exact z_iret C R rfl rfl dX0_gainOver_38
    · refine z_iload_n C 3 rfl 3 rfl dX0_gainOver_14 15 rfl ?_
      refine z_aload_n C 0 rfl 0 rfl dX0_gainOver_15 16 rfl ?_
      refine z_iload_n C 1 rfl 1 rfl dX0_gainOver_16 17 rfl ?_
      refine z_iload C 4 rfl dX0_gainOver_17 19 rfl ?_
      refine y_callVI C hR (tX0_worthAt (mL X) G σ k x1 x4 hk) ⟨mwX0_worthAt, mvX0_worthAt, lkX0_37⟩ hk rfl rfl (Nat.le_of_ble_eq_true rfl) (by unfold rmOK; decide) dX0_gainOver_19 22 rfl (fun r1 _ => ?_)
      refine z_aload_n C 2 rfl 2 rfl dX0_gainOver_22 23 rfl ?_
      refine z_iload C 4 rfl dX0_gainOver_23 25 rfl ?_
      refine y_iald C h2 rfl dX0_gainOver_25 26 rfl rfl (fun _ => ?_)
      refine z_isub C dX0_gainOver_26 27 rfl ?_
      refine y_maxI C hR lkX0_45 (Nat.le_of_ble_eq_true rfl) (by decide) dX0_gainOver_27 30 rfl ?_
      refine z_istore_n (lv' := [(3, vi (if w32 x3 < w32 (r1 - (σ x2 (w32 x4))) then r1 - (σ x2 (w32 x4)) else x3)), (0, vr G k), (1, vi x1), (2, vr G x2), (4, vi x4)]) C 3 rfl (by decide) dX0_gainOver_30 31 rfl rfl ?_
      refine z_iinc (lv' := [(4, vi (x4 + 1)), (3, vi (if w32 x3 < w32 (r1 - (σ x2 (w32 x4))) then r1 - (σ x2 (w32 x4)) else x3)), (0, vr G k), (1, vi x1), (2, vr G x2)]) C (by decide) 4 rfl dX0_gainOver_31 34 rfl rfl ?_
      refine z_goto C dX0_gainOver_34 5 (by decide) ?_
      refine z_lv (lv' := [(0, vr G k), (1, vi x1), (2, vr G x2), (3, vi (if w32 x3 < w32 (r1 - (σ x2 (w32 x4))) then r1 - (σ x2 (w32 x4)) else x3)), (4, vi (x4 + 1))]) [2, 3, 4, 1, 0] rfl ?_
      exact ih (if w32 x3 < w32 (r1 - (σ x2 (w32 x4))) then r1 - (σ x2 (w32 x4)) else x3) (x4 + 1)
set_option maxRecDepth 100000 in
set_option maxHeartbeats 4000000 in
theorem tX0_gainOver (l : Launch) (G : GG) (F : Nat) (σ : St) (k : Int) (x1 : Int) (x2 : Int) (hk : isK k (0, 0)) (h2 : isK x2 (1, 6)) : Ctr l G yX0_gainOver cX0_gainOver 5 (some .int) rmX0_gainOver [vr G k, vi x1, vr G x2] (w0 σ) vzI (wzR σ) (gX0_gainOver F σ k x1 x2) := by
  refine ctr_of (by decide) (Nat.le_of_ble_eq_true rfl) mwX0_gainOver.1 (fun X hl hR C R hnm => ?_)
  subst hl
  refine z_lv (lv' := [(0, vr G k), (1, vi x1), (2, vr G x2)]) [0, 1, 2] rfl ?_
  show ZZ X G 5 (QM X G vzI (wzR σ) (0, 0)) (0, 0) (gX0_gainOver_L5 F σ k x1 x2 F 0 0) (w0 σ) 0 [(0, vr G k), (1, vi x1), (2, vr G x2)] []
  refine z_iconst C dX0_gainOver_0 1 rfl ?_
  refine z_istore_n (lv' := [(3, vi 0), (0, vr G k), (1, vi x1), (2, vr G x2)]) C 3 rfl (by decide) dX0_gainOver_1 2 rfl rfl ?_
  refine z_iconst C dX0_gainOver_2 3 rfl ?_
  refine z_istore (lv' := [(4, vi 0), (3, vi 0), (0, vr G k), (1, vi x1), (2, vr G x2)]) C (by decide) dX0_gainOver_3 5 rfl rfl ?_
  refine z_lv (lv' := [(0, vr G k), (1, vi x1), (2, vr G x2), (3, vi 0), (4, vi 0)]) [2, 3, 4, 1, 0] rfl ?_
  exact pX0_gainOver_L5 C R hR F σ k hk x1 x2 h2 F 0 0
-- copyOf
def gX0_copyOf (σ : St) (k : Int) (x1 : Int) : Option (St) := some (up (up (copyS (copyS (copyS (copyS σ (x1 + 1) (k + 1) 6) (x1 + 2) (k + 2) 6) (x1 + 3) (k + 3) 6) (x1 + 5) (k + 5) 54) k 5 ((copyS (copyS (copyS (copyS σ (x1 + 1) (k + 1) 6) (x1 + 2) (k + 2) 6) (x1 + 3) (k + 3) 6) (x1 + 5) (k + 5) 54) x1 5)) k 6 ((up (copyS (copyS (copyS (copyS σ (x1 + 1) (k + 1) 6) (x1 + 2) (k + 2) 6) (x1 + 3) (k + 3) 6) (x1 + 5) (k + 5) 54) k 5 ((copyS (copyS (copyS (copyS σ (x1 + 1) (k + 1) 6) (x1 + 2) (k + 2) 6) (x1 + 3) (k + 3) 6) (x1 + 5) (k + 5) 54) x1 5)) x1 6))
def rmX0_copyOf : Room := { frames := 1, cells := 0, slots := 0, locals := 60 }
set_option maxRecDepth 100000 in
set_option maxHeartbeats 4000000 in
theorem tX0_copyOf (l : Launch) (G : GG) (σ : St) (k : Int) (x1 : Int) (hk : isK k (0, 0)) (h1 : isK x1 (0, 0)) : Ctr l G yX0_copyOf cX0_copyOf 2 none rmX0_copyOf [vr G k, vr G x1] (w0 σ) vzV wzV (gX0_copyOf σ k x1) := by
  refine ctr_of (by decide) (Nat.le_of_ble_eq_true rfl) mwX0_copyOf.1 (fun X hl hR C R hnm => ?_)
  subst hl
  refine z_lv (lv' := [(0, vr G k), (1, vr G x1)]) [0, 1] rfl ?_
  show ZZ X G 2 (QM X G vzV wzV (0, 0)) (0, 0) (some (up (up (copyS (copyS (copyS (copyS σ (x1 + 1) (k + 1) 6) (x1 + 2) (k + 2) 6) (x1 + 3) (k + 3) 6) (x1 + 5) (k + 5) 54) k 5 ((copyS (copyS (copyS (copyS σ (x1 + 1) (k + 1) 6) (x1 + 2) (k + 2) 6) (x1 + 3) (k + 3) 6) (x1 + 5) (k + 5) 54) x1 5)) k 6 ((up (copyS (copyS (copyS (copyS σ (x1 + 1) (k + 1) 6) (x1 + 2) (k + 2) 6) (x1 + 3) (k + 3) 6) (x1 + 5) (k + 5) 54) k 5 ((copyS (copyS (copyS (copyS σ (x1 + 1) (k + 1) 6) (x1 + 2) (k + 2) 6) (x1 + 3) (k + 3) 6) (x1 + 5) (k + 5) 54) x1 5)) x1 6))) (w0 σ) 0 [(0, vr G k), (1, vr G x1)] []
  refine z_aload_n C 1 rfl 1 rfl dX0_copyOf_0 1 rfl ?_
  refine y_getR C fX0_9 h1 (lay_0_0 h1) dX0_copyOf_1 4 rfl ?_
  refine z_iconst C dX0_copyOf_4 5 rfl ?_
  refine z_aload_n C 0 rfl 0 rfl dX0_copyOf_5 6 rfl ?_
  refine y_getR C fX0_9 hk (lay_0_0 hk) dX0_copyOf_6 9 rfl ?_
  refine z_iconst C dX0_copyOf_9 10 rfl ?_
  refine z_bipush C (by decide) dX0_copyOf_10 12 rfl ?_
  refine y_copy C hR ((lay_0_0 h1).2) ((lay_0_0 hk).2) rfl (by decide) lkX0_50 (Nat.le_of_ble_eq_true rfl) (by decide) dX0_copyOf_12 15 rfl ?_
  refine z_aload_n C 1 rfl 1 rfl dX0_copyOf_15 16 rfl ?_
  refine y_getR C fX0_15 h1 (lay_0_1 h1) dX0_copyOf_16 19 rfl ?_
  refine z_iconst C dX0_copyOf_19 20 rfl ?_
  refine z_aload_n C 0 rfl 0 rfl dX0_copyOf_20 21 rfl ?_
  refine y_getR C fX0_15 hk (lay_0_1 hk) dX0_copyOf_21 24 rfl ?_
  refine z_iconst C dX0_copyOf_24 25 rfl ?_
  refine z_bipush C (by decide) dX0_copyOf_25 27 rfl ?_
  refine y_copy C hR ((lay_0_1 h1).2) ((lay_0_1 hk).2) rfl (by decide) lkX0_50 (Nat.le_of_ble_eq_true rfl) (by decide) dX0_copyOf_27 30 rfl ?_
  refine z_aload_n C 1 rfl 1 rfl dX0_copyOf_30 31 rfl ?_
  refine y_getR C fX0_18 h1 (lay_0_2 h1) dX0_copyOf_31 34 rfl ?_
  refine z_iconst C dX0_copyOf_34 35 rfl ?_
  refine z_aload_n C 0 rfl 0 rfl dX0_copyOf_35 36 rfl ?_
  refine y_getR C fX0_18 hk (lay_0_2 hk) dX0_copyOf_36 39 rfl ?_
  refine z_iconst C dX0_copyOf_39 40 rfl ?_
  refine z_bipush C (by decide) dX0_copyOf_40 42 rfl ?_
  refine y_copy C hR ((lay_0_2 h1).2) ((lay_0_2 hk).2) rfl (by decide) lkX0_50 (Nat.le_of_ble_eq_true rfl) (by decide) dX0_copyOf_42 45 rfl ?_
  refine z_aload_n C 1 rfl 1 rfl dX0_copyOf_45 46 rfl ?_
  refine y_getR C fX0_24 h1 (lay_0_4 h1) dX0_copyOf_46 49 rfl ?_
  refine z_iconst C dX0_copyOf_49 50 rfl ?_
  refine z_aload_n C 0 rfl 0 rfl dX0_copyOf_50 51 rfl ?_
  refine y_getR C fX0_24 hk (lay_0_4 hk) dX0_copyOf_51 54 rfl ?_
  refine z_iconst C dX0_copyOf_54 55 rfl ?_
  refine z_bipush C (by decide) dX0_copyOf_55 57 rfl ?_
  refine y_copy C hR ((lay_0_4 h1).2) ((lay_0_4 hk).2) rfl (by decide) lkX0_50 (Nat.le_of_ble_eq_true rfl) (by decide) dX0_copyOf_57 60 rfl ?_
  refine z_aload_n C 0 rfl 0 rfl dX0_copyOf_60 61 rfl ?_
  refine z_aload_n C 1 rfl 1 rfl dX0_copyOf_61 62 rfl ?_
  refine y_getI C fX0_27 h1 dX0_copyOf_62 65 rfl ?_
  refine y_putI C fX0_27 hk ⟨rfl, rfl⟩ dX0_copyOf_65 68 rfl ?_
  refine z_aload_n C 0 rfl 0 rfl dX0_copyOf_68 69 rfl ?_
  refine z_aload_n C 1 rfl 1 rfl dX0_copyOf_69 70 rfl ?_
  refine y_getI C fX0_34 h1 dX0_copyOf_70 73 rfl ?_
  refine y_putI C fX0_34 hk ⟨rfl, rfl⟩ dX0_copyOf_73 76 rfl ?_
  exact z_vret C R rfl rfl dX0_copyOf_76
-- swapRanks
def gX0_swapRanks (σ : St) (k : Int) (x1 : Int) (x2 : Int) : Option (St) := gd (0 ≤ w32 x1 ∧ w32 x1 < 6) (gd (0 ≤ w32 x2 ∧ w32 x2 < 6) (gd (0 ≤ w32 x1 ∧ w32 x1 < 6) (gd (0 ≤ w32 x2 ∧ w32 x2 < 6) (some (up (up σ (k + 2) (w32 x1) (σ (k + 2) (w32 x2))) (k + 2) (w32 x2) (σ (k + 2) (w32 x1)))))))
def rmX0_swapRanks : Room := { frames := 0, cells := 0, slots := 0, locals := 0 }
set_option maxRecDepth 100000 in
set_option maxHeartbeats 4000000 in
theorem tX0_swapRanks (l : Launch) (G : GG) (σ : St) (k : Int) (x1 : Int) (x2 : Int) (hk : isK k (0, 0)) : Ctr l G yX0_swapRanks cX0_swapRanks 4 none rmX0_swapRanks [vr G k, vi x1, vi x2] (w0 σ) vzV wzV (gX0_swapRanks σ k x1 x2) := by
  refine ctr_of (by decide) (Nat.le_of_ble_eq_true rfl) mwX0_swapRanks.1 (fun X hl hR C R hnm => ?_)
  subst hl
  refine z_lv (lv' := [(0, vr G k), (1, vi x1), (2, vi x2)]) [0, 1, 2] rfl ?_
  show ZZ X G 4 (QM X G vzV wzV (0, 0)) (0, 0) (gd (0 ≤ w32 x1 ∧ w32 x1 < 6) (gd (0 ≤ w32 x2 ∧ w32 x2 < 6) (gd (0 ≤ w32 x1 ∧ w32 x1 < 6) (gd (0 ≤ w32 x2 ∧ w32 x2 < 6) (some (up (up σ (k + 2) (w32 x1) (σ (k + 2) (w32 x2))) (k + 2) (w32 x2) (σ (k + 2) (w32 x1)))))))) (w0 σ) 0 [(0, vr G k), (1, vi x1), (2, vi x2)] []
  refine z_aload_n C 0 rfl 0 rfl dX0_swapRanks_0 1 rfl ?_
  refine y_getR C fX0_15 hk (lay_0_1 hk) dX0_swapRanks_1 4 rfl ?_
  refine z_iload_n C 1 rfl 1 rfl dX0_swapRanks_4 5 rfl ?_
  refine y_iald C ((lay_0_1 hk).2) rfl dX0_swapRanks_5 6 rfl rfl (fun _ => ?_)
  refine z_istore_n (lv' := [(3, vi (σ (k + 2) (w32 x1))), (0, vr G k), (1, vi x1), (2, vi x2)]) C 3 rfl (by decide) dX0_swapRanks_6 7 rfl rfl ?_
  refine z_aload_n C 0 rfl 1 rfl dX0_swapRanks_7 8 rfl ?_
  refine y_getR C fX0_15 hk (lay_0_1 hk) dX0_swapRanks_8 11 rfl ?_
  refine z_iload_n C 1 rfl 2 rfl dX0_swapRanks_11 12 rfl ?_
  refine z_aload_n C 0 rfl 1 rfl dX0_swapRanks_12 13 rfl ?_
  refine y_getR C fX0_15 hk (lay_0_1 hk) dX0_swapRanks_13 16 rfl ?_
  refine z_iload_n C 2 rfl 3 rfl dX0_swapRanks_16 17 rfl ?_
  refine y_iald C ((lay_0_1 hk).2) rfl dX0_swapRanks_17 18 rfl rfl (fun _ => ?_)
  refine y_iast C ((lay_0_1 hk).2) rfl dX0_swapRanks_18 19 rfl rfl (fun _ => ?_)
  refine z_aload_n C 0 rfl 1 rfl dX0_swapRanks_19 20 rfl ?_
  refine y_getR C fX0_15 hk (lay_0_1 hk) dX0_swapRanks_20 23 rfl ?_
  refine z_iload_n C 2 rfl 3 rfl dX0_swapRanks_23 24 rfl ?_
  refine z_iload_n C 3 rfl 0 rfl dX0_swapRanks_24 25 rfl ?_
  refine y_iast C ((lay_0_1 hk).2) rfl dX0_swapRanks_25 26 rfl rfl (fun _ => ?_)
  exact z_vret C R rfl rfl dX0_swapRanks_26
-- becomeSquare
def gX0_becomeSquare_L12 (F : Nat) (k : Int) (x1 : Int) : Nat → Int → St → Option (St)
  | 0, _, _ => none
  | n + 1, x2, σ => if w32 x2 ≥ w32 x1 then some σ else gd (0 ≤ w32 x2 ∧ w32 x2 < 6) (gd (0 ≤ w32 x2 ∧ w32 x2 < 6) (gd (0 ≤ w32 x2 ∧ w32 x2 < 6) (gX0_becomeSquare_L12 F k x1 n (x2 + 1) (up (up (up σ (k + 1) (w32 x2) 1) (k + 2) (w32 x2) x2) (k + 3) (w32 x2) 999))))
def gX0_becomeSquare (F : Nat) (σ : St) (k : Int) (x1 : Int) : Option (St) := gX0_becomeSquare_L12 F k x1 F 0 (up (up σ k 5 x1) k 6 x1)
def rmX0_becomeSquare : Room := { frames := 0, cells := 0, slots := 0, locals := 0 }
set_option maxRecDepth 100000 in
set_option maxHeartbeats 4000000 in
theorem pX0_becomeSquare_L12 {X : MX} {G : GG} (C : CX X G 3 cX0_becomeSquare RX0) (R : RT X none) (hR : mR X = rmX0_becomeSquare) (F : Nat) (k : Int) (hk : isK k (0, 0)) (x1 : Int)  : ∀ (n : Nat) (x2 : Int) (σ : St), ZZ X G 3 (QM X G vzV wzV (0, 0)) (0, 0) (gX0_becomeSquare_L12 F k x1 n x2 σ) (w0 σ) 12 [(0, vr G k), (1, vi x1), (2, vi x2)] [] := by
  intro n
  induction n with
  | zero =>
    intro _ _
    exact z_none
  | succ n ih =>
    intro x2 σ
    show ZZ X G 3 (QM X G vzV wzV (0, 0)) (0, 0) (if w32 x2 ≥ w32 x1 then some σ else gd (0 ≤ w32 x2 ∧ w32 x2 < 6) (gd (0 ≤ w32 x2 ∧ w32 x2 < 6) (gd (0 ≤ w32 x2 ∧ w32 x2 < 6) (gX0_becomeSquare_L12 F k x1 n (x2 + 1) (up (up (up σ (k + 1) (w32 x2) 1) (k + 2) (w32 x2) x2) (k + 3) (w32 x2) 999))))) (w0 σ) 12 [(0, vr G k), (1, vi x1), (2, vi x2)] []
    refine z_iload_n C 2 rfl 2 rfl dX0_becomeSquare_12 13 rfl ?_
    refine z_iload_n C 1 rfl 1 rfl dX0_becomeSquare_13 14 rfl ?_
    refine z_icmp_ge C dX0_becomeSquare_14 46 (by decide) 17 rfl rfl rfl (fun _ => ?_) (fun _ => ?_)
    · exact z_vret C R rfl rfl dX0_becomeSquare_46
    · refine z_aload_n C 0 rfl 0 rfl dX0_becomeSquare_17 18 rfl ?_
      refine y_getR C fX0_9 hk (lay_0_0 hk) dX0_becomeSquare_18 21 rfl ?_
      refine z_iload_n C 2 rfl 2 rfl dX0_becomeSquare_21 22 rfl ?_
      refine z_iconst C dX0_becomeSquare_22 23 rfl ?_
      refine y_iast C ((lay_0_0 hk).2) rfl dX0_becomeSquare_23 24 rfl rfl (fun _ => ?_)
      refine z_aload_n C 0 rfl 0 rfl dX0_becomeSquare_24 25 rfl ?_
      refine y_getR C fX0_15 hk (lay_0_1 hk) dX0_becomeSquare_25 28 rfl ?_
      refine z_iload_n C 2 rfl 2 rfl dX0_becomeSquare_28 29 rfl ?_
      refine z_iload_n C 2 rfl 2 rfl dX0_becomeSquare_29 30 rfl ?_
      refine y_iast C ((lay_0_1 hk).2) rfl dX0_becomeSquare_30 31 rfl rfl (fun _ => ?_)
      refine z_aload_n C 0 rfl 0 rfl dX0_becomeSquare_31 32 rfl ?_
      refine y_getR C fX0_18 hk (lay_0_2 hk) dX0_becomeSquare_32 35 rfl ?_
      refine z_iload_n C 2 rfl 2 rfl dX0_becomeSquare_35 36 rfl ?_
      refine z_sipush C (by decide) dX0_becomeSquare_36 39 rfl ?_
      refine y_iast C ((lay_0_2 hk).2) rfl dX0_becomeSquare_39 40 rfl rfl (fun _ => ?_)
      refine z_iinc (lv' := [(2, vi (x2 + 1)), (0, vr G k), (1, vi x1)]) C (by decide) 2 rfl dX0_becomeSquare_40 43 rfl rfl ?_
      refine z_goto C dX0_becomeSquare_43 12 (by decide) ?_
      refine z_lv (lv' := [(0, vr G k), (1, vi x1), (2, vi (x2 + 1))]) [1, 2, 0] rfl ?_
      exact ih (x2 + 1) (up (up (up σ (k + 1) (w32 x2) 1) (k + 2) (w32 x2) x2) (k + 3) (w32 x2) 999)
set_option maxRecDepth 100000 in
set_option maxHeartbeats 4000000 in
theorem tX0_becomeSquare (l : Launch) (G : GG) (F : Nat) (σ : St) (k : Int) (x1 : Int) (hk : isK k (0, 0)) : Ctr l G yX0_becomeSquare cX0_becomeSquare 3 none rmX0_becomeSquare [vr G k, vi x1] (w0 σ) vzV wzV (gX0_becomeSquare F σ k x1) := by
  refine ctr_of (by decide) (Nat.le_of_ble_eq_true rfl) mwX0_becomeSquare.1 (fun X hl hR C R hnm => ?_)
  subst hl
  refine z_lv (lv' := [(0, vr G k), (1, vi x1)]) [0, 1] rfl ?_
  show ZZ X G 3 (QM X G vzV wzV (0, 0)) (0, 0) (gX0_becomeSquare_L12 F k x1 F 0 (up (up σ k 5 x1) k 6 x1)) (w0 σ) 0 [(0, vr G k), (1, vi x1)] []
  refine z_aload_n C 0 rfl 0 rfl dX0_becomeSquare_0 1 rfl ?_
  refine z_iload_n C 1 rfl 1 rfl dX0_becomeSquare_1 2 rfl ?_
  refine y_putI C fX0_27 hk ⟨rfl, rfl⟩ dX0_becomeSquare_2 5 rfl ?_
  refine z_aload_n C 0 rfl 0 rfl dX0_becomeSquare_5 6 rfl ?_
  refine z_iload_n C 1 rfl 1 rfl dX0_becomeSquare_6 7 rfl ?_
  refine y_putI C fX0_34 hk ⟨rfl, rfl⟩ dX0_becomeSquare_7 10 rfl ?_
  refine z_iconst C dX0_becomeSquare_10 11 rfl ?_
  refine z_istore_n (lv' := [(2, vi 0), (0, vr G k), (1, vi x1)]) C 2 rfl (by decide) dX0_becomeSquare_11 12 rfl rfl ?_
  refine z_lv (lv' := [(0, vr G k), (1, vi x1), (2, vi 0)]) [1, 2, 0] rfl ?_
  exact pX0_becomeSquare_L12 C R hR F k hk x1 F 0 (up (up σ k 5 x1) k 6 x1)
-- linkByBits
def gX0_linkByBits_L15 (F : Nat) (k : Int) (x1 : Int) (c4 : Int → Int → St → Option (St)) : Nat → Int → Int → Int → St → Option (St)
  | 0, _, _, _, _ => none
  | n + 1, x2, x3, x4, σ => if w32 x4 ≥ w32 (σ k 5) then c4 x2 (x3 + 1) σ else gd (0 ≤ w32 ((x3 * 6) + x4) ∧ w32 ((x3 * 6) + x4) < 54) (gX0_linkByBits_L15 F k x1 c4 n (ishr x2 1) x3 (x4 + 1) (up σ (k + 5) (w32 ((x3 * 6) + x4)) (iand x2 1)))
def gX0_linkByBits_L4 (F : Nat) (k : Int) (x1 : Int) : Nat → Int → Int → St → Option (St)
  | 0, _, _, _ => none
  | n + 1, x2, x3, σ => if w32 x3 ≥ w32 (σ k 6) then some σ else gX0_linkByBits_L15 F k x1 (gX0_linkByBits_L4 F k x1 n) F x2 x3 0 σ
def gX0_linkByBits (F : Nat) (σ : St) (k : Int) (x1 : Int) : Option (St) := gX0_linkByBits_L4 F k x1 F x1 0 σ
def rmX0_linkByBits : Room := { frames := 0, cells := 0, slots := 0, locals := 0 }
set_option maxRecDepth 100000 in
set_option maxHeartbeats 4000000 in
theorem pX0_linkByBits_L15 {X : MX} {G : GG} (C : CX X G 5 cX0_linkByBits RX0) (R : RT X none) (hR : mR X = rmX0_linkByBits) (F : Nat) (k : Int) (hk : isK k (0, 0)) (x1 : Int) (c4 : Int → Int → St → Option (St)) (hc4 : ∀ (x2 : Int) (x3 : Int) (σ : St), ZZ X G 5 (QM X G vzV wzV (0, 0)) (0, 0) (c4 x2 x3 σ) (w0 σ) 4 [(0, vr G k), (2, vi x2), (3, vi x3)] []) : ∀ (n : Nat) (x2 : Int) (x3 : Int) (x4 : Int) (σ : St), ZZ X G 5 (QM X G vzV wzV (0, 0)) (0, 0) (gX0_linkByBits_L15 F k x1 c4 n x2 x3 x4 σ) (w0 σ) 15 [(0, vr G k), (2, vi x2), (3, vi x3), (4, vi x4)] [] := by
  intro n
  induction n with
  | zero =>
    intro _ _ _ _
    exact z_none
  | succ n ih =>
    intro x2 x3 x4 σ
    show ZZ X G 5 (QM X G vzV wzV (0, 0)) (0, 0) (if w32 x4 ≥ w32 (σ k 5) then c4 x2 (x3 + 1) σ else gd (0 ≤ w32 ((x3 * 6) + x4) ∧ w32 ((x3 * 6) + x4) < 54) (gX0_linkByBits_L15 F k x1 c4 n (ishr x2 1) x3 (x4 + 1) (up σ (k + 5) (w32 ((x3 * 6) + x4)) (iand x2 1)))) (w0 σ) 15 [(0, vr G k), (2, vi x2), (3, vi x3), (4, vi x4)] []
    refine z_iload C 3 rfl dX0_linkByBits_15 17 rfl ?_
    refine z_aload_n C 0 rfl 0 rfl dX0_linkByBits_17 18 rfl ?_
    refine y_getI C fX0_27 hk dX0_linkByBits_18 21 rfl ?_
    refine z_icmp_ge C dX0_linkByBits_21 49 (by decide) 24 rfl rfl rfl (fun _ => ?_) (fun _ => ?_)
    · refine z_iinc (lv' := [(3, vi (x3 + 1)), (0, vr G k), (2, vi x2), (4, vi x4)]) C (by decide) 2 rfl dX0_linkByBits_49 52 rfl rfl ?_
      refine z_goto C dX0_linkByBits_52 4 (by decide) ?_
      refine z_lv (lv' := [(0, vr G k), (2, vi x2), (3, vi (x3 + 1))]) [1, 2, 0] rfl ?_
      exact hc4 x2 (x3 + 1) σ
    · refine z_aload_n C 0 rfl 0 rfl dX0_linkByBits_24 25 rfl ?_
      refine y_getR C fX0_24 hk (lay_0_4 hk) dX0_linkByBits_25 28 rfl ?_
      refine z_iload_n C 3 rfl 2 rfl dX0_linkByBits_28 29 rfl ?_
      refine z_bipush C (by decide) dX0_linkByBits_29 31 rfl ?_
      refine z_imul C dX0_linkByBits_31 32 rfl ?_
      refine z_iload C 3 rfl dX0_linkByBits_32 34 rfl ?_
      refine z_iadd C dX0_linkByBits_34 35 rfl ?_
      refine z_iload_n C 2 rfl 1 rfl dX0_linkByBits_35 36 rfl ?_
      refine z_iconst C dX0_linkByBits_36 37 rfl ?_
      refine z_iand C dX0_linkByBits_37 38 rfl ?_
      refine y_iast C ((lay_0_4 hk).2) rfl dX0_linkByBits_38 39 rfl rfl (fun _ => ?_)
      refine z_iload_n C 2 rfl 1 rfl dX0_linkByBits_39 40 rfl ?_
      refine z_iconst C dX0_linkByBits_40 41 rfl ?_
      refine z_ishr C dX0_linkByBits_41 42 rfl ?_
      refine z_istore_n (lv' := [(2, vi (ishr x2 1)), (0, vr G k), (3, vi x3), (4, vi x4)]) C 2 rfl (by decide) dX0_linkByBits_42 43 rfl rfl ?_
      refine z_iinc (lv' := [(4, vi (x4 + 1)), (2, vi (ishr x2 1)), (0, vr G k), (3, vi x3)]) C (by decide) 3 rfl dX0_linkByBits_43 46 rfl rfl ?_
      refine z_goto C dX0_linkByBits_46 15 (by decide) ?_
      refine z_lv (lv' := [(0, vr G k), (2, vi (ishr x2 1)), (3, vi x3), (4, vi (x4 + 1))]) [2, 1, 3, 0] rfl ?_
      exact ih (ishr x2 1) x3 (x4 + 1) (up σ (k + 5) (w32 ((x3 * 6) + x4)) (iand x2 1))
set_option maxRecDepth 100000 in
set_option maxHeartbeats 4000000 in
theorem pX0_linkByBits_L4 {X : MX} {G : GG} (C : CX X G 5 cX0_linkByBits RX0) (R : RT X none) (hR : mR X = rmX0_linkByBits) (F : Nat) (k : Int) (hk : isK k (0, 0)) (x1 : Int)  : ∀ (n : Nat) (x2 : Int) (x3 : Int) (σ : St), ZZ X G 5 (QM X G vzV wzV (0, 0)) (0, 0) (gX0_linkByBits_L4 F k x1 n x2 x3 σ) (w0 σ) 4 [(0, vr G k), (2, vi x2), (3, vi x3)] [] := by
  intro n
  induction n with
  | zero =>
    intro _ _ _
    exact z_none
  | succ n ih =>
    intro x2 x3 σ
    show ZZ X G 5 (QM X G vzV wzV (0, 0)) (0, 0) (if w32 x3 ≥ w32 (σ k 6) then some σ else gX0_linkByBits_L15 F k x1 (gX0_linkByBits_L4 F k x1 n) F x2 x3 0 σ) (w0 σ) 4 [(0, vr G k), (2, vi x2), (3, vi x3)] []
    refine z_iload_n C 3 rfl 2 rfl dX0_linkByBits_4 5 rfl ?_
    refine z_aload_n C 0 rfl 0 rfl dX0_linkByBits_5 6 rfl ?_
    refine y_getI C fX0_34 hk dX0_linkByBits_6 9 rfl ?_
    refine z_icmp_ge C dX0_linkByBits_9 55 (by decide) 12 rfl rfl rfl (fun _ => ?_) (fun _ => ?_)
    · exact z_vret C R rfl rfl dX0_linkByBits_55
    · refine z_iconst C dX0_linkByBits_12 13 rfl ?_
      refine z_istore (lv' := [(4, vi 0), (0, vr G k), (2, vi x2), (3, vi x3)]) C (by decide) dX0_linkByBits_13 15 rfl rfl ?_
      refine z_lv (lv' := [(0, vr G k), (2, vi x2), (3, vi x3), (4, vi 0)]) [1, 2, 3, 0] rfl ?_
      exact pX0_linkByBits_L15 C R hR F k hk x1 (gX0_linkByBits_L4 F k x1 n) ih F x2 x3 0 σ
set_option maxRecDepth 100000 in
set_option maxHeartbeats 4000000 in
theorem tX0_linkByBits (l : Launch) (G : GG) (F : Nat) (σ : St) (k : Int) (x1 : Int) (hk : isK k (0, 0)) : Ctr l G yX0_linkByBits cX0_linkByBits 5 none rmX0_linkByBits [vr G k, vi x1] (w0 σ) vzV wzV (gX0_linkByBits F σ k x1) := by
  refine ctr_of (by decide) (Nat.le_of_ble_eq_true rfl) mwX0_linkByBits.1 (fun X hl hR C R hnm => ?_)
  subst hl
  refine z_lv (lv' := [(0, vr G k), (1, vi x1)]) [0, 1] rfl ?_
  show ZZ X G 5 (QM X G vzV wzV (0, 0)) (0, 0) (gX0_linkByBits_L4 F k x1 F x1 0 σ) (w0 σ) 0 [(0, vr G k), (1, vi x1)] []
  refine z_iload_n C 1 rfl 1 rfl dX0_linkByBits_0 1 rfl ?_
  refine z_istore_n (lv' := [(2, vi x1), (0, vr G k), (1, vi x1)]) C 2 rfl (by decide) dX0_linkByBits_1 2 rfl rfl ?_
  refine z_iconst C dX0_linkByBits_2 3 rfl ?_
  refine z_istore_n (lv' := [(3, vi 0), (2, vi x1), (0, vr G k), (1, vi x1)]) C 3 rfl (by decide) dX0_linkByBits_3 4 rfl rfl ?_
  refine z_lv (lv' := [(0, vr G k), (2, vi x1), (3, vi 0)]) [2, 1, 0] rfl ?_
  exact pX0_linkByBits_L4 C R hR F k hk x1 F x1 0 σ
-- allLinks
def gX0_allLinks_L4 (F : Nat) (σ : St) (k : Int) : Nat → Int → Int → Option (Int)
  | 0, _, _ => none
  | n + 1, x1, x2 => if w32 x2 ≥ w32 (σ k 5) then some x1 else (gX0_linksOf F σ k x2).bind fun r1 => gX0_allLinks_L4 F σ k n (x1 + r1) (x2 + 1)
def gX0_allLinks (F : Nat) (σ : St) (k : Int) : Option (Int) := gX0_allLinks_L4 F σ k F 0 0
def rmX0_allLinks : Room := { frames := 2, cells := 0, slots := 0, locals := 45 }
set_option maxRecDepth 100000 in
set_option maxHeartbeats 4000000 in
theorem pX0_allLinks_L4 {X : MX} {G : GG} (C : CX X G 3 cX0_allLinks RX0) (R : RT X (some .int)) (hR : mR X = rmX0_allLinks) (F : Nat) (σ : St) (k : Int) (hk : isK k (0, 0))  : ∀ (n : Nat) (x1 : Int) (x2 : Int), ZZ X G 3 (QM X G vzI (wzR σ) (0, 0)) (0, 0) (gX0_allLinks_L4 F σ k n x1 x2) (w0 σ) 4 [(0, vr G k), (1, vi x1), (2, vi x2)] [] := by
  intro n
  induction n with
  | zero =>
    intro _ _
    exact z_none
  | succ n ih =>
    intro x1 x2
    show ZZ X G 3 (QM X G vzI (wzR σ) (0, 0)) (0, 0) (if w32 x2 ≥ w32 (σ k 5) then some x1 else (gX0_linksOf F σ k x2).bind fun r1 => gX0_allLinks_L4 F σ k n (x1 + r1) (x2 + 1)) (w0 σ) 4 [(0, vr G k), (1, vi x1), (2, vi x2)] []
    refine z_iload_n C 2 rfl 2 rfl dX0_allLinks_4 5 rfl ?_
    refine z_aload_n C 0 rfl 0 rfl dX0_allLinks_5 6 rfl ?_
    refine y_getI C fX0_27 hk dX0_allLinks_6 9 rfl ?_
    refine z_icmp_ge C dX0_allLinks_9 26 (by decide) 12 rfl rfl rfl (fun _ => ?_) (fun _ => ?_)
    · refine z_iload_n C 1 rfl 1 rfl dX0_allLinks_26 27 rfl ?_
      exact z_iret C R rfl rfl dX0_allLinks_27
    · refine z_iload_n C 1 rfl 1 rfl dX0_allLinks_12 13 rfl ?_
      refine z_aload_n C 0 rfl 0 rfl dX0_allLinks_13 14 rfl ?_
      refine z_iload_n C 2 rfl 2 rfl dX0_allLinks_14 15 rfl ?_
      refine y_callVI C hR (tX0_linksOf (mL X) G F σ k x2 hk) ⟨mwX0_linksOf, mvX0_linksOf, lkX0_41⟩ hk rfl rfl (Nat.le_of_ble_eq_true rfl) (by unfold rmOK; decide) dX0_allLinks_15 18 rfl (fun r1 _ => ?_)
      refine z_iadd C dX0_allLinks_18 19 rfl ?_
      refine z_istore_n (lv' := [(1, vi (x1 + r1)), (0, vr G k), (2, vi x2)]) C 1 rfl (by decide) dX0_allLinks_19 20 rfl rfl ?_
      refine z_iinc (lv' := [(2, vi (x2 + 1)), (1, vi (x1 + r1)), (0, vr G k)]) C (by decide) 2 rfl dX0_allLinks_20 23 rfl rfl ?_
      refine z_goto C dX0_allLinks_23 4 (by decide) ?_
      refine z_lv (lv' := [(0, vr G k), (1, vi (x1 + r1)), (2, vi (x2 + 1))]) [2, 1, 0] rfl ?_
      exact ih (x1 + r1) (x2 + 1)
set_option maxRecDepth 100000 in
set_option maxHeartbeats 4000000 in
theorem tX0_allLinks (l : Launch) (G : GG) (F : Nat) (σ : St) (k : Int) (hk : isK k (0, 0)) : Ctr l G yX0_allLinks cX0_allLinks 3 (some .int) rmX0_allLinks [vr G k] (w0 σ) vzI (wzR σ) (gX0_allLinks F σ k) := by
  refine ctr_of (by decide) (Nat.le_of_ble_eq_true rfl) mwX0_allLinks.1 (fun X hl hR C R hnm => ?_)
  subst hl
  refine z_lv (lv' := [(0, vr G k)]) [0] rfl ?_
  show ZZ X G 3 (QM X G vzI (wzR σ) (0, 0)) (0, 0) (gX0_allLinks_L4 F σ k F 0 0) (w0 σ) 0 [(0, vr G k)] []
  refine z_iconst C dX0_allLinks_0 1 rfl ?_
  refine z_istore_n (lv' := [(1, vi 0), (0, vr G k)]) C 1 rfl (by decide) dX0_allLinks_1 2 rfl rfl ?_
  refine z_iconst C dX0_allLinks_2 3 rfl ?_
  refine z_istore_n (lv' := [(2, vi 0), (1, vi 0), (0, vr G k)]) C 2 rfl (by decide) dX0_allLinks_3 4 rfl rfl ?_
  refine z_lv (lv' := [(0, vr G k), (1, vi 0), (2, vi 0)]) [2, 1, 0] rfl ?_
  exact pX0_allLinks_L4 C R hR F σ k hk F 0 0
-- isStale
def gX2_isStale (σ : St) (k : Int) (x1 : Int) : Option (Int) := if w32 (σ k 0) = w32 x1 then some 0 else some 1
def rmX2_isStale : Room := { frames := 0, cells := 0, slots := 0, locals := 0 }
set_option maxRecDepth 100000 in
set_option maxHeartbeats 4000000 in
theorem tX2_isStale (l : Launch) (G : GG) (σ : St) (k : Int) (x1 : Int) (hk : isK k (0, 2)) : Ctr l G yX2_isStale cX2_isStale 2 (some .boolean) rmX2_isStale [vr G k, vi x1] (w0 σ) vzI (wzR σ) (gX2_isStale σ k x1) := by
  refine ctr_of (by decide) (Nat.le_of_ble_eq_true rfl) mwX2_isStale.1 (fun X hl hR C R hnm => ?_)
  subst hl
  refine z_lv (lv' := [(0, vr G k), (1, vi x1)]) [0, 1] rfl ?_
  show ZZ X G 2 (QM X G vzI (wzR σ) (0, 0)) (0, 0) (if w32 (σ k 0) = w32 x1 then some 0 else some 1) (w0 σ) 0 [(0, vr G k), (1, vi x1)] []
  refine z_aload_n C 0 rfl 0 rfl dX2_isStale_0 1 rfl ?_
  refine y_getI C fX2_9 hk dX2_isStale_1 4 rfl ?_
  refine z_iload_n C 1 rfl 1 rfl dX2_isStale_4 5 rfl ?_
  refine z_icmp_eq C dX2_isStale_5 12 (by decide) 8 rfl rfl rfl (fun _ => ?_) (fun _ => ?_)
  · refine z_iconst C dX2_isStale_12 13 rfl ?_
    exact z_zret C R nz0 rfl rfl dX2_isStale_13
  · refine z_iconst C dX2_isStale_8 9 rfl ?_
    refine z_goto C dX2_isStale_9 13 (by decide) ?_
    exact z_zret C R nz1 rfl rfl dX2_isStale_13
-- start
def gX2_start (σ : St) (k : Int) (x1 : Int) : Option (St) := some (up (up (up (up (up σ k 0 x1) k 1 0) k 2 0) k 3 0) k 4 0)
def rmX2_start : Room := { frames := 0, cells := 0, slots := 0, locals := 0 }
set_option maxRecDepth 100000 in
set_option maxHeartbeats 4000000 in
theorem tX2_start (l : Launch) (G : GG) (σ : St) (k : Int) (x1 : Int) (hk : isK k (0, 2)) : Ctr l G yX2_start cX2_start 2 none rmX2_start [vr G k, vi x1] (w0 σ) vzV wzV (gX2_start σ k x1) := by
  refine ctr_of (by decide) (Nat.le_of_ble_eq_true rfl) mwX2_start.1 (fun X hl hR C R hnm => ?_)
  subst hl
  refine z_lv (lv' := [(0, vr G k), (1, vi x1)]) [0, 1] rfl ?_
  show ZZ X G 2 (QM X G vzV wzV (0, 0)) (0, 0) (some (up (up (up (up (up σ k 0 x1) k 1 0) k 2 0) k 3 0) k 4 0)) (w0 σ) 0 [(0, vr G k), (1, vi x1)] []
  refine z_aload_n C 0 rfl 0 rfl dX2_start_0 1 rfl ?_
  refine z_iload_n C 1 rfl 1 rfl dX2_start_1 2 rfl ?_
  refine y_putI C fX2_9 hk ⟨rfl, rfl⟩ dX2_start_2 5 rfl ?_
  refine z_aload_n C 0 rfl 0 rfl dX2_start_5 6 rfl ?_
  refine z_lconst (v := 0) C (by decide) dX2_start_6 7 rfl ?_
  refine y_putJ C fX2_13 hk ⟨rfl, rfl⟩ dX2_start_7 10 rfl ?_
  refine z_aload_n C 0 rfl 0 rfl dX2_start_10 11 rfl ?_
  refine z_lconst (v := 0) C (by decide) dX2_start_11 12 rfl ?_
  refine y_putJ C fX2_17 hk ⟨rfl, rfl⟩ dX2_start_12 15 rfl ?_
  refine z_aload_n C 0 rfl 0 rfl dX2_start_15 16 rfl ?_
  refine z_iconst C dX2_start_16 17 rfl ?_
  refine y_putI C fX2_20 hk ⟨rfl, rfl⟩ dX2_start_17 20 rfl ?_
  refine z_aload_n C 0 rfl 0 rfl dX2_start_20 21 rfl ?_
  refine z_iconst C dX2_start_21 22 rfl ?_
  refine y_putI C fX2_23 hk ⟨rfl, rfl⟩ dX2_start_22 25 rfl ?_
  exact z_vret C R rfl rfl dX2_start_25
-- add
def gX2_add_L22 (k : Int) (x1 : Int) (s1 : Int) (σ : St) : Option (St) := some (up (up (up (up σ k 3 s1) k 4 (if w32 ((up σ k 3 s1) k 4) < w32 x1 then x1 else (up σ k 3 s1) k 4)) k 1 (((up (up σ k 3 s1) k 4 (if w32 ((up σ k 3 s1) k 4) < w32 x1 then x1 else (up σ k 3 s1) k 4)) k 1) + (w32 x1))) k 2 (((up (up (up σ k 3 s1) k 4 (if w32 ((up σ k 3 s1) k 4) < w32 x1 then x1 else (up σ k 3 s1) k 4)) k 1 (((up (up σ k 3 s1) k 4 (if w32 ((up σ k 3 s1) k 4) < w32 x1 then x1 else (up σ k 3 s1) k 4)) k 1) + (w32 x1))) k 2) + 1))
def gX2_add (σ : St) (k : Int) (x1 : Int) : Option (St) := if w64 (σ k 2) ≠ 0 then gX2_add_L22 k x1 (if w32 x1 < w32 (σ k 3) then x1 else σ k 3) σ else gX2_add_L22 k x1 x1 σ
def rmX2_add : Room := { frames := 1, cells := 0, slots := 0, locals := 23 }
set_option maxRecDepth 100000 in
set_option maxHeartbeats 4000000 in
theorem pX2_add_L22 {X : MX} {G : GG} (C : CX X G 2 cX2_add RX2) (R : RT X none) (hR : mR X = rmX2_add) (k : Int) (hk : isK k (0, 2)) (x1 : Int)  : ∀ (s1 : Int) (σ : St), ZZ X G 2 (QM X G vzV wzV (0, 0)) (0, 0) (gX2_add_L22 k x1 s1 σ) (w0 σ) 22 [(0, vr G k), (1, vi x1)] [vi s1, vr G k] := by
  intro s1 σ
  show ZZ X G 2 (QM X G vzV wzV (0, 0)) (0, 0) (some (up (up (up (up σ k 3 s1) k 4 (if w32 ((up σ k 3 s1) k 4) < w32 x1 then x1 else (up σ k 3 s1) k 4)) k 1 (((up (up σ k 3 s1) k 4 (if w32 ((up σ k 3 s1) k 4) < w32 x1 then x1 else (up σ k 3 s1) k 4)) k 1) + (w32 x1))) k 2 (((up (up (up σ k 3 s1) k 4 (if w32 ((up σ k 3 s1) k 4) < w32 x1 then x1 else (up σ k 3 s1) k 4)) k 1 (((up (up σ k 3 s1) k 4 (if w32 ((up σ k 3 s1) k 4) < w32 x1 then x1 else (up σ k 3 s1) k 4)) k 1) + (w32 x1))) k 2) + 1))) (w0 σ) 22 [(0, vr G k), (1, vi x1)] [vi s1, vr G k]
  refine y_putI C fX2_20 hk ⟨rfl, rfl⟩ dX2_add_22 25 rfl ?_
  refine z_aload_n C 0 rfl 0 rfl dX2_add_25 26 rfl ?_
  refine z_aload_n C 0 rfl 0 rfl dX2_add_26 27 rfl ?_
  refine y_getI C fX2_23 hk dX2_add_27 30 rfl ?_
  refine z_iload_n C 1 rfl 1 rfl dX2_add_30 31 rfl ?_
  refine y_maxI C hR lkX2_32 (Nat.le_of_ble_eq_true rfl) (by decide) dX2_add_31 34 rfl ?_
  refine y_putI C fX2_23 hk ⟨rfl, rfl⟩ dX2_add_34 37 rfl ?_
  refine z_aload_n C 0 rfl 0 rfl dX2_add_37 38 rfl ?_
  refine z_dup C rfl dX2_add_38 39 rfl ?_
  refine y_getJ C fX2_13 hk dX2_add_39 42 rfl ?_
  refine z_iload_n C 1 rfl 1 rfl dX2_add_42 43 rfl ?_
  refine z_i2l C dX2_add_43 44 rfl ?_
  refine z_ladd C dX2_add_44 45 rfl ?_
  refine y_putJ C fX2_13 hk ⟨rfl, rfl⟩ dX2_add_45 48 rfl ?_
  refine z_aload_n C 0 rfl 0 rfl dX2_add_48 49 rfl ?_
  refine z_dup C rfl dX2_add_49 50 rfl ?_
  refine y_getJ C fX2_17 hk dX2_add_50 53 rfl ?_
  refine z_lconst (v := 1) C (by decide) dX2_add_53 54 rfl ?_
  refine z_ladd C dX2_add_54 55 rfl ?_
  refine y_putJ C fX2_17 hk ⟨rfl, rfl⟩ dX2_add_55 58 rfl ?_
  exact z_vret C R rfl rfl dX2_add_58
set_option maxRecDepth 100000 in
set_option maxHeartbeats 4000000 in
theorem tX2_add (l : Launch) (G : GG) (σ : St) (k : Int) (x1 : Int) (hk : isK k (0, 2)) : Ctr l G yX2_add cX2_add 2 none rmX2_add [vr G k, vi x1] (w0 σ) vzV wzV (gX2_add σ k x1) := by
  refine ctr_of (by decide) (Nat.le_of_ble_eq_true rfl) mwX2_add.1 (fun X hl hR C R hnm => ?_)
  subst hl
  refine z_lv (lv' := [(0, vr G k), (1, vi x1)]) [0, 1] rfl ?_
  show ZZ X G 2 (QM X G vzV wzV (0, 0)) (0, 0) (if w64 (σ k 2) ≠ 0 then gX2_add_L22 k x1 (if w32 x1 < w32 (σ k 3) then x1 else σ k 3) σ else gX2_add_L22 k x1 x1 σ) (w0 σ) 0 [(0, vr G k), (1, vi x1)] []
  refine z_aload_n C 0 rfl 0 rfl dX2_add_0 1 rfl ?_
  refine z_aload_n C 0 rfl 0 rfl dX2_add_1 2 rfl ?_
  refine y_getJ C fX2_17 hk dX2_add_2 5 rfl ?_
  refine z_lconst (v := 0) C (by decide) dX2_add_5 6 rfl ?_
  refine z_lif_ne C dX2_add_6 7 rfl dX2_add_7 14 (by decide) 10 rfl rfl (w64_id (a := 0) (by decide)) (fun _ => ?_) (fun _ => ?_)
  · refine z_aload_n C 0 rfl 0 rfl dX2_add_14 15 rfl ?_
    refine y_getI C fX2_20 hk dX2_add_15 18 rfl ?_
    refine z_iload_n C 1 rfl 1 rfl dX2_add_18 19 rfl ?_
    refine y_minI C hR lkX2_26 (Nat.le_of_ble_eq_true rfl) (by decide) dX2_add_19 22 rfl ?_
    exact pX2_add_L22 C R hR k hk x1 (if w32 x1 < w32 (σ k 3) then x1 else σ k 3) σ
  · refine z_iload_n C 1 rfl 1 rfl dX2_add_10 11 rfl ?_
    refine z_goto C dX2_add_11 22 (by decide) ?_
    exact pX2_add_L22 C R hR k hk x1 x1 σ
-- addLayer
def gX4_addLayer_L12 (F : Nat) (k : Int) (x1 : Int) (x2 : Int) : Nat → Int → Int → St → Option (St)
  | 0, _, _, _ => none
  | n + 1, x3, x4, σ => gd (0 ≤ w32 x1 ∧ w32 x1 < 6) (if w32 x4 ≥ w32 (σ (k + 1) (w32 x1)) then some σ else if w32 (x3 + x4) ≥ 486 then some σ else gd (0 ≤ w32 x4 ∧ w32 x4 < 486) (gd (0 ≤ w32 (x3 + x4) ∧ w32 (x3 + x4) < 486) (gd (0 ≤ w32 x4 ∧ w32 x4 < 486) (gd (0 ≤ w32 (x3 + x4) ∧ w32 (x3 + x4) < 486) (gX4_addLayer_L12 F k x1 x2 n x3 (x4 + 1) (up (up σ (k + 2) (w32 (x3 + x4)) (ior (σ (k + 2) (w32 x4)) (ishl 1 x1))) (k + 3) (w32 (x3 + x4)) (((up σ (k + 2) (w32 (x3 + x4)) (ior (σ (k + 2) (w32 x4)) (ishl 1 x1))) (k + 3) (w32 x4)) + x2)))))))
def gX4_addLayer (F : Nat) (σ : St) (k : Int) (x1 : Int) (x2 : Int) : Option (St) := gd (0 ≤ w32 x1 ∧ w32 x1 < 6) (gX4_addLayer_L12 F k x1 x2 F ((σ (k + 1) (w32 x1)) * x2) 0 σ)
def rmX4_addLayer : Room := { frames := 0, cells := 0, slots := 0, locals := 0 }
set_option maxRecDepth 100000 in
set_option maxHeartbeats 4000000 in
theorem pX4_addLayer_L12 {X : MX} {G : GG} (C : CX X G 5 cX4_addLayer RX4) (R : RT X none) (hR : mR X = rmX4_addLayer) (F : Nat) (k : Int) (hk : isK k (0, 4)) (x1 : Int) (x2 : Int)  : ∀ (n : Nat) (x3 : Int) (x4 : Int) (σ : St), ZZ X G 5 (QM X G vzV wzV (0, 0)) (0, 0) (gX4_addLayer_L12 F k x1 x2 n x3 x4 σ) (w0 σ) 12 [(0, vr G k), (1, vi x1), (2, vi x2), (3, vi x3), (4, vi x4)] [] := by
  intro n
  induction n with
  | zero =>
    intro _ _ _
    exact z_none
  | succ n ih =>
    intro x3 x4 σ
    show ZZ X G 5 (QM X G vzV wzV (0, 0)) (0, 0) (gd (0 ≤ w32 x1 ∧ w32 x1 < 6) (if w32 x4 ≥ w32 (σ (k + 1) (w32 x1)) then some σ else if w32 (x3 + x4) ≥ 486 then some σ else gd (0 ≤ w32 x4 ∧ w32 x4 < 486) (gd (0 ≤ w32 (x3 + x4) ∧ w32 (x3 + x4) < 486) (gd (0 ≤ w32 x4 ∧ w32 x4 < 486) (gd (0 ≤ w32 (x3 + x4) ∧ w32 (x3 + x4) < 486) (gX4_addLayer_L12 F k x1 x2 n x3 (x4 + 1) (up (up σ (k + 2) (w32 (x3 + x4)) (ior (σ (k + 2) (w32 x4)) (ishl 1 x1))) (k + 3) (w32 (x3 + x4)) (((up σ (k + 2) (w32 (x3 + x4)) (ior (σ (k + 2) (w32 x4)) (ishl 1 x1))) (k + 3) (w32 x4)) + x2)))))))) (w0 σ) 12 [(0, vr G k), (1, vi x1), (2, vi x2), (3, vi x3), (4, vi x4)] []
    refine z_iload C 4 rfl dX4_addLayer_12 14 rfl ?_
    refine z_aload_n C 0 rfl 0 rfl dX4_addLayer_14 15 rfl ?_
    refine y_getR C fX4_9 hk (lay_4_0 hk) dX4_addLayer_15 18 rfl ?_
    refine z_iload_n C 1 rfl 1 rfl dX4_addLayer_18 19 rfl ?_
    refine y_iald C ((lay_4_0 hk).2) rfl dX4_addLayer_19 20 rfl rfl (fun _ => ?_)
    refine z_icmp_ge C dX4_addLayer_20 77 (by decide) 23 rfl rfl rfl (fun _ => ?_) (fun _ => ?_)
    · exact z_vret C R rfl rfl dX4_addLayer_77
    · refine z_iload_n C 3 rfl 3 rfl dX4_addLayer_23 24 rfl ?_
      refine z_iload C 4 rfl dX4_addLayer_24 26 rfl ?_
      refine z_iadd C dX4_addLayer_26 27 rfl ?_
      refine z_sipush C (by decide) dX4_addLayer_27 30 rfl ?_
      refine z_icmp_ge C dX4_addLayer_30 77 (by decide) 33 rfl rfl (w32_id (a := 486) (by decide)) (fun _ => ?_) (fun _ => ?_)
      · exact z_vret C R rfl rfl dX4_addLayer_77
      · refine z_aload_n C 0 rfl 0 rfl dX4_addLayer_33 34 rfl ?_
        refine y_getR C fX4_15 hk (lay_4_1 hk) dX4_addLayer_34 37 rfl ?_
        refine z_iload_n C 3 rfl 3 rfl dX4_addLayer_37 38 rfl ?_
        refine z_iload C 4 rfl dX4_addLayer_38 40 rfl ?_
        refine z_iadd C dX4_addLayer_40 41 rfl ?_
        refine z_aload_n C 0 rfl 0 rfl dX4_addLayer_41 42 rfl ?_
        refine y_getR C fX4_15 hk (lay_4_1 hk) dX4_addLayer_42 45 rfl ?_
        refine z_iload C 4 rfl dX4_addLayer_45 47 rfl ?_
        refine y_iald C ((lay_4_1 hk).2) rfl dX4_addLayer_47 48 rfl rfl (fun _ => ?_)
        refine z_iconst C dX4_addLayer_48 49 rfl ?_
        refine z_iload_n C 1 rfl 1 rfl dX4_addLayer_49 50 rfl ?_
        refine z_ishl C dX4_addLayer_50 51 rfl ?_
        refine z_ior C dX4_addLayer_51 52 rfl ?_
        refine y_iast C ((lay_4_1 hk).2) rfl dX4_addLayer_52 53 rfl rfl (fun _ => ?_)
        refine z_aload_n C 0 rfl 0 rfl dX4_addLayer_53 54 rfl ?_
        refine y_getR C fX4_18 hk (lay_4_2 hk) dX4_addLayer_54 57 rfl ?_
        refine z_iload_n C 3 rfl 3 rfl dX4_addLayer_57 58 rfl ?_
        refine z_iload C 4 rfl dX4_addLayer_58 60 rfl ?_
        refine z_iadd C dX4_addLayer_60 61 rfl ?_
        refine z_aload_n C 0 rfl 0 rfl dX4_addLayer_61 62 rfl ?_
        refine y_getR C fX4_18 hk (lay_4_2 hk) dX4_addLayer_62 65 rfl ?_
        refine z_iload C 4 rfl dX4_addLayer_65 67 rfl ?_
        refine y_iald C ((lay_4_2 hk).2) rfl dX4_addLayer_67 68 rfl rfl (fun _ => ?_)
        refine z_iload_n C 2 rfl 2 rfl dX4_addLayer_68 69 rfl ?_
        refine z_iadd C dX4_addLayer_69 70 rfl ?_
        refine y_iast C ((lay_4_2 hk).2) rfl dX4_addLayer_70 71 rfl rfl (fun _ => ?_)
        refine z_iinc (lv' := [(4, vi (x4 + 1)), (0, vr G k), (1, vi x1), (2, vi x2), (3, vi x3)]) C (by decide) 4 rfl dX4_addLayer_71 74 rfl rfl ?_
        refine z_goto C dX4_addLayer_74 12 (by decide) ?_
        refine z_lv (lv' := [(0, vr G k), (1, vi x1), (2, vi x2), (3, vi x3), (4, vi (x4 + 1))]) [1, 2, 3, 4, 0] rfl ?_
        exact ih x3 (x4 + 1) (up (up σ (k + 2) (w32 (x3 + x4)) (ior (σ (k + 2) (w32 x4)) (ishl 1 x1))) (k + 3) (w32 (x3 + x4)) (((up σ (k + 2) (w32 (x3 + x4)) (ior (σ (k + 2) (w32 x4)) (ishl 1 x1))) (k + 3) (w32 x4)) + x2))
set_option maxRecDepth 100000 in
set_option maxHeartbeats 4000000 in
theorem tX4_addLayer (l : Launch) (G : GG) (F : Nat) (σ : St) (k : Int) (x1 : Int) (x2 : Int) (hk : isK k (0, 4)) : Ctr l G yX4_addLayer cX4_addLayer 5 none rmX4_addLayer [vr G k, vi x1, vi x2] (w0 σ) vzV wzV (gX4_addLayer F σ k x1 x2) := by
  refine ctr_of (by decide) (Nat.le_of_ble_eq_true rfl) mwX4_addLayer.1 (fun X hl hR C R hnm => ?_)
  subst hl
  refine z_lv (lv' := [(0, vr G k), (1, vi x1), (2, vi x2)]) [0, 1, 2] rfl ?_
  show ZZ X G 5 (QM X G vzV wzV (0, 0)) (0, 0) (gd (0 ≤ w32 x1 ∧ w32 x1 < 6) (gX4_addLayer_L12 F k x1 x2 F ((σ (k + 1) (w32 x1)) * x2) 0 σ)) (w0 σ) 0 [(0, vr G k), (1, vi x1), (2, vi x2)] []
  refine z_aload_n C 0 rfl 0 rfl dX4_addLayer_0 1 rfl ?_
  refine y_getR C fX4_9 hk (lay_4_0 hk) dX4_addLayer_1 4 rfl ?_
  refine z_iload_n C 1 rfl 1 rfl dX4_addLayer_4 5 rfl ?_
  refine y_iald C ((lay_4_0 hk).2) rfl dX4_addLayer_5 6 rfl rfl (fun _ => ?_)
  refine z_iload_n C 2 rfl 2 rfl dX4_addLayer_6 7 rfl ?_
  refine z_imul C dX4_addLayer_7 8 rfl ?_
  refine z_istore_n (lv' := [(3, vi ((σ (k + 1) (w32 x1)) * x2)), (0, vr G k), (1, vi x1), (2, vi x2)]) C 3 rfl (by decide) dX4_addLayer_8 9 rfl rfl ?_
  refine z_iconst C dX4_addLayer_9 10 rfl ?_
  refine z_istore (lv' := [(4, vi 0), (3, vi ((σ (k + 1) (w32 x1)) * x2)), (0, vr G k), (1, vi x1), (2, vi x2)]) C (by decide) dX4_addLayer_10 12 rfl rfl ?_
  refine z_lv (lv' := [(0, vr G k), (1, vi x1), (2, vi x2), (3, vi ((σ (k + 1) (w32 x1)) * x2)), (4, vi 0)]) [2, 3, 4, 1, 0] rfl ?_
  exact pX4_addLayer_L12 C R hR F k hk x1 x2 F ((σ (k + 1) (w32 x1)) * x2) 0 σ
-- shape
def gX4_shape_L61 (F : Nat) (k : Int) (x1 : Int) (x2 : Int) (c21 : Int → St → Option (St)) : Nat → Int → Int → Int → St → Option (St)
  | 0, _, _, _, _ => none
  | n + 1, x3, x4, x5, σ => if w32 x5 > w32 x4 then gd (0 ≤ w32 x3 ∧ w32 x3 < 6) (c21 (x3 + 1) (up σ k 3 ((σ (k + 1) (w32 x3)) * (x4 + 1)))) else (gX4_addLayer F σ k x3 x5).bind fun r1 => gX4_shape_L61 F k x1 x2 c21 n x3 x4 (x5 + 1) r1
def gX4_shape_L55 (F : Nat) (k : Int) (x1 : Int) (x2 : Int) (c21 : Int → St → Option (St)) (x3 : Int) (s0 : Int) (s1 : Int) (σ : St) : Option (St) := gX4_shape_L61 F k x1 x2 c21 F x3 (s0 + s1) 1 σ
def gX4_shape_L21 (F : Nat) (k : Int) (x1 : Int) (x2 : Int) : Nat → Int → St → Option (St)
  | 0, _, _ => none
  | n + 1, x3, σ => if w32 x3 ≥ w32 (σ x1 5) then some σ else gd (0 ≤ w32 x3 ∧ w32 x3 < 6) (gd (0 ≤ w32 x3 ∧ w32 x3 < 6) (if w32 x3 ≠ w32 x2 then gX4_shape_L55 F k x1 x2 (gX4_shape_L21 F k x1 x2 n) x3 ((up σ (k + 1) (w32 x3) (σ k 3)) (x1 + 1) (w32 x3)) 0 (up σ (k + 1) (w32 x3) (σ k 3)) else gX4_shape_L55 F k x1 x2 (gX4_shape_L21 F k x1 x2 n) x3 ((up σ (k + 1) (w32 x3) (σ k 3)) (x1 + 1) (w32 x3)) 1 (up σ (k + 1) (w32 x3) (σ k 3))))
def gX4_shape (F : Nat) (σ : St) (k : Int) (x1 : Int) (x2 : Int) : Option (St) := gd (0 ≤ 0 ∧ 0 < 486) (gd (0 ≤ 0 ∧ 0 < 486) (gX4_shape_L21 F k x1 x2 F 0 (up (up (up σ k 3 1) (k + 2) 0 0) (k + 3) 0 0)))
def rmX4_shape : Room := { frames := 1, cells := 0, slots := 0, locals := 24 }
set_option maxRecDepth 100000 in
set_option maxHeartbeats 4000000 in
theorem pX4_shape_L61 {X : MX} {G : GG} (C : CX X G 6 cX4_shape RX4) (R : RT X none) (hR : mR X = rmX4_shape) (F : Nat) (k : Int) (hk : isK k (0, 4)) (x1 : Int) (h1 : isK x1 (0, 0)) (x2 : Int) (c21 : Int → St → Option (St)) (hc21 : ∀ (x3 : Int) (σ : St), ZZ X G 6 (QM X G vzV wzV (0, 0)) (0, 0) (c21 x3 σ) (w0 σ) 21 [(0, vr G k), (1, vr G x1), (2, vi x2), (3, vi x3)] []) : ∀ (n : Nat) (x3 : Int) (x4 : Int) (x5 : Int) (σ : St), ZZ X G 6 (QM X G vzV wzV (0, 0)) (0, 0) (gX4_shape_L61 F k x1 x2 c21 n x3 x4 x5 σ) (w0 σ) 61 [(0, vr G k), (1, vr G x1), (2, vi x2), (3, vi x3), (4, vi x4), (5, vi x5)] [] := by
  intro n
  induction n with
  | zero =>
    intro _ _ _ _
    exact z_none
  | succ n ih =>
    intro x3 x4 x5 σ
    show ZZ X G 6 (QM X G vzV wzV (0, 0)) (0, 0) (if w32 x5 > w32 x4 then gd (0 ≤ w32 x3 ∧ w32 x3 < 6) (c21 (x3 + 1) (up σ k 3 ((σ (k + 1) (w32 x3)) * (x4 + 1)))) else (gX4_addLayer F σ k x3 x5).bind fun r1 => gX4_shape_L61 F k x1 x2 c21 n x3 x4 (x5 + 1) r1) (w0 σ) 61 [(0, vr G k), (1, vr G x1), (2, vi x2), (3, vi x3), (4, vi x4), (5, vi x5)] []
    refine z_iload C 5 rfl dX4_shape_61 63 rfl ?_
    refine z_iload C 4 rfl dX4_shape_63 65 rfl ?_
    refine z_icmp_gt C dX4_shape_65 81 (by decide) 68 rfl rfl rfl (fun _ => ?_) (fun _ => ?_)
    · refine z_aload_n C 0 rfl 0 rfl dX4_shape_81 82 rfl ?_
      refine z_aload_n C 0 rfl 0 rfl dX4_shape_82 83 rfl ?_
      refine y_getR C fX4_9 hk (lay_4_0 hk) dX4_shape_83 86 rfl ?_
      refine z_iload_n C 3 rfl 3 rfl dX4_shape_86 87 rfl ?_
      refine y_iald C ((lay_4_0 hk).2) rfl dX4_shape_87 88 rfl rfl (fun _ => ?_)
      refine z_iload C 4 rfl dX4_shape_88 90 rfl ?_
      refine z_iconst C dX4_shape_90 91 rfl ?_
      refine z_iadd C dX4_shape_91 92 rfl ?_
      refine z_imul C dX4_shape_92 93 rfl ?_
      refine y_putI C fX4_21 hk ⟨rfl, rfl⟩ dX4_shape_93 96 rfl ?_
      refine z_iinc (lv' := [(3, vi (x3 + 1)), (0, vr G k), (1, vr G x1), (2, vi x2), (4, vi x4), (5, vi x5)]) C (by decide) 3 rfl dX4_shape_96 99 rfl rfl ?_
      refine z_goto C dX4_shape_99 21 (by decide) ?_
      refine z_lv (lv' := [(0, vr G k), (1, vr G x1), (2, vi x2), (3, vi (x3 + 1))]) [1, 2, 3, 0] rfl ?_
      exact hc21 (x3 + 1) (up σ k 3 ((σ (k + 1) (w32 x3)) * (x4 + 1)))
    · refine z_aload_n C 0 rfl 0 rfl dX4_shape_68 69 rfl ?_
      refine z_iload_n C 3 rfl 3 rfl dX4_shape_69 70 rfl ?_
      refine z_iload C 5 rfl dX4_shape_70 72 rfl ?_
      refine y_callVv C hR (tX4_addLayer (mL X) G F σ k x3 x5 hk) ⟨mwX4_addLayer, mvX4_addLayer, lkX4_33⟩ hk rfl rfl (Nat.le_of_ble_eq_true rfl) (by unfold rmOK; decide) dX4_shape_72 75 rfl (fun r1 _ => ?_)
      refine z_iinc (lv' := [(5, vi (x5 + 1)), (0, vr G k), (1, vr G x1), (2, vi x2), (3, vi x3), (4, vi x4)]) C (by decide) 5 rfl dX4_shape_75 78 rfl rfl ?_
      refine z_goto C dX4_shape_78 61 (by decide) ?_
      refine z_lv (lv' := [(0, vr G k), (1, vr G x1), (2, vi x2), (3, vi x3), (4, vi x4), (5, vi (x5 + 1))]) [1, 2, 3, 4, 5, 0] rfl ?_
      exact ih x3 x4 (x5 + 1) r1
set_option maxRecDepth 100000 in
set_option maxHeartbeats 4000000 in
theorem pX4_shape_L55 {X : MX} {G : GG} (C : CX X G 6 cX4_shape RX4) (R : RT X none) (hR : mR X = rmX4_shape) (F : Nat) (k : Int) (hk : isK k (0, 4)) (x1 : Int) (h1 : isK x1 (0, 0)) (x2 : Int) (c21 : Int → St → Option (St)) (hc21 : ∀ (x3 : Int) (σ : St), ZZ X G 6 (QM X G vzV wzV (0, 0)) (0, 0) (c21 x3 σ) (w0 σ) 21 [(0, vr G k), (1, vr G x1), (2, vi x2), (3, vi x3)] []) : ∀ (x3 : Int) (s0 : Int) (s1 : Int) (σ : St), ZZ X G 6 (QM X G vzV wzV (0, 0)) (0, 0) (gX4_shape_L55 F k x1 x2 c21 x3 s0 s1 σ) (w0 σ) 55 [(0, vr G k), (1, vr G x1), (2, vi x2), (3, vi x3)] [vi s1, vi s0] := by
  intro x3 s0 s1 σ
  show ZZ X G 6 (QM X G vzV wzV (0, 0)) (0, 0) (gX4_shape_L61 F k x1 x2 c21 F x3 (s0 + s1) 1 σ) (w0 σ) 55 [(0, vr G k), (1, vr G x1), (2, vi x2), (3, vi x3)] [vi s1, vi s0]
  refine z_iadd C dX4_shape_55 56 rfl ?_
  refine z_istore (lv' := [(4, vi (s0 + s1)), (0, vr G k), (1, vr G x1), (2, vi x2), (3, vi x3)]) C (by decide) dX4_shape_56 58 rfl rfl ?_
  refine z_iconst C dX4_shape_58 59 rfl ?_
  refine z_istore (lv' := [(5, vi 1), (4, vi (s0 + s1)), (0, vr G k), (1, vr G x1), (2, vi x2), (3, vi x3)]) C (by decide) dX4_shape_59 61 rfl rfl ?_
  refine z_lv (lv' := [(0, vr G k), (1, vr G x1), (2, vi x2), (3, vi x3), (4, vi (s0 + s1)), (5, vi 1)]) [2, 3, 4, 5, 1, 0] rfl ?_
  exact pX4_shape_L61 C R hR F k hk x1 h1 x2 c21 hc21 F x3 (s0 + s1) 1 σ
set_option maxRecDepth 100000 in
set_option maxHeartbeats 4000000 in
theorem pX4_shape_L21 {X : MX} {G : GG} (C : CX X G 6 cX4_shape RX4) (R : RT X none) (hR : mR X = rmX4_shape) (F : Nat) (k : Int) (hk : isK k (0, 4)) (x1 : Int) (h1 : isK x1 (0, 0)) (x2 : Int)  : ∀ (n : Nat) (x3 : Int) (σ : St), ZZ X G 6 (QM X G vzV wzV (0, 0)) (0, 0) (gX4_shape_L21 F k x1 x2 n x3 σ) (w0 σ) 21 [(0, vr G k), (1, vr G x1), (2, vi x2), (3, vi x3)] [] := by
  intro n
  induction n with
  | zero =>
    intro _ _
    exact z_none
  | succ n ih =>
    intro x3 σ
    show ZZ X G 6 (QM X G vzV wzV (0, 0)) (0, 0) (if w32 x3 ≥ w32 (σ x1 5) then some σ else gd (0 ≤ w32 x3 ∧ w32 x3 < 6) (gd (0 ≤ w32 x3 ∧ w32 x3 < 6) (if w32 x3 ≠ w32 x2 then gX4_shape_L55 F k x1 x2 (gX4_shape_L21 F k x1 x2 n) x3 ((up σ (k + 1) (w32 x3) (σ k 3)) (x1 + 1) (w32 x3)) 0 (up σ (k + 1) (w32 x3) (σ k 3)) else gX4_shape_L55 F k x1 x2 (gX4_shape_L21 F k x1 x2 n) x3 ((up σ (k + 1) (w32 x3) (σ k 3)) (x1 + 1) (w32 x3)) 1 (up σ (k + 1) (w32 x3) (σ k 3))))) (w0 σ) 21 [(0, vr G k), (1, vr G x1), (2, vi x2), (3, vi x3)] []
    refine z_iload_n C 3 rfl 3 rfl dX4_shape_21 22 rfl ?_
    refine z_aload_n C 1 rfl 1 rfl dX4_shape_22 23 rfl ?_
    refine y_getI C fX4_25 h1 dX4_shape_23 26 rfl ?_
    refine z_icmp_ge C dX4_shape_26 102 (by decide) 29 rfl rfl rfl (fun _ => ?_) (fun _ => ?_)
    · exact z_vret C R rfl rfl dX4_shape_102
    · refine z_aload_n C 0 rfl 0 rfl dX4_shape_29 30 rfl ?_
      refine y_getR C fX4_9 hk (lay_4_0 hk) dX4_shape_30 33 rfl ?_
      refine z_iload_n C 3 rfl 3 rfl dX4_shape_33 34 rfl ?_
      refine z_aload_n C 0 rfl 0 rfl dX4_shape_34 35 rfl ?_
      refine y_getI C fX4_21 hk dX4_shape_35 38 rfl ?_
      refine y_iast C ((lay_4_0 hk).2) rfl dX4_shape_38 39 rfl rfl (fun _ => ?_)
      refine z_aload_n C 1 rfl 1 rfl dX4_shape_39 40 rfl ?_
      refine y_getR C fX4_30 h1 (lay_0_0 h1) dX4_shape_40 43 rfl ?_
      refine z_iload_n C 3 rfl 3 rfl dX4_shape_43 44 rfl ?_
      refine y_iald C ((lay_0_0 h1).2) rfl dX4_shape_44 45 rfl rfl (fun _ => ?_)
      refine z_iload_n C 3 rfl 3 rfl dX4_shape_45 46 rfl ?_
      refine z_iload_n C 2 rfl 2 rfl dX4_shape_46 47 rfl ?_
      refine z_icmp_ne C dX4_shape_47 54 (by decide) 50 rfl rfl rfl (fun _ => ?_) (fun _ => ?_)
      · refine z_iconst C dX4_shape_54 55 rfl ?_
        exact pX4_shape_L55 C R hR F k hk x1 h1 x2 (gX4_shape_L21 F k x1 x2 n) ih x3 ((up σ (k + 1) (w32 x3) (σ k 3)) (x1 + 1) (w32 x3)) 0 (up σ (k + 1) (w32 x3) (σ k 3))
      · refine z_iconst C dX4_shape_50 51 rfl ?_
        refine z_goto C dX4_shape_51 55 (by decide) ?_
        exact pX4_shape_L55 C R hR F k hk x1 h1 x2 (gX4_shape_L21 F k x1 x2 n) ih x3 ((up σ (k + 1) (w32 x3) (σ k 3)) (x1 + 1) (w32 x3)) 1 (up σ (k + 1) (w32 x3) (σ k 3))
set_option maxRecDepth 100000 in
set_option maxHeartbeats 4000000 in
theorem tX4_shape (l : Launch) (G : GG) (F : Nat) (σ : St) (k : Int) (x1 : Int) (x2 : Int) (hk : isK k (0, 4)) (h1 : isK x1 (0, 0)) : Ctr l G yX4_shape cX4_shape 6 none rmX4_shape [vr G k, vr G x1, vi x2] (w0 σ) vzV wzV (gX4_shape F σ k x1 x2) := by
  refine ctr_of (by decide) (Nat.le_of_ble_eq_true rfl) mwX4_shape.1 (fun X hl hR C R hnm => ?_)
  subst hl
  refine z_lv (lv' := [(0, vr G k), (1, vr G x1), (2, vi x2)]) [0, 1, 2] rfl ?_
  show ZZ X G 6 (QM X G vzV wzV (0, 0)) (0, 0) (gd (0 ≤ 0 ∧ 0 < 486) (gd (0 ≤ 0 ∧ 0 < 486) (gX4_shape_L21 F k x1 x2 F 0 (up (up (up σ k 3 1) (k + 2) 0 0) (k + 3) 0 0)))) (w0 σ) 0 [(0, vr G k), (1, vr G x1), (2, vi x2)] []
  refine z_aload_n C 0 rfl 0 rfl dX4_shape_0 1 rfl ?_
  refine z_iconst C dX4_shape_1 2 rfl ?_
  refine y_putI C fX4_21 hk ⟨rfl, rfl⟩ dX4_shape_2 5 rfl ?_
  refine z_aload_n C 0 rfl 0 rfl dX4_shape_5 6 rfl ?_
  refine y_getR C fX4_15 hk (lay_4_1 hk) dX4_shape_6 9 rfl ?_
  refine z_iconst C dX4_shape_9 10 rfl ?_
  refine z_iconst C dX4_shape_10 11 rfl ?_
  refine y_iast C ((lay_4_1 hk).2) rfl dX4_shape_11 12 rfl (w32_id (a := 0) (by decide)) (fun _ => ?_)
  refine z_aload_n C 0 rfl 0 rfl dX4_shape_12 13 rfl ?_
  refine y_getR C fX4_18 hk (lay_4_2 hk) dX4_shape_13 16 rfl ?_
  refine z_iconst C dX4_shape_16 17 rfl ?_
  refine z_iconst C dX4_shape_17 18 rfl ?_
  refine y_iast C ((lay_4_2 hk).2) rfl dX4_shape_18 19 rfl (w32_id (a := 0) (by decide)) (fun _ => ?_)
  refine z_iconst C dX4_shape_19 20 rfl ?_
  refine z_istore_n (lv' := [(3, vi 0), (0, vr G k), (1, vr G x1), (2, vi x2)]) C 3 rfl (by decide) dX4_shape_20 21 rfl rfl ?_
  refine z_lv (lv' := [(0, vr G k), (1, vr G x1), (2, vi x2), (3, vi 0)]) [1, 2, 3, 0] rfl ?_
  exact pX4_shape_L21 C R hR F k hk x1 h1 x2 F 0 (up (up (up σ k 3 1) (k + 2) 0 0) (k + 3) 0 0)
-- allFree
def gX4_allFree (σ : St) (k : Int) : Option (Int) := some ((σ k 3) - 1)
def rmX4_allFree : Room := { frames := 0, cells := 0, slots := 0, locals := 0 }
set_option maxRecDepth 100000 in
set_option maxHeartbeats 4000000 in
theorem tX4_allFree (l : Launch) (G : GG) (σ : St) (k : Int) (hk : isK k (0, 4)) : Ctr l G yX4_allFree cX4_allFree 1 (some .int) rmX4_allFree [vr G k] (w0 σ) vzI (wzR σ) (gX4_allFree σ k) := by
  refine ctr_of (by decide) (Nat.le_of_ble_eq_true rfl) mwX4_allFree.1 (fun X hl hR C R hnm => ?_)
  subst hl
  refine z_lv (lv' := [(0, vr G k)]) [0] rfl ?_
  show ZZ X G 1 (QM X G vzI (wzR σ) (0, 0)) (0, 0) (some ((σ k 3) - 1)) (w0 σ) 0 [(0, vr G k)] []
  refine z_aload_n C 0 rfl 0 rfl dX4_allFree_0 1 rfl ?_
  refine y_getI C fX4_21 hk dX4_allFree_1 4 rfl ?_
  refine z_iconst C dX4_allFree_4 5 rfl ?_
  refine z_isub C dX4_allFree_5 6 rfl ?_
  exact z_iret C R rfl rfl dX4_allFree_6
-- isOpen
def gX4_isOpen (σ : St) (k : Int) (x1 : Int) (x2 : Int) : Option (Int) := gd (0 ≤ w32 x1 ∧ w32 x1 < 486) (if iand (ishr (σ (k + 2) (w32 x1)) x2) 1 = 0 then some 0 else some 1)
def rmX4_isOpen : Room := { frames := 0, cells := 0, slots := 0, locals := 0 }
set_option maxRecDepth 100000 in
set_option maxHeartbeats 4000000 in
theorem tX4_isOpen (l : Launch) (G : GG) (σ : St) (k : Int) (x1 : Int) (x2 : Int) (hk : isK k (0, 4)) : Ctr l G yX4_isOpen cX4_isOpen 3 (some .boolean) rmX4_isOpen [vr G k, vi x1, vi x2] (w0 σ) vzI (wzR σ) (gX4_isOpen σ k x1 x2) := by
  refine ctr_of (by decide) (Nat.le_of_ble_eq_true rfl) mwX4_isOpen.1 (fun X hl hR C R hnm => ?_)
  subst hl
  refine z_lv (lv' := [(0, vr G k), (1, vi x1), (2, vi x2)]) [0, 1, 2] rfl ?_
  show ZZ X G 3 (QM X G vzI (wzR σ) (0, 0)) (0, 0) (gd (0 ≤ w32 x1 ∧ w32 x1 < 486) (if iand (ishr (σ (k + 2) (w32 x1)) x2) 1 = 0 then some 0 else some 1)) (w0 σ) 0 [(0, vr G k), (1, vi x1), (2, vi x2)] []
  refine z_aload_n C 0 rfl 0 rfl dX4_isOpen_0 1 rfl ?_
  refine y_getR C fX4_15 hk (lay_4_1 hk) dX4_isOpen_1 4 rfl ?_
  refine z_iload_n C 1 rfl 1 rfl dX4_isOpen_4 5 rfl ?_
  refine y_iald C ((lay_4_1 hk).2) rfl dX4_isOpen_5 6 rfl rfl (fun _ => ?_)
  refine z_iload_n C 2 rfl 2 rfl dX4_isOpen_6 7 rfl ?_
  refine z_ishr C dX4_isOpen_7 8 rfl ?_
  refine z_iconst C dX4_isOpen_8 9 rfl ?_
  refine z_iand C dX4_isOpen_9 10 rfl ?_
  refine z_if_eq C dX4_isOpen_10 17 (by decide) 13 rfl (w32_iand _ _) (fun _ => ?_) (fun _ => ?_)
  · refine z_iconst C dX4_isOpen_17 18 rfl ?_
    exact z_zret C R nz0 rfl rfl dX4_isOpen_18
  · refine z_iconst C dX4_isOpen_13 14 rfl ?_
    refine z_goto C dX4_isOpen_14 18 (by decide) ?_
    exact z_zret C R nz1 rfl rfl dX4_isOpen_18
-- isKnown
def gX9_isKnown (σ : St) (k : Int) : Option (Int) := if w32 (σ k 1) ≤ 0 then some 0 else some 1
def rmX9_isKnown : Room := { frames := 0, cells := 0, slots := 0, locals := 0 }
set_option maxRecDepth 100000 in
set_option maxHeartbeats 4000000 in
theorem tX9_isKnown (l : Launch) (G : GG) (σ : St) (k : Int) (hk : isK k (0, 9)) : Ctr l G yX9_isKnown cX9_isKnown 1 (some .boolean) rmX9_isKnown [vr G k] (w0 σ) vzI (wzR σ) (gX9_isKnown σ k) := by
  refine ctr_of (by decide) (Nat.le_of_ble_eq_true rfl) mwX9_isKnown.1 (fun X hl hR C R hnm => ?_)
  subst hl
  refine z_lv (lv' := [(0, vr G k)]) [0] rfl ?_
  show ZZ X G 1 (QM X G vzI (wzR σ) (0, 0)) (0, 0) (if w32 (σ k 1) ≤ 0 then some 0 else some 1) (w0 σ) 0 [(0, vr G k)] []
  refine z_aload_n C 0 rfl 0 rfl dX9_isKnown_0 1 rfl ?_
  refine y_getI C fX9_7 hk dX9_isKnown_1 4 rfl ?_
  refine z_if_le C dX9_isKnown_4 11 (by decide) 7 rfl rfl (fun _ => ?_) (fun _ => ?_)
  · refine z_iconst C dX9_isKnown_11 12 rfl ?_
    exact z_zret C R nz0 rfl rfl dX9_isKnown_12
  · refine z_iconst C dX9_isKnown_7 8 rfl ?_
    refine z_goto C dX9_isKnown_8 12 (by decide) ?_
    exact z_zret C R nz1 rfl rfl dX9_isKnown_12
-- add
def gX9_add_L42 (k : Int) (x1 : Int) (x2 : Int) (x3 : Int) (σ : St) : Option (St) := some (up (up (up σ k 0 x1) k 1 x2) k 2 x3)
def gX9_add_L20 (k : Int) (x1 : Int) (x2 : Int) (x3 : Int) (σ : St) : Option (St) := if w32 (σ k 1) = 0 then gX9_add_L42 k x1 x2 x3 σ else if w32 (x1 * (σ k 1)) ≥ w32 ((σ k 0) * x2) then some σ else gX9_add_L42 k x1 x2 x3 σ
def gX9_add (σ : St) (k : Int) (x1 : Int) (x2 : Int) (x3 : Int) : Option (St) := if w32 x2 > 0 then if w32 x1 ≠ w32 x2 then gX9_add_L20 k x1 x2 x3 σ else gX9_add_L20 k x1 x2 x3 (up σ k 3 ((σ k 3) + 1)) else some σ
def rmX9_add : Room := { frames := 0, cells := 0, slots := 0, locals := 0 }
set_option maxRecDepth 100000 in
set_option maxHeartbeats 4000000 in
theorem pX9_add_L42 {X : MX} {G : GG} (C : CX X G 4 cX9_add RX9) (R : RT X none) (hR : mR X = rmX9_add) (k : Int) (hk : isK k (0, 9)) (x1 : Int) (x2 : Int) (x3 : Int)  : ∀ (σ : St), ZZ X G 4 (QM X G vzV wzV (0, 0)) (0, 0) (gX9_add_L42 k x1 x2 x3 σ) (w0 σ) 42 [(0, vr G k), (1, vi x1), (2, vi x2), (3, vi x3)] [] := by
  intro σ
  show ZZ X G 4 (QM X G vzV wzV (0, 0)) (0, 0) (some (up (up (up σ k 0 x1) k 1 x2) k 2 x3)) (w0 σ) 42 [(0, vr G k), (1, vi x1), (2, vi x2), (3, vi x3)] []
  refine z_aload_n C 0 rfl 0 rfl dX9_add_42 43 rfl ?_
  refine z_iload_n C 1 rfl 1 rfl dX9_add_43 44 rfl ?_
  refine y_putI C fX9_16 hk ⟨rfl, rfl⟩ dX9_add_44 47 rfl ?_
  refine z_aload_n C 0 rfl 0 rfl dX9_add_47 48 rfl ?_
  refine z_iload_n C 2 rfl 2 rfl dX9_add_48 49 rfl ?_
  refine y_putI C fX9_7 hk ⟨rfl, rfl⟩ dX9_add_49 52 rfl ?_
  refine z_aload_n C 0 rfl 0 rfl dX9_add_52 53 rfl ?_
  refine z_iload_n C 3 rfl 3 rfl dX9_add_53 54 rfl ?_
  refine y_putI C fX9_19 hk ⟨rfl, rfl⟩ dX9_add_54 57 rfl ?_
  exact z_vret C R rfl rfl dX9_add_57
set_option maxRecDepth 100000 in
set_option maxHeartbeats 4000000 in
theorem pX9_add_L20 {X : MX} {G : GG} (C : CX X G 4 cX9_add RX9) (R : RT X none) (hR : mR X = rmX9_add) (k : Int) (hk : isK k (0, 9)) (x1 : Int) (x2 : Int) (x3 : Int)  : ∀ (σ : St), ZZ X G 4 (QM X G vzV wzV (0, 0)) (0, 0) (gX9_add_L20 k x1 x2 x3 σ) (w0 σ) 20 [(0, vr G k), (1, vi x1), (2, vi x2), (3, vi x3)] [] := by
  intro σ
  show ZZ X G 4 (QM X G vzV wzV (0, 0)) (0, 0) (if w32 (σ k 1) = 0 then gX9_add_L42 k x1 x2 x3 σ else if w32 (x1 * (σ k 1)) ≥ w32 ((σ k 0) * x2) then some σ else gX9_add_L42 k x1 x2 x3 σ) (w0 σ) 20 [(0, vr G k), (1, vi x1), (2, vi x2), (3, vi x3)] []
  refine z_aload_n C 0 rfl 0 rfl dX9_add_20 21 rfl ?_
  refine y_getI C fX9_7 hk dX9_add_21 24 rfl ?_
  refine z_if_eq C dX9_add_24 42 (by decide) 27 rfl rfl (fun _ => ?_) (fun _ => ?_)
  · exact pX9_add_L42 C R hR k hk x1 x2 x3 σ
  · refine z_iload_n C 1 rfl 1 rfl dX9_add_27 28 rfl ?_
    refine z_aload_n C 0 rfl 0 rfl dX9_add_28 29 rfl ?_
    refine y_getI C fX9_7 hk dX9_add_29 32 rfl ?_
    refine z_imul C dX9_add_32 33 rfl ?_
    refine z_aload_n C 0 rfl 0 rfl dX9_add_33 34 rfl ?_
    refine y_getI C fX9_16 hk dX9_add_34 37 rfl ?_
    refine z_iload_n C 2 rfl 2 rfl dX9_add_37 38 rfl ?_
    refine z_imul C dX9_add_38 39 rfl ?_
    refine z_icmp_ge C dX9_add_39 57 (by decide) 42 rfl rfl rfl (fun _ => ?_) (fun _ => ?_)
    · exact z_vret C R rfl rfl dX9_add_57
    · exact pX9_add_L42 C R hR k hk x1 x2 x3 σ
set_option maxRecDepth 100000 in
set_option maxHeartbeats 4000000 in
theorem tX9_add (l : Launch) (G : GG) (σ : St) (k : Int) (x1 : Int) (x2 : Int) (x3 : Int) (hk : isK k (0, 9)) : Ctr l G yX9_add cX9_add 4 none rmX9_add [vr G k, vi x1, vi x2, vi x3] (w0 σ) vzV wzV (gX9_add σ k x1 x2 x3) := by
  refine ctr_of (by decide) (Nat.le_of_ble_eq_true rfl) mwX9_add.1 (fun X hl hR C R hnm => ?_)
  subst hl
  refine z_lv (lv' := [(0, vr G k), (1, vi x1), (2, vi x2), (3, vi x3)]) [0, 1, 2, 3] rfl ?_
  show ZZ X G 4 (QM X G vzV wzV (0, 0)) (0, 0) (if w32 x2 > 0 then if w32 x1 ≠ w32 x2 then gX9_add_L20 k x1 x2 x3 σ else gX9_add_L20 k x1 x2 x3 (up σ k 3 ((σ k 3) + 1)) else some σ) (w0 σ) 0 [(0, vr G k), (1, vi x1), (2, vi x2), (3, vi x3)] []
  refine z_iload_n C 2 rfl 2 rfl dX9_add_0 1 rfl ?_
  refine z_if_gt C dX9_add_1 5 (by decide) 4 rfl rfl (fun _ => ?_) (fun _ => ?_)
  · refine z_iload_n C 1 rfl 1 rfl dX9_add_5 6 rfl ?_
    refine z_iload_n C 2 rfl 2 rfl dX9_add_6 7 rfl ?_
    refine z_icmp_ne C dX9_add_7 20 (by decide) 10 rfl rfl rfl (fun _ => ?_) (fun _ => ?_)
    · exact pX9_add_L20 C R hR k hk x1 x2 x3 σ
    · refine z_aload_n C 0 rfl 0 rfl dX9_add_10 11 rfl ?_
      refine z_dup C rfl dX9_add_11 12 rfl ?_
      refine y_getI C fX9_13 hk dX9_add_12 15 rfl ?_
      refine z_iconst C dX9_add_15 16 rfl ?_
      refine z_iadd C dX9_add_16 17 rfl ?_
      refine y_putI C fX9_13 hk ⟨rfl, rfl⟩ dX9_add_17 20 rfl ?_
      exact pX9_add_L20 C R hR k hk x1 x2 x3 (up σ k 3 ((σ k 3) + 1))
  · exact z_vret C R rfl rfl dX9_add_4
-- renew
def gX6_renew (σ : St) (k : Int) (x1 : Int) (x2 : Int) : Option (St) := some (fillS (up (up σ k 1 x1) k 2 x2) (k + 1) 64 0)
def rmX6_renew : Room := { frames := 1, cells := 0, slots := 0, locals := 24 }
set_option maxRecDepth 100000 in
set_option maxHeartbeats 4000000 in
theorem tX6_renew (l : Launch) (G : GG) (σ : St) (k : Int) (x1 : Int) (x2 : Int) (hk : isK k (0, 6)) : Ctr l G yX6_renew cX6_renew 3 none rmX6_renew [vr G k, vi x1, vi x2] (w0 σ) vzV wzV (gX6_renew σ k x1 x2) := by
  refine ctr_of (by decide) (Nat.le_of_ble_eq_true rfl) mwX6_renew.1 (fun X hl hR C R hnm => ?_)
  subst hl
  refine z_lv (lv' := [(0, vr G k), (1, vi x1), (2, vi x2)]) [0, 1, 2] rfl ?_
  show ZZ X G 3 (QM X G vzV wzV (0, 0)) (0, 0) (some (fillS (up (up σ k 1 x1) k 2 x2) (k + 1) 64 0)) (w0 σ) 0 [(0, vr G k), (1, vi x1), (2, vi x2)] []
  refine z_aload_n C 0 rfl 0 rfl dX6_renew_0 1 rfl ?_
  refine z_iload_n C 1 rfl 1 rfl dX6_renew_1 2 rfl ?_
  refine y_putI C fX6_15 hk ⟨rfl, rfl⟩ dX6_renew_2 5 rfl ?_
  refine z_aload_n C 0 rfl 0 rfl dX6_renew_5 6 rfl ?_
  refine z_iload_n C 2 rfl 2 rfl dX6_renew_6 7 rfl ?_
  refine y_putI C fX6_19 hk ⟨rfl, rfl⟩ dX6_renew_7 10 rfl ?_
  refine z_aload_n C 0 rfl 0 rfl dX6_renew_10 11 rfl ?_
  refine y_getR C fX6_9 hk (lay_6_0 hk) dX6_renew_11 14 rfl ?_
  refine z_iconst C dX6_renew_14 15 rfl ?_
  refine y_fill C hR lkX6_22 ((lay_6_0 hk).2) rfl (Nat.le_of_ble_eq_true rfl) (by decide) dX6_renew_15 18 rfl ?_
  exact z_vret C R rfl rfl dX6_renew_18
-- isNothing
def gX6_isNothing (σ : St) (k : Int) : Option (Int) := if w32 (σ k 1) ≠ (-4) then some 0 else some 1
def rmX6_isNothing : Room := { frames := 0, cells := 0, slots := 0, locals := 0 }
set_option maxRecDepth 100000 in
set_option maxHeartbeats 4000000 in
theorem tX6_isNothing (l : Launch) (G : GG) (σ : St) (k : Int) (hk : isK k (0, 6)) : Ctr l G yX6_isNothing cX6_isNothing 1 (some .boolean) rmX6_isNothing [vr G k] (w0 σ) vzI (wzR σ) (gX6_isNothing σ k) := by
  refine ctr_of (by decide) (Nat.le_of_ble_eq_true rfl) mwX6_isNothing.1 (fun X hl hR C R hnm => ?_)
  subst hl
  refine z_lv (lv' := [(0, vr G k)]) [0] rfl ?_
  show ZZ X G 1 (QM X G vzI (wzR σ) (0, 0)) (0, 0) (if w32 (σ k 1) ≠ (-4) then some 0 else some 1) (w0 σ) 0 [(0, vr G k)] []
  refine z_aload_n C 0 rfl 0 rfl dX6_isNothing_0 1 rfl ?_
  refine y_getI C fX6_15 hk dX6_isNothing_1 4 rfl ?_
  refine z_bipush C (by decide) dX6_isNothing_4 6 rfl ?_
  refine z_icmp_ne C dX6_isNothing_6 13 (by decide) 9 rfl rfl (w32_id (a := (-4)) (by decide)) (fun _ => ?_) (fun _ => ?_)
  · refine z_iconst C dX6_isNothing_13 14 rfl ?_
    exact z_zret C R nz0 rfl rfl dX6_isNothing_14
  · refine z_iconst C dX6_isNothing_9 10 rfl ?_
    refine z_goto C dX6_isNothing_10 14 (by decide) ?_
    exact z_zret C R nz1 rfl rfl dX6_isNothing_14
-- hasCell
def gX6_hasCell (σ : St) (k : Int) (x1 : Int) : Option (Int) := if w32 x1 < 0 then some 0 else if w32 x1 ≥ w32 (σ k 2) then some 0 else some 1
def rmX6_hasCell : Room := { frames := 0, cells := 0, slots := 0, locals := 0 }
set_option maxRecDepth 100000 in
set_option maxHeartbeats 4000000 in
theorem tX6_hasCell (l : Launch) (G : GG) (σ : St) (k : Int) (x1 : Int) (hk : isK k (0, 6)) : Ctr l G yX6_hasCell cX6_hasCell 2 (some .boolean) rmX6_hasCell [vr G k, vi x1] (w0 σ) vzI (wzR σ) (gX6_hasCell σ k x1) := by
  refine ctr_of (by decide) (Nat.le_of_ble_eq_true rfl) mwX6_hasCell.1 (fun X hl hR C R hnm => ?_)
  subst hl
  refine z_lv (lv' := [(0, vr G k), (1, vi x1)]) [0, 1] rfl ?_
  show ZZ X G 2 (QM X G vzI (wzR σ) (0, 0)) (0, 0) (if w32 x1 < 0 then some 0 else if w32 x1 ≥ w32 (σ k 2) then some 0 else some 1) (w0 σ) 0 [(0, vr G k), (1, vi x1)] []
  refine z_iload_n C 1 rfl 1 rfl dX6_hasCell_0 1 rfl ?_
  refine z_if_lt C dX6_hasCell_1 16 (by decide) 4 rfl rfl (fun _ => ?_) (fun _ => ?_)
  · refine z_iconst C dX6_hasCell_16 17 rfl ?_
    exact z_zret C R nz0 rfl rfl dX6_hasCell_17
  · refine z_iload_n C 1 rfl 1 rfl dX6_hasCell_4 5 rfl ?_
    refine z_aload_n C 0 rfl 0 rfl dX6_hasCell_5 6 rfl ?_
    refine y_getI C fX6_19 hk dX6_hasCell_6 9 rfl ?_
    refine z_icmp_ge C dX6_hasCell_9 16 (by decide) 12 rfl rfl rfl (fun _ => ?_) (fun _ => ?_)
    · refine z_iconst C dX6_hasCell_16 17 rfl ?_
      exact z_zret C R nz0 rfl rfl dX6_hasCell_17
    · refine z_iconst C dX6_hasCell_12 13 rfl ?_
      refine z_goto C dX6_hasCell_13 17 (by decide) ?_
      exact z_zret C R nz1 rfl rfl dX6_hasCell_17
-- put
def gX6_put (σ : St) (k : Int) (x1 : Int) (x2 : Int) : Option (St) := if w32 (σ k 1) ≠ 0 then if w32 (σ k 1) ≠ 1 then gd (0 ≤ w32 x1 ∧ w32 x1 < 64) (some (up σ (k + 1) (w32 x1) x2)) else gd (0 ≤ w32 x1 ∧ w32 x1 < 64) (some (up σ (k + 1) (w32 x1) (i2s_ x2))) else gd (0 ≤ w32 x1 ∧ w32 x1 < 64) (some (up σ (k + 1) (w32 x1) (i2b_ x2)))
def rmX6_put : Room := { frames := 0, cells := 0, slots := 0, locals := 0 }
set_option maxRecDepth 100000 in
set_option maxHeartbeats 4000000 in
theorem tX6_put (l : Launch) (G : GG) (σ : St) (k : Int) (x1 : Int) (x2 : Int) (hk : isK k (0, 6)) : Ctr l G yX6_put cX6_put 3 none rmX6_put [vr G k, vi x1, vi x2] (w0 σ) vzV wzV (gX6_put σ k x1 x2) := by
  refine ctr_of (by decide) (Nat.le_of_ble_eq_true rfl) mwX6_put.1 (fun X hl hR C R hnm => ?_)
  subst hl
  refine z_lv (lv' := [(0, vr G k), (1, vi x1), (2, vi x2)]) [0, 1, 2] rfl ?_
  show ZZ X G 3 (QM X G vzV wzV (0, 0)) (0, 0) (if w32 (σ k 1) ≠ 0 then if w32 (σ k 1) ≠ 1 then gd (0 ≤ w32 x1 ∧ w32 x1 < 64) (some (up σ (k + 1) (w32 x1) x2)) else gd (0 ≤ w32 x1 ∧ w32 x1 < 64) (some (up σ (k + 1) (w32 x1) (i2s_ x2))) else gd (0 ≤ w32 x1 ∧ w32 x1 < 64) (some (up σ (k + 1) (w32 x1) (i2b_ x2)))) (w0 σ) 0 [(0, vr G k), (1, vi x1), (2, vi x2)] []
  refine z_aload_n C 0 rfl 0 rfl dX6_put_0 1 rfl ?_
  refine y_getR C fX6_9 hk (lay_6_0 hk) dX6_put_1 4 rfl ?_
  refine z_iload_n C 1 rfl 1 rfl dX6_put_4 5 rfl ?_
  refine z_aload_n C 0 rfl 0 rfl dX6_put_5 6 rfl ?_
  refine y_getI C fX6_15 hk dX6_put_6 9 rfl ?_
  refine z_if_ne C dX6_put_9 17 (by decide) 12 rfl rfl (fun _ => ?_) (fun _ => ?_)
  · refine z_aload_n C 0 rfl 0 rfl dX6_put_17 18 rfl ?_
    refine y_getI C fX6_15 hk dX6_put_18 21 rfl ?_
    refine z_iconst C dX6_put_21 22 rfl ?_
    refine z_icmp_ne C dX6_put_22 30 (by decide) 25 rfl rfl (w32_id (a := 1) (by decide)) (fun _ => ?_) (fun _ => ?_)
    · refine z_iload_n C 2 rfl 2 rfl dX6_put_30 31 rfl ?_
      refine y_iast C ((lay_6_0 hk).2) rfl dX6_put_31 32 rfl rfl (fun _ => ?_)
      exact z_vret C R rfl rfl dX6_put_32
    · refine z_iload_n C 2 rfl 2 rfl dX6_put_25 26 rfl ?_
      refine z_i2s C dX6_put_26 27 rfl ?_
      refine z_goto C dX6_put_27 31 (by decide) ?_
      refine y_iast C ((lay_6_0 hk).2) rfl dX6_put_31 32 rfl rfl (fun _ => ?_)
      exact z_vret C R rfl rfl dX6_put_32
  · refine z_iload_n C 2 rfl 2 rfl dX6_put_12 13 rfl ?_
    refine z_i2b C dX6_put_13 14 rfl ?_
    refine z_goto C dX6_put_14 31 (by decide) ?_
    refine y_iast C ((lay_6_0 hk).2) rfl dX6_put_31 32 rfl rfl (fun _ => ?_)
    exact z_vret C R rfl rfl dX6_put_32
-- clear
def gX5_clear (σ : St) (k : Int) : Option (St) := some (up (up (up σ k 8 0) k 9 0) k 10 0)
def rmX5_clear : Room := { frames := 0, cells := 0, slots := 0, locals := 0 }
set_option maxRecDepth 100000 in
set_option maxHeartbeats 4000000 in
theorem tX5_clear (l : Launch) (G : GG) (σ : St) (k : Int) (hk : isK k (0, 5)) : Ctr l G yX5_clear cX5_clear 1 none rmX5_clear [vr G k] (w0 σ) vzV wzV (gX5_clear σ k) := by
  refine ctr_of (by decide) (Nat.le_of_ble_eq_true rfl) mwX5_clear.1 (fun X hl hR C R hnm => ?_)
  subst hl
  refine z_lv (lv' := [(0, vr G k)]) [0] rfl ?_
  show ZZ X G 1 (QM X G vzV wzV (0, 0)) (0, 0) (some (up (up (up σ k 8 0) k 9 0) k 10 0)) (w0 σ) 0 [(0, vr G k)] []
  refine z_aload_n C 0 rfl 0 rfl dX5_clear_0 1 rfl ?_
  refine z_iconst C dX5_clear_1 2 rfl ?_
  refine y_putI C fX5_47 hk ⟨rfl, rfl⟩ dX5_clear_2 5 rfl ?_
  refine z_aload_n C 0 rfl 0 rfl dX5_clear_5 6 rfl ?_
  refine z_iconst C dX5_clear_6 7 rfl ?_
  refine y_putI C fX5_51 hk ⟨rfl, rfl⟩ dX5_clear_7 10 rfl ?_
  refine z_aload_n C 0 rfl 0 rfl dX5_clear_10 11 rfl ?_
  refine z_iconst C dX5_clear_11 12 rfl ?_
  refine y_putZ C fX5_54 hk ⟨nz0, fz0⟩ dX5_clear_12 15 rfl ?_
  exact z_vret C R rfl rfl dX5_clear_15
-- hasKey
def gX5_hasKey_L2 (F : Nat) (σ : St) (k : Int) (x1 : Int) : Nat → Int → Option (Int)
  | 0, _ => none
  | n + 1, x2 => if w32 x2 ≥ w32 (σ k 8) then some 0 else gd (0 ≤ w32 x2 ∧ w32 x2 < 6) (if w32 (σ (k + 1) (w32 x2)) ≠ w32 x1 then gX5_hasKey_L2 F σ k x1 n (x2 + 1) else some 1)
def gX5_hasKey (F : Nat) (σ : St) (k : Int) (x1 : Int) : Option (Int) := gX5_hasKey_L2 F σ k x1 F 0
def rmX5_hasKey : Room := { frames := 0, cells := 0, slots := 0, locals := 0 }
set_option maxRecDepth 100000 in
set_option maxHeartbeats 4000000 in
theorem pX5_hasKey_L2 {X : MX} {G : GG} (C : CX X G 3 cX5_hasKey RX5) (R : RT X (some .boolean)) (hR : mR X = rmX5_hasKey) (F : Nat) (σ : St) (k : Int) (hk : isK k (0, 5)) (x1 : Int)  : ∀ (n : Nat) (x2 : Int), ZZ X G 3 (QM X G vzI (wzR σ) (0, 0)) (0, 0) (gX5_hasKey_L2 F σ k x1 n x2) (w0 σ) 2 [(0, vr G k), (1, vi x1), (2, vi x2)] [] := by
  intro n
  induction n with
  | zero =>
    intro _
    exact z_none
  | succ n ih =>
    intro x2
    show ZZ X G 3 (QM X G vzI (wzR σ) (0, 0)) (0, 0) (if w32 x2 ≥ w32 (σ k 8) then some 0 else gd (0 ≤ w32 x2 ∧ w32 x2 < 6) (if w32 (σ (k + 1) (w32 x2)) ≠ w32 x1 then gX5_hasKey_L2 F σ k x1 n (x2 + 1) else some 1)) (w0 σ) 2 [(0, vr G k), (1, vi x1), (2, vi x2)] []
    refine z_iload_n C 2 rfl 2 rfl dX5_hasKey_2 3 rfl ?_
    refine z_aload_n C 0 rfl 0 rfl dX5_hasKey_3 4 rfl ?_
    refine y_getI C fX5_47 hk dX5_hasKey_4 7 rfl ?_
    refine z_icmp_ge C dX5_hasKey_7 28 (by decide) 10 rfl rfl rfl (fun _ => ?_) (fun _ => ?_)
    · refine z_iconst C dX5_hasKey_28 29 rfl ?_
      exact z_zret C R nz0 rfl rfl dX5_hasKey_29
    · refine z_aload_n C 0 rfl 0 rfl dX5_hasKey_10 11 rfl ?_
      refine y_getR C fX5_11 hk (lay_5_0 hk) dX5_hasKey_11 14 rfl ?_
      refine z_iload_n C 2 rfl 2 rfl dX5_hasKey_14 15 rfl ?_
      refine y_iald C ((lay_5_0 hk).2) rfl dX5_hasKey_15 16 rfl rfl (fun _ => ?_)
      refine z_iload_n C 1 rfl 1 rfl dX5_hasKey_16 17 rfl ?_
      refine z_icmp_ne C dX5_hasKey_17 22 (by decide) 20 rfl rfl rfl (fun _ => ?_) (fun _ => ?_)
      · refine z_iinc (lv' := [(2, vi (x2 + 1)), (0, vr G k), (1, vi x1)]) C (by decide) 2 rfl dX5_hasKey_22 25 rfl rfl ?_
        refine z_goto C dX5_hasKey_25 2 (by decide) ?_
        refine z_lv (lv' := [(0, vr G k), (1, vi x1), (2, vi (x2 + 1))]) [1, 2, 0] rfl ?_
        exact ih (x2 + 1)
      · refine z_iconst C dX5_hasKey_20 21 rfl ?_
        exact z_zret C R nz1 rfl rfl dX5_hasKey_21
set_option maxRecDepth 100000 in
set_option maxHeartbeats 4000000 in
theorem tX5_hasKey (l : Launch) (G : GG) (F : Nat) (σ : St) (k : Int) (x1 : Int) (hk : isK k (0, 5)) : Ctr l G yX5_hasKey cX5_hasKey 3 (some .boolean) rmX5_hasKey [vr G k, vi x1] (w0 σ) vzI (wzR σ) (gX5_hasKey F σ k x1) := by
  refine ctr_of (by decide) (Nat.le_of_ble_eq_true rfl) mwX5_hasKey.1 (fun X hl hR C R hnm => ?_)
  subst hl
  refine z_lv (lv' := [(0, vr G k), (1, vi x1)]) [0, 1] rfl ?_
  show ZZ X G 3 (QM X G vzI (wzR σ) (0, 0)) (0, 0) (gX5_hasKey_L2 F σ k x1 F 0) (w0 σ) 0 [(0, vr G k), (1, vi x1)] []
  refine z_iconst C dX5_hasKey_0 1 rfl ?_
  refine z_istore_n (lv' := [(2, vi 0), (0, vr G k), (1, vi x1)]) C 2 rfl (by decide) dX5_hasKey_1 2 rfl rfl ?_
  refine z_lv (lv' := [(0, vr G k), (1, vi x1), (2, vi 0)]) [1, 2, 0] rfl ?_
  exact pX5_hasKey_L2 C R hR F σ k hk x1 F 0
-- addKey
def gX5_addKey (σ : St) (k : Int) (x1 : Int) (x2 : Int) : Option (St) := if w32 (σ k 8) ≥ 6 then some σ else gd (0 ≤ w32 (σ k 8) ∧ w32 (σ k 8) < 6) (gd (0 ≤ w32 ((up σ (k + 1) (w32 (σ k 8)) x1) k 8) ∧ w32 ((up σ (k + 1) (w32 (σ k 8)) x1) k 8) < 6) (some (up (up (up σ (k + 1) (w32 (σ k 8)) x1) (k + 2) (w32 ((up σ (k + 1) (w32 (σ k 8)) x1) k 8)) (b1 x2)) k 8 (((up (up σ (k + 1) (w32 (σ k 8)) x1) (k + 2) (w32 ((up σ (k + 1) (w32 (σ k 8)) x1) k 8)) (b1 x2)) k 8) + 1))))
def rmX5_addKey : Room := { frames := 0, cells := 0, slots := 0, locals := 0 }
set_option maxRecDepth 100000 in
set_option maxHeartbeats 4000000 in
theorem tX5_addKey (l : Launch) (G : GG) (σ : St) (k : Int) (x1 : Int) (x2 : Int) (hk : isK k (0, 5)) : Ctr l G yX5_addKey cX5_addKey 3 none rmX5_addKey [vr G k, vi x1, vi x2] (w0 σ) vzV wzV (gX5_addKey σ k x1 x2) := by
  refine ctr_of (by decide) (Nat.le_of_ble_eq_true rfl) mwX5_addKey.1 (fun X hl hR C R hnm => ?_)
  subst hl
  refine z_lv (lv' := [(0, vr G k), (1, vi x1), (2, vi x2)]) [0, 1, 2] rfl ?_
  show ZZ X G 3 (QM X G vzV wzV (0, 0)) (0, 0) (if w32 (σ k 8) ≥ 6 then some σ else gd (0 ≤ w32 (σ k 8) ∧ w32 (σ k 8) < 6) (gd (0 ≤ w32 ((up σ (k + 1) (w32 (σ k 8)) x1) k 8) ∧ w32 ((up σ (k + 1) (w32 (σ k 8)) x1) k 8) < 6) (some (up (up (up σ (k + 1) (w32 (σ k 8)) x1) (k + 2) (w32 ((up σ (k + 1) (w32 (σ k 8)) x1) k 8)) (b1 x2)) k 8 (((up (up σ (k + 1) (w32 (σ k 8)) x1) (k + 2) (w32 ((up σ (k + 1) (w32 (σ k 8)) x1) k 8)) (b1 x2)) k 8) + 1))))) (w0 σ) 0 [(0, vr G k), (1, vi x1), (2, vi x2)] []
  refine z_aload_n C 0 rfl 0 rfl dX5_addKey_0 1 rfl ?_
  refine y_getI C fX5_47 hk dX5_addKey_1 4 rfl ?_
  refine z_bipush C (by decide) dX5_addKey_4 6 rfl ?_
  refine z_icmp_ge C dX5_addKey_6 39 (by decide) 9 rfl rfl (w32_id (a := 6) (by decide)) (fun _ => ?_) (fun _ => ?_)
  · exact z_vret C R rfl rfl dX5_addKey_39
  · refine z_aload_n C 0 rfl 0 rfl dX5_addKey_9 10 rfl ?_
    refine y_getR C fX5_11 hk (lay_5_0 hk) dX5_addKey_10 13 rfl ?_
    refine z_aload_n C 0 rfl 0 rfl dX5_addKey_13 14 rfl ?_
    refine y_getI C fX5_47 hk dX5_addKey_14 17 rfl ?_
    refine z_iload_n C 1 rfl 1 rfl dX5_addKey_17 18 rfl ?_
    refine y_iast C ((lay_5_0 hk).2) rfl dX5_addKey_18 19 rfl rfl (fun _ => ?_)
    refine z_aload_n C 0 rfl 0 rfl dX5_addKey_19 20 rfl ?_
    refine y_getR C fX5_17 hk (lay_5_1 hk) dX5_addKey_20 23 rfl ?_
    refine z_aload_n C 0 rfl 0 rfl dX5_addKey_23 24 rfl ?_
    refine y_getI C fX5_47 hk dX5_addKey_24 27 rfl ?_
    refine z_iload_n C 2 rfl 2 rfl dX5_addKey_27 28 rfl ?_
    refine y_zast C ((lay_5_1 hk).2) rfl dX5_addKey_28 29 rfl rfl (fun _ => ?_)
    refine z_aload_n C 0 rfl 0 rfl dX5_addKey_29 30 rfl ?_
    refine z_dup C rfl dX5_addKey_30 31 rfl ?_
    refine y_getI C fX5_47 hk dX5_addKey_31 34 rfl ?_
    refine z_iconst C dX5_addKey_34 35 rfl ?_
    refine z_iadd C dX5_addKey_35 36 rfl ?_
    refine y_putI C fX5_47 hk ⟨rfl, rfl⟩ dX5_addKey_36 39 rfl ?_
    exact z_vret C R rfl rfl dX5_addKey_39
-- addTest
def gX5_addTest (σ : St) (k : Int) (x1 : Int) (x2 : Int) (x3 : Int) : Option (St) := if w32 (σ k 9) ≥ 4 then some σ else gd (0 ≤ w32 (σ k 9) ∧ w32 (σ k 9) < 4) (gd (0 ≤ w32 ((up σ (k + 3) (w32 (σ k 9)) x1) k 9) ∧ w32 ((up σ (k + 3) (w32 (σ k 9)) x1) k 9) < 4) (gd (0 ≤ w32 ((up (up σ (k + 3) (w32 (σ k 9)) x1) (k + 4) (w32 ((up σ (k + 3) (w32 (σ k 9)) x1) k 9)) (b1 x2)) k 9) ∧ w32 ((up (up σ (k + 3) (w32 (σ k 9)) x1) (k + 4) (w32 ((up σ (k + 3) (w32 (σ k 9)) x1) k 9)) (b1 x2)) k 9) < 4) (some (up (up (up (up σ (k + 3) (w32 (σ k 9)) x1) (k + 4) (w32 ((up σ (k + 3) (w32 (σ k 9)) x1) k 9)) (b1 x2)) (k + 5) (w32 ((up (up σ (k + 3) (w32 (σ k 9)) x1) (k + 4) (w32 ((up σ (k + 3) (w32 (σ k 9)) x1) k 9)) (b1 x2)) k 9)) x3) k 9 (((up (up (up σ (k + 3) (w32 (σ k 9)) x1) (k + 4) (w32 ((up σ (k + 3) (w32 (σ k 9)) x1) k 9)) (b1 x2)) (k + 5) (w32 ((up (up σ (k + 3) (w32 (σ k 9)) x1) (k + 4) (w32 ((up σ (k + 3) (w32 (σ k 9)) x1) k 9)) (b1 x2)) k 9)) x3) k 9) + 1)))))
def rmX5_addTest : Room := { frames := 0, cells := 0, slots := 0, locals := 0 }
set_option maxRecDepth 100000 in
set_option maxHeartbeats 4000000 in
theorem tX5_addTest (l : Launch) (G : GG) (σ : St) (k : Int) (x1 : Int) (x2 : Int) (x3 : Int) (hk : isK k (0, 5)) : Ctr l G yX5_addTest cX5_addTest 4 none rmX5_addTest [vr G k, vi x1, vi x2, vi x3] (w0 σ) vzV wzV (gX5_addTest σ k x1 x2 x3) := by
  refine ctr_of (by decide) (Nat.le_of_ble_eq_true rfl) mwX5_addTest.1 (fun X hl hR C R hnm => ?_)
  subst hl
  refine z_lv (lv' := [(0, vr G k), (1, vi x1), (2, vi x2), (3, vi x3)]) [0, 1, 2, 3] rfl ?_
  show ZZ X G 4 (QM X G vzV wzV (0, 0)) (0, 0) (if w32 (σ k 9) ≥ 4 then some σ else gd (0 ≤ w32 (σ k 9) ∧ w32 (σ k 9) < 4) (gd (0 ≤ w32 ((up σ (k + 3) (w32 (σ k 9)) x1) k 9) ∧ w32 ((up σ (k + 3) (w32 (σ k 9)) x1) k 9) < 4) (gd (0 ≤ w32 ((up (up σ (k + 3) (w32 (σ k 9)) x1) (k + 4) (w32 ((up σ (k + 3) (w32 (σ k 9)) x1) k 9)) (b1 x2)) k 9) ∧ w32 ((up (up σ (k + 3) (w32 (σ k 9)) x1) (k + 4) (w32 ((up σ (k + 3) (w32 (σ k 9)) x1) k 9)) (b1 x2)) k 9) < 4) (some (up (up (up (up σ (k + 3) (w32 (σ k 9)) x1) (k + 4) (w32 ((up σ (k + 3) (w32 (σ k 9)) x1) k 9)) (b1 x2)) (k + 5) (w32 ((up (up σ (k + 3) (w32 (σ k 9)) x1) (k + 4) (w32 ((up σ (k + 3) (w32 (σ k 9)) x1) k 9)) (b1 x2)) k 9)) x3) k 9 (((up (up (up σ (k + 3) (w32 (σ k 9)) x1) (k + 4) (w32 ((up σ (k + 3) (w32 (σ k 9)) x1) k 9)) (b1 x2)) (k + 5) (w32 ((up (up σ (k + 3) (w32 (σ k 9)) x1) (k + 4) (w32 ((up σ (k + 3) (w32 (σ k 9)) x1) k 9)) (b1 x2)) k 9)) x3) k 9) + 1)))))) (w0 σ) 0 [(0, vr G k), (1, vi x1), (2, vi x2), (3, vi x3)] []
  refine z_aload_n C 0 rfl 0 rfl dX5_addTest_0 1 rfl ?_
  refine y_getI C fX5_51 hk dX5_addTest_1 4 rfl ?_
  refine z_iconst C dX5_addTest_4 5 rfl ?_
  refine z_icmp_ge C dX5_addTest_5 48 (by decide) 8 rfl rfl (w32_id (a := 4) (by decide)) (fun _ => ?_) (fun _ => ?_)
  · exact z_vret C R rfl rfl dX5_addTest_48
  · refine z_aload_n C 0 rfl 0 rfl dX5_addTest_8 9 rfl ?_
    refine y_getR C fX5_21 hk (lay_5_2 hk) dX5_addTest_9 12 rfl ?_
    refine z_aload_n C 0 rfl 0 rfl dX5_addTest_12 13 rfl ?_
    refine y_getI C fX5_51 hk dX5_addTest_13 16 rfl ?_
    refine z_iload_n C 1 rfl 1 rfl dX5_addTest_16 17 rfl ?_
    refine y_iast C ((lay_5_2 hk).2) rfl dX5_addTest_17 18 rfl rfl (fun _ => ?_)
    refine z_aload_n C 0 rfl 0 rfl dX5_addTest_18 19 rfl ?_
    refine y_getR C fX5_24 hk (lay_5_3 hk) dX5_addTest_19 22 rfl ?_
    refine z_aload_n C 0 rfl 0 rfl dX5_addTest_22 23 rfl ?_
    refine y_getI C fX5_51 hk dX5_addTest_23 26 rfl ?_
    refine z_iload_n C 2 rfl 2 rfl dX5_addTest_26 27 rfl ?_
    refine y_zast C ((lay_5_3 hk).2) rfl dX5_addTest_27 28 rfl rfl (fun _ => ?_)
    refine z_aload_n C 0 rfl 0 rfl dX5_addTest_28 29 rfl ?_
    refine y_getR C fX5_27 hk (lay_5_4 hk) dX5_addTest_29 32 rfl ?_
    refine z_aload_n C 0 rfl 0 rfl dX5_addTest_32 33 rfl ?_
    refine y_getI C fX5_51 hk dX5_addTest_33 36 rfl ?_
    refine z_iload_n C 3 rfl 3 rfl dX5_addTest_36 37 rfl ?_
    refine y_iast C ((lay_5_4 hk).2) rfl dX5_addTest_37 38 rfl rfl (fun _ => ?_)
    refine z_aload_n C 0 rfl 0 rfl dX5_addTest_38 39 rfl ?_
    refine z_dup C rfl dX5_addTest_39 40 rfl ?_
    refine y_getI C fX5_51 hk dX5_addTest_40 43 rfl ?_
    refine z_iconst C dX5_addTest_43 44 rfl ?_
    refine z_iadd C dX5_addTest_44 45 rfl ?_
    refine y_putI C fX5_51 hk ⟨rfl, rfl⟩ dX5_addTest_45 48 rfl ?_
    exact z_vret C R rfl rfl dX5_addTest_48
-- asksRank
def gX5_asksRank_L2 (F : Nat) (σ : St) (k : Int) : Nat → Int → Option (Int)
  | 0, _ => none
  | n + 1, x1 => if w32 x1 ≥ w32 (σ k 9) then (gX5_hasKey F σ k 3).bind fun r1 => some (b1 r1) else gd (0 ≤ w32 x1 ∧ w32 x1 < 4) (if w32 (σ (k + 3) (w32 x1)) ≠ 3 then gX5_asksRank_L2 F σ k n (x1 + 1) else some 1)
def gX5_asksRank (F : Nat) (σ : St) (k : Int) : Option (Int) := gX5_asksRank_L2 F σ k F 0
def rmX5_asksRank : Room := { frames := 1, cells := 0, slots := 0, locals := 22 }
set_option maxRecDepth 100000 in
set_option maxHeartbeats 4000000 in
theorem pX5_asksRank_L2 {X : MX} {G : GG} (C : CX X G 2 cX5_asksRank RX5) (R : RT X (some .boolean)) (hR : mR X = rmX5_asksRank) (F : Nat) (σ : St) (k : Int) (hk : isK k (0, 5))  : ∀ (n : Nat) (x1 : Int), ZZ X G 2 (QM X G vzI (wzR σ) (0, 0)) (0, 0) (gX5_asksRank_L2 F σ k n x1) (w0 σ) 2 [(0, vr G k), (1, vi x1)] [] := by
  intro n
  induction n with
  | zero =>
    intro _
    exact z_none
  | succ n ih =>
    intro x1
    show ZZ X G 2 (QM X G vzI (wzR σ) (0, 0)) (0, 0) (if w32 x1 ≥ w32 (σ k 9) then (gX5_hasKey F σ k 3).bind fun r1 => some (b1 r1) else gd (0 ≤ w32 x1 ∧ w32 x1 < 4) (if w32 (σ (k + 3) (w32 x1)) ≠ 3 then gX5_asksRank_L2 F σ k n (x1 + 1) else some 1)) (w0 σ) 2 [(0, vr G k), (1, vi x1)] []
    refine z_iload_n C 1 rfl 1 rfl dX5_asksRank_2 3 rfl ?_
    refine z_aload_n C 0 rfl 0 rfl dX5_asksRank_3 4 rfl ?_
    refine y_getI C fX5_51 hk dX5_asksRank_4 7 rfl ?_
    refine z_icmp_ge C dX5_asksRank_7 28 (by decide) 10 rfl rfl rfl (fun _ => ?_) (fun _ => ?_)
    · refine z_aload_n C 0 rfl 0 rfl dX5_asksRank_28 29 rfl ?_
      refine z_iconst C dX5_asksRank_29 30 rfl ?_
      refine y_callVI C hR (tX5_hasKey (mL X) G F σ k 3 hk) ⟨mwX5_hasKey, mvX5_hasKey, lkX5_58⟩ hk rfl rfl (Nat.le_of_ble_eq_true rfl) (by unfold rmOK; decide) dX5_asksRank_30 33 rfl (fun r1 _ => ?_)
      exact z_zretb C R rfl rfl dX5_asksRank_33
    · refine z_aload_n C 0 rfl 0 rfl dX5_asksRank_10 11 rfl ?_
      refine y_getR C fX5_21 hk (lay_5_2 hk) dX5_asksRank_11 14 rfl ?_
      refine z_iload_n C 1 rfl 1 rfl dX5_asksRank_14 15 rfl ?_
      refine y_iald C ((lay_5_2 hk).2) rfl dX5_asksRank_15 16 rfl rfl (fun _ => ?_)
      refine z_iconst C dX5_asksRank_16 17 rfl ?_
      refine z_icmp_ne C dX5_asksRank_17 22 (by decide) 20 rfl rfl (w32_id (a := 3) (by decide)) (fun _ => ?_) (fun _ => ?_)
      · refine z_iinc (lv' := [(1, vi (x1 + 1)), (0, vr G k)]) C (by decide) 1 rfl dX5_asksRank_22 25 rfl rfl ?_
        refine z_goto C dX5_asksRank_25 2 (by decide) ?_
        refine z_lv (lv' := [(0, vr G k), (1, vi (x1 + 1))]) [1, 0] rfl ?_
        exact ih (x1 + 1)
      · refine z_iconst C dX5_asksRank_20 21 rfl ?_
        exact z_zret C R nz1 rfl rfl dX5_asksRank_21
set_option maxRecDepth 100000 in
set_option maxHeartbeats 4000000 in
theorem tX5_asksRank (l : Launch) (G : GG) (F : Nat) (σ : St) (k : Int) (hk : isK k (0, 5)) : Ctr l G yX5_asksRank cX5_asksRank 2 (some .boolean) rmX5_asksRank [vr G k] (w0 σ) vzI (wzR σ) (gX5_asksRank F σ k) := by
  refine ctr_of (by decide) (Nat.le_of_ble_eq_true rfl) mwX5_asksRank.1 (fun X hl hR C R hnm => ?_)
  subst hl
  refine z_lv (lv' := [(0, vr G k)]) [0] rfl ?_
  show ZZ X G 2 (QM X G vzI (wzR σ) (0, 0)) (0, 0) (gX5_asksRank_L2 F σ k F 0) (w0 σ) 0 [(0, vr G k)] []
  refine z_iconst C dX5_asksRank_0 1 rfl ?_
  refine z_istore_n (lv' := [(1, vi 0), (0, vr G k)]) C 1 rfl (by decide) dX5_asksRank_1 2 rfl rfl ?_
  refine z_lv (lv' := [(0, vr G k), (1, vi 0)]) [1, 0] rfl ?_
  exact pX5_asksRank_L2 C R hR F σ k hk F 0
