-- hasCome
def gX7_hasCome (σ : St) (k : Int) (x1 : Int) : Option (Int) := gd (0 ≤ w32 x1 ∧ w32 x1 < 9) (if w32 (σ (k + 4) (w32 x1)) ≤ 0 then some 0 else some 1)
def rmX7_hasCome : Room := { frames := 0, cells := 0, slots := 0, locals := 0 }
set_option maxRecDepth 100000 in
set_option maxHeartbeats 4000000 in
theorem tX7_hasCome (l : Launch) (G : GG) (σ : St) (k : Int) (x1 : Int) (hk : isK k (0, 7)) : Ctr l G yX7_hasCome cX7_hasCome 2 (some .boolean) rmX7_hasCome [vr G k, vi x1] (w0 σ) vzI (wzR σ) (gX7_hasCome σ k x1) := by
  refine ctr_of (by decide) (Nat.le_of_ble_eq_true rfl) mwX7_hasCome.1 (fun X hl hR C R hnm => ?_)
  subst hl
  refine z_lv (lv' := [(0, vr G k), (1, vi x1)]) [0, 1] rfl ?_
  show ZZ X G 2 (QM X G vzI (wzR σ) (0, 0)) (0, 0) (gd (0 ≤ w32 x1 ∧ w32 x1 < 9) (if w32 (σ (k + 4) (w32 x1)) ≤ 0 then some 0 else some 1)) (w0 σ) 0 [(0, vr G k), (1, vi x1)] []
  refine z_aload_n C 0 rfl 0 rfl dX7_hasCome_0 1 rfl ?_
  refine y_getR C fX7_21 hk (lay_7_4 hk) dX7_hasCome_1 4 rfl ?_
  refine z_iload_n C 1 rfl 1 rfl dX7_hasCome_4 5 rfl ?_
  refine y_iald C ((lay_7_4 hk).2) rfl dX7_hasCome_5 6 rfl rfl (fun _ => ?_)
  refine z_if_le C dX7_hasCome_6 13 (by decide) 9 rfl rfl (fun _ => ?_) (fun _ => ?_)
  · refine z_iconst C dX7_hasCome_13 14 rfl ?_
    exact z_zret C R nz0 rfl rfl dX7_hasCome_14
  · refine z_iconst C dX7_hasCome_9 10 rfl ?_
    refine z_goto C dX7_hasCome_10 14 (by decide) ?_
    exact z_zret C R nz1 rfl rfl dX7_hasCome_14
-- freeAt
def gX7_freeAt (σ : St) (k : Int) (x1 : Int) : Option (Int) := gd (0 ≤ w32 x1 ∧ w32 x1 < 6) (gd (0 ≤ w32 x1 ∧ w32 x1 < 6) (some ((σ ((bd k) + 1) (w32 x1)) - (σ (k + 1) (w32 x1)))))
def rmX7_freeAt : Room := { frames := 0, cells := 0, slots := 0, locals := 0 }
set_option maxRecDepth 100000 in
set_option maxHeartbeats 4000000 in
theorem tX7_freeAt (l : Launch) (G : GG) (σ : St) (k : Int) (x1 : Int) (hk : isK k (0, 7)) : Ctr l G yX7_freeAt cX7_freeAt 2 (some .int) rmX7_freeAt [vr G k, vi x1] (w0 σ) vzI (wzR σ) (gX7_freeAt σ k x1) := by
  refine ctr_of (by decide) (Nat.le_of_ble_eq_true rfl) mwX7_freeAt.1 (fun X hl hR C R hnm => ?_)
  subst hl
  refine z_lv (lv' := [(0, vr G k), (1, vi x1)]) [0, 1] rfl ?_
  show ZZ X G 2 (QM X G vzI (wzR σ) (0, 0)) (0, 0) (gd (0 ≤ w32 x1 ∧ w32 x1 < 6) (gd (0 ≤ w32 x1 ∧ w32 x1 < 6) (some ((σ ((bd k) + 1) (w32 x1)) - (σ (k + 1) (w32 x1)))))) (w0 σ) 0 [(0, vr G k), (1, vi x1)] []
  refine z_aload_n C 0 rfl 0 rfl dX7_freeAt_0 1 rfl ?_
  refine y_getR C fX7_40 hk (lay_7_0 hk) dX7_freeAt_1 4 rfl ?_
  refine y_getR C fX7_72 ((lay_7_0 hk).2) (lay_0_0 ((lay_7_0 hk).2)) dX7_freeAt_4 7 rfl ?_
  refine z_iload_n C 1 rfl 1 rfl dX7_freeAt_7 8 rfl ?_
  refine y_iald C ((lay_0_0 ((lay_7_0 hk).2)).2) rfl dX7_freeAt_8 9 rfl rfl (fun _ => ?_)
  refine z_aload_n C 0 rfl 0 rfl dX7_freeAt_9 10 rfl ?_
  refine y_getR C fX7_9 hk (lay_7_1 hk) dX7_freeAt_10 13 rfl ?_
  refine z_iload_n C 1 rfl 1 rfl dX7_freeAt_13 14 rfl ?_
  refine y_iald C ((lay_7_1 hk).2) rfl dX7_freeAt_14 15 rfl rfl (fun _ => ?_)
  refine z_isub C dX7_freeAt_15 16 rfl ?_
  exact z_iret C R rfl rfl dX7_freeAt_16
-- heldBits
def gX7_heldBits_L31 (F : Nat) (σ : St) (k : Int) (x1 : Int) (c4 : Int → Int → Option (Int)) (x2 : Int) (x3 : Int) : Option (Int) := c4 x2 (x3 + 1)
def gX7_heldBits_L4 (F : Nat) (σ : St) (k : Int) (x1 : Int) : Nat → Int → Int → Option (Int)
  | 0, _, _ => none
  | n + 1, x2, x3 => if w32 x3 ≥ w32 (σ (bd k) 6) then some x2 else gd (0 ≤ w32 x3 ∧ w32 x3 < 9) (if w32 (σ (k + 3) (w32 x3)) ≠ w32 x1 then gX7_heldBits_L31 F σ k x1 (gX7_heldBits_L4 F σ k x1 n) x2 x3 else gX7_heldBits_L31 F σ k x1 (gX7_heldBits_L4 F σ k x1 n) (ior x2 (ishl 1 x3)) x3)
def gX7_heldBits (F : Nat) (σ : St) (k : Int) (x1 : Int) : Option (Int) := gX7_heldBits_L4 F σ k x1 F 0 0
def rmX7_heldBits : Room := { frames := 0, cells := 0, slots := 0, locals := 0 }
set_option maxRecDepth 100000 in
set_option maxHeartbeats 4000000 in
theorem pX7_heldBits_L31 {X : MX} {G : GG} (C : CX X G 4 cX7_heldBits RX7) (R : RT X (some .int)) (hR : mR X = rmX7_heldBits) (F : Nat) (σ : St) (k : Int) (hk : isK k (0, 7)) (x1 : Int) (c4 : Int → Int → Option (Int)) (hc4 : ∀ (x2 : Int) (x3 : Int), ZZ X G 4 (QM X G vzI (wzR σ) (0, 0)) (0, 0) (c4 x2 x3) (w0 σ) 4 [(0, vr G k), (1, vi x1), (2, vi x2), (3, vi x3)] []) : ∀ (x2 : Int) (x3 : Int), ZZ X G 4 (QM X G vzI (wzR σ) (0, 0)) (0, 0) (gX7_heldBits_L31 F σ k x1 c4 x2 x3) (w0 σ) 31 [(0, vr G k), (1, vi x1), (2, vi x2), (3, vi x3)] [] := by
  intro x2 x3
  show ZZ X G 4 (QM X G vzI (wzR σ) (0, 0)) (0, 0) (c4 x2 (x3 + 1)) (w0 σ) 31 [(0, vr G k), (1, vi x1), (2, vi x2), (3, vi x3)] []
  refine z_iinc (lv' := [(3, vi (x3 + 1)), (0, vr G k), (1, vi x1), (2, vi x2)]) C (by decide) 3 rfl dX7_heldBits_31 34 rfl rfl ?_
  refine z_goto C dX7_heldBits_34 4 (by decide) ?_
  refine z_lv (lv' := [(0, vr G k), (1, vi x1), (2, vi x2), (3, vi (x3 + 1))]) [1, 2, 3, 0] rfl ?_
  exact hc4 x2 (x3 + 1)
set_option maxRecDepth 100000 in
set_option maxHeartbeats 4000000 in
theorem pX7_heldBits_L4 {X : MX} {G : GG} (C : CX X G 4 cX7_heldBits RX7) (R : RT X (some .int)) (hR : mR X = rmX7_heldBits) (F : Nat) (σ : St) (k : Int) (hk : isK k (0, 7)) (x1 : Int)  : ∀ (n : Nat) (x2 : Int) (x3 : Int), ZZ X G 4 (QM X G vzI (wzR σ) (0, 0)) (0, 0) (gX7_heldBits_L4 F σ k x1 n x2 x3) (w0 σ) 4 [(0, vr G k), (1, vi x1), (2, vi x2), (3, vi x3)] [] := by
  intro n
  induction n with
  | zero =>
    intro _ _
    exact z_none
  | succ n ih =>
    intro x2 x3
    show ZZ X G 4 (QM X G vzI (wzR σ) (0, 0)) (0, 0) (if w32 x3 ≥ w32 (σ (bd k) 6) then some x2 else gd (0 ≤ w32 x3 ∧ w32 x3 < 9) (if w32 (σ (k + 3) (w32 x3)) ≠ w32 x1 then gX7_heldBits_L31 F σ k x1 (gX7_heldBits_L4 F σ k x1 n) x2 x3 else gX7_heldBits_L31 F σ k x1 (gX7_heldBits_L4 F σ k x1 n) (ior x2 (ishl 1 x3)) x3)) (w0 σ) 4 [(0, vr G k), (1, vi x1), (2, vi x2), (3, vi x3)] []
    refine z_iload_n C 3 rfl 3 rfl dX7_heldBits_4 5 rfl ?_
    refine z_aload_n C 0 rfl 0 rfl dX7_heldBits_5 6 rfl ?_
    refine y_getR C fX7_40 hk (lay_7_0 hk) dX7_heldBits_6 9 rfl ?_
    refine y_getI C fX7_63 ((lay_7_0 hk).2) dX7_heldBits_9 12 rfl ?_
    refine z_icmp_ge C dX7_heldBits_12 37 (by decide) 15 rfl rfl rfl (fun _ => ?_) (fun _ => ?_)
    · refine z_iload_n C 2 rfl 2 rfl dX7_heldBits_37 38 rfl ?_
      exact z_iret C R rfl rfl dX7_heldBits_38
    · refine z_aload_n C 0 rfl 0 rfl dX7_heldBits_15 16 rfl ?_
      refine y_getR C fX7_18 hk (lay_7_3 hk) dX7_heldBits_16 19 rfl ?_
      refine z_iload_n C 3 rfl 3 rfl dX7_heldBits_19 20 rfl ?_
      refine y_iald C ((lay_7_3 hk).2) rfl dX7_heldBits_20 21 rfl rfl (fun _ => ?_)
      refine z_iload_n C 1 rfl 1 rfl dX7_heldBits_21 22 rfl ?_
      refine z_icmp_ne C dX7_heldBits_22 31 (by decide) 25 rfl rfl rfl (fun _ => ?_) (fun _ => ?_)
      · exact pX7_heldBits_L31 C R hR F σ k hk x1 (gX7_heldBits_L4 F σ k x1 n) ih x2 x3
      · refine z_iload_n C 2 rfl 2 rfl dX7_heldBits_25 26 rfl ?_
        refine z_iconst C dX7_heldBits_26 27 rfl ?_
        refine z_iload_n C 3 rfl 3 rfl dX7_heldBits_27 28 rfl ?_
        refine z_ishl C dX7_heldBits_28 29 rfl ?_
        refine z_ior C dX7_heldBits_29 30 rfl ?_
        refine z_istore_n (lv' := [(2, vi (ior x2 (ishl 1 x3))), (0, vr G k), (1, vi x1), (3, vi x3)]) C 2 rfl (by decide) dX7_heldBits_30 31 rfl rfl ?_
        refine z_lv (lv' := [(0, vr G k), (1, vi x1), (2, vi (ior x2 (ishl 1 x3))), (3, vi x3)]) [1, 2, 0, 3] rfl ?_
        exact pX7_heldBits_L31 C R hR F σ k hk x1 (gX7_heldBits_L4 F σ k x1 n) ih (ior x2 (ishl 1 x3)) x3
set_option maxRecDepth 100000 in
set_option maxHeartbeats 4000000 in
theorem tX7_heldBits (l : Launch) (G : GG) (F : Nat) (σ : St) (k : Int) (x1 : Int) (hk : isK k (0, 7)) : Ctr l G yX7_heldBits cX7_heldBits 4 (some .int) rmX7_heldBits [vr G k, vi x1] (w0 σ) vzI (wzR σ) (gX7_heldBits F σ k x1) := by
  refine ctr_of (by decide) (Nat.le_of_ble_eq_true rfl) mwX7_heldBits.1 (fun X hl hR C R hnm => ?_)
  subst hl
  refine z_lv (lv' := [(0, vr G k), (1, vi x1)]) [0, 1] rfl ?_
  show ZZ X G 4 (QM X G vzI (wzR σ) (0, 0)) (0, 0) (gX7_heldBits_L4 F σ k x1 F 0 0) (w0 σ) 0 [(0, vr G k), (1, vi x1)] []
  refine z_iconst C dX7_heldBits_0 1 rfl ?_
  refine z_istore_n (lv' := [(2, vi 0), (0, vr G k), (1, vi x1)]) C 2 rfl (by decide) dX7_heldBits_1 2 rfl rfl ?_
  refine z_iconst C dX7_heldBits_2 3 rfl ?_
  refine z_istore_n (lv' := [(3, vi 0), (2, vi 0), (0, vr G k), (1, vi x1)]) C 3 rfl (by decide) dX7_heldBits_3 4 rfl rfl ?_
  refine z_lv (lv' := [(0, vr G k), (1, vi x1), (2, vi 0), (3, vi 0)]) [2, 3, 1, 0] rfl ?_
  exact pX7_heldBits_L4 C R hR F σ k hk x1 F 0 0
-- clear
def gX7_clear (σ : St) (k : Int) : Option (St) := some (up (up (up (fillS (fillS (fillS (fillS σ (k + 1) 6 0) (k + 2) 6 0) (k + 3) 9 ((-4))) (k + 4) 9 0) k 10 0) k 11 0) k 12 0)
def rmX7_clear : Room := { frames := 1, cells := 0, slots := 0, locals := 24 }
set_option maxRecDepth 100000 in
set_option maxHeartbeats 4000000 in
theorem tX7_clear (l : Launch) (G : GG) (σ : St) (k : Int) (hk : isK k (0, 7)) : Ctr l G yX7_clear cX7_clear 1 none rmX7_clear [vr G k] (w0 σ) vzV wzV (gX7_clear σ k) := by
  refine ctr_of (by decide) (Nat.le_of_ble_eq_true rfl) mwX7_clear.1 (fun X hl hR C R hnm => ?_)
  subst hl
  refine z_lv (lv' := [(0, vr G k)]) [0] rfl ?_
  show ZZ X G 1 (QM X G vzV wzV (0, 0)) (0, 0) (some (up (up (up (fillS (fillS (fillS (fillS σ (k + 1) 6 0) (k + 2) 6 0) (k + 3) 9 ((-4))) (k + 4) 9 0) k 10 0) k 11 0) k 12 0)) (w0 σ) 0 [(0, vr G k)] []
  refine z_aload_n C 0 rfl 0 rfl dX7_clear_0 1 rfl ?_
  refine y_getR C fX7_9 hk (lay_7_1 hk) dX7_clear_1 4 rfl ?_
  refine z_iconst C dX7_clear_4 5 rfl ?_
  refine y_fill C hR lkX7_44 ((lay_7_1 hk).2) rfl (Nat.le_of_ble_eq_true rfl) (by decide) dX7_clear_5 8 rfl ?_
  refine z_aload_n C 0 rfl 0 rfl dX7_clear_8 9 rfl ?_
  refine y_getR C fX7_15 hk (lay_7_2 hk) dX7_clear_9 12 rfl ?_
  refine z_iconst C dX7_clear_12 13 rfl ?_
  refine y_fill C hR lkX7_44 ((lay_7_2 hk).2) rfl (Nat.le_of_ble_eq_true rfl) (by decide) dX7_clear_13 16 rfl ?_
  refine z_aload_n C 0 rfl 0 rfl dX7_clear_16 17 rfl ?_
  refine y_getR C fX7_18 hk (lay_7_3 hk) dX7_clear_17 20 rfl ?_
  refine z_bipush C (by decide) dX7_clear_20 22 rfl ?_
  refine y_fill C hR lkX7_44 ((lay_7_3 hk).2) rfl (Nat.le_of_ble_eq_true rfl) (by decide) dX7_clear_22 25 rfl ?_
  refine z_aload_n C 0 rfl 0 rfl dX7_clear_25 26 rfl ?_
  refine y_getR C fX7_21 hk (lay_7_4 hk) dX7_clear_26 29 rfl ?_
  refine z_iconst C dX7_clear_29 30 rfl ?_
  refine y_fill C hR lkX7_44 ((lay_7_4 hk).2) rfl (Nat.le_of_ble_eq_true rfl) (by decide) dX7_clear_30 33 rfl ?_
  refine z_aload_n C 0 rfl 0 rfl dX7_clear_33 34 rfl ?_
  refine z_iconst C dX7_clear_34 35 rfl ?_
  refine y_putI C fX7_50 hk ⟨rfl, rfl⟩ dX7_clear_35 38 rfl ?_
  refine z_aload_n C 0 rfl 0 rfl dX7_clear_38 39 rfl ?_
  refine z_iconst C dX7_clear_39 40 rfl ?_
  refine y_putI C fX7_54 hk ⟨rfl, rfl⟩ dX7_clear_40 43 rfl ?_
  refine z_aload_n C 0 rfl 0 rfl dX7_clear_43 44 rfl ?_
  refine z_iconst C dX7_clear_44 45 rfl ?_
  refine y_putI C fX7_57 hk ⟨rfl, rfl⟩ dX7_clear_45 48 rfl ?_
  exact z_vret C R rfl rfl dX7_clear_48
-- canTake
def gX7_canTake (σ : St) (k : Int) (x1 : Int) (x2 : Int) : Option (Int) := (gX0_worthAt σ (bd k) x1 x2).bind fun r1 => if w32 r1 ≤ 0 then some 0 else (gX7_freeAt σ k x2).bind fun r2 => if w32 r2 ≤ 0 then some 0 else gd (0 ≤ w32 x2 ∧ w32 x2 < 6) (gd (0 ≤ w32 x2 ∧ w32 x2 < 6) (if w32 (σ (k + 2) (w32 x2)) ≥ w32 (σ ((bd k) + 3) (w32 x2)) then some 0 else some 1))
def rmX7_canTake : Room := { frames := 1, cells := 0, slots := 0, locals := 22 }
set_option maxRecDepth 100000 in
set_option maxHeartbeats 4000000 in
theorem tX7_canTake (l : Launch) (G : GG) (σ : St) (k : Int) (x1 : Int) (x2 : Int) (hk : isK k (0, 7)) : Ctr l G yX7_canTake cX7_canTake 3 (some .boolean) rmX7_canTake [vr G k, vi x1, vi x2] (w0 σ) vzI (wzR σ) (gX7_canTake σ k x1 x2) := by
  refine ctr_of (by decide) (Nat.le_of_ble_eq_true rfl) mwX7_canTake.1 (fun X hl hR C R hnm => ?_)
  subst hl
  refine z_lv (lv' := [(0, vr G k), (1, vi x1), (2, vi x2)]) [0, 1, 2] rfl ?_
  show ZZ X G 3 (QM X G vzI (wzR σ) (0, 0)) (0, 0) ((gX0_worthAt σ (bd k) x1 x2).bind fun r1 => if w32 r1 ≤ 0 then some 0 else (gX7_freeAt σ k x2).bind fun r2 => if w32 r2 ≤ 0 then some 0 else gd (0 ≤ w32 x2 ∧ w32 x2 < 6) (gd (0 ≤ w32 x2 ∧ w32 x2 < 6) (if w32 (σ (k + 2) (w32 x2)) ≥ w32 (σ ((bd k) + 3) (w32 x2)) then some 0 else some 1))) (w0 σ) 0 [(0, vr G k), (1, vi x1), (2, vi x2)] []
  refine z_aload_n C 0 rfl 0 rfl dX7_canTake_0 1 rfl ?_
  refine y_getR C fX7_40 hk (lay_7_0 hk) dX7_canTake_1 4 rfl ?_
  refine z_iload_n C 1 rfl 1 rfl dX7_canTake_4 5 rfl ?_
  refine z_iload_n C 2 rfl 2 rfl dX7_canTake_5 6 rfl ?_
  refine y_callVI C hR (tX0_worthAt (mL X) G σ (bd k) x1 x2 ((lay_7_0 hk).2)) ⟨mwX0_worthAt, mvX0_worthAt, lkX7_78⟩ ((lay_7_0 hk).2) rfl rfl (Nat.le_of_ble_eq_true rfl) (by unfold rmOK; decide) dX7_canTake_6 9 rfl (fun r1 _ => ?_)
  refine z_if_le C dX7_canTake_9 42 (by decide) 12 rfl rfl (fun _ => ?_) (fun _ => ?_)
  · refine z_iconst C dX7_canTake_42 43 rfl ?_
    exact z_zret C R nz0 rfl rfl dX7_canTake_43
  · refine z_aload_n C 0 rfl 0 rfl dX7_canTake_12 13 rfl ?_
    refine z_iload_n C 2 rfl 2 rfl dX7_canTake_13 14 rfl ?_
    refine y_callVI C hR (tX7_freeAt (mL X) G σ k x2 hk) ⟨mwX7_freeAt, mvX7_freeAt, lkX7_82⟩ hk rfl rfl (Nat.le_of_ble_eq_true rfl) (by unfold rmOK; decide) dX7_canTake_14 17 rfl (fun r2 _ => ?_)
    refine z_if_le C dX7_canTake_17 42 (by decide) 20 rfl rfl (fun _ => ?_) (fun _ => ?_)
    · refine z_iconst C dX7_canTake_42 43 rfl ?_
      exact z_zret C R nz0 rfl rfl dX7_canTake_43
    · refine z_aload_n C 0 rfl 0 rfl dX7_canTake_20 21 rfl ?_
      refine y_getR C fX7_15 hk (lay_7_2 hk) dX7_canTake_21 24 rfl ?_
      refine z_iload_n C 2 rfl 2 rfl dX7_canTake_24 25 rfl ?_
      refine y_iald C ((lay_7_2 hk).2) rfl dX7_canTake_25 26 rfl rfl (fun _ => ?_)
      refine z_aload_n C 0 rfl 0 rfl dX7_canTake_26 27 rfl ?_
      refine y_getR C fX7_40 hk (lay_7_0 hk) dX7_canTake_27 30 rfl ?_
      refine y_getR C fX7_86 ((lay_7_0 hk).2) (lay_0_2 ((lay_7_0 hk).2)) dX7_canTake_30 33 rfl ?_
      refine z_iload_n C 2 rfl 2 rfl dX7_canTake_33 34 rfl ?_
      refine y_iald C ((lay_0_2 ((lay_7_0 hk).2)).2) rfl dX7_canTake_34 35 rfl rfl (fun _ => ?_)
      refine z_icmp_ge C dX7_canTake_35 42 (by decide) 38 rfl rfl rfl (fun _ => ?_) (fun _ => ?_)
      · refine z_iconst C dX7_canTake_42 43 rfl ?_
        exact z_zret C R nz0 rfl rfl dX7_canTake_43
      · refine z_iconst C dX7_canTake_38 39 rfl ?_
        refine z_goto C dX7_canTake_39 43 (by decide) ?_
        exact z_zret C R nz1 rfl rfl dX7_canTake_43
-- weakestAt
def gX7_weakestAt_L83 (F : Nat) (σ : St) (k : Int) (x1 : Int) (c8 : Int → Int → Int → Option (Int)) (x2 : Int) (x3 : Int) (x4 : Int) : Option (Int) := c8 x2 x3 (x4 + 1)
def gX7_weakestAt_L77 (F : Nat) (σ : St) (k : Int) (x1 : Int) (c8 : Int → Int → Int → Option (Int)) (x4 : Int) (x5 : Int) : Option (Int) := gX7_weakestAt_L83 F σ k x1 c8 x4 x5 x4
def gX7_weakestAt_L8 (F : Nat) (σ : St) (k : Int) (x1 : Int) : Nat → Int → Int → Int → Option (Int)
  | 0, _, _, _ => none
  | n + 1, x2, x3, x4 => if w32 x4 ≥ w32 (σ (bd k) 6) then some x2 else gd (0 ≤ w32 x4 ∧ w32 x4 < 9) (if w32 (σ (k + 3) (w32 x4)) ≠ w32 x1 then gX7_weakestAt_L83 F σ k x1 (gX7_weakestAt_L8 F σ k x1 n) x2 x3 x4 else (gX0_worthAt σ (bd k) x4 x1).bind fun r1 => if w32 x2 = (-4) then gX7_weakestAt_L77 F σ k x1 (gX7_weakestAt_L8 F σ k x1 n) x4 r1 else if w32 r1 < w32 x3 then gX7_weakestAt_L77 F σ k x1 (gX7_weakestAt_L8 F σ k x1 n) x4 r1 else if w32 r1 ≠ w32 x3 then gX7_weakestAt_L83 F σ k x1 (gX7_weakestAt_L8 F σ k x1 n) x2 x3 x4 else gd (0 ≤ w32 x4 ∧ w32 x4 < 9) (gd (0 ≤ w32 x2 ∧ w32 x2 < 9) (if w32 (σ (k + 4) (w32 x4)) ≤ w32 (σ (k + 4) (w32 x2)) then gX7_weakestAt_L83 F σ k x1 (gX7_weakestAt_L8 F σ k x1 n) x2 x3 x4 else gX7_weakestAt_L77 F σ k x1 (gX7_weakestAt_L8 F σ k x1 n) x4 r1)))
def gX7_weakestAt (F : Nat) (σ : St) (k : Int) (x1 : Int) : Option (Int) := gX7_weakestAt_L8 F σ k x1 F ((-4)) 0 0
def rmX7_weakestAt : Room := { frames := 1, cells := 0, slots := 0, locals := 22 }
set_option maxRecDepth 100000 in
set_option maxHeartbeats 4000000 in
theorem pX7_weakestAt_L83 {X : MX} {G : GG} (C : CX X G 6 cX7_weakestAt RX7) (R : RT X (some .int)) (hR : mR X = rmX7_weakestAt) (F : Nat) (σ : St) (k : Int) (hk : isK k (0, 7)) (x1 : Int) (c8 : Int → Int → Int → Option (Int)) (hc8 : ∀ (x2 : Int) (x3 : Int) (x4 : Int), ZZ X G 6 (QM X G vzI (wzR σ) (0, 0)) (0, 0) (c8 x2 x3 x4) (w0 σ) 8 [(0, vr G k), (1, vi x1), (2, vi x2), (3, vi x3), (4, vi x4)] []) : ∀ (x2 : Int) (x3 : Int) (x4 : Int), ZZ X G 6 (QM X G vzI (wzR σ) (0, 0)) (0, 0) (gX7_weakestAt_L83 F σ k x1 c8 x2 x3 x4) (w0 σ) 83 [(0, vr G k), (1, vi x1), (2, vi x2), (3, vi x3), (4, vi x4)] [] := by
  intro x2 x3 x4
  show ZZ X G 6 (QM X G vzI (wzR σ) (0, 0)) (0, 0) (c8 x2 x3 (x4 + 1)) (w0 σ) 83 [(0, vr G k), (1, vi x1), (2, vi x2), (3, vi x3), (4, vi x4)] []
  refine z_iinc (lv' := [(4, vi (x4 + 1)), (0, vr G k), (1, vi x1), (2, vi x2), (3, vi x3)]) C (by decide) 4 rfl dX7_weakestAt_83 86 rfl rfl ?_
  refine z_goto C dX7_weakestAt_86 8 (by decide) ?_
  refine z_lv (lv' := [(0, vr G k), (1, vi x1), (2, vi x2), (3, vi x3), (4, vi (x4 + 1))]) [1, 2, 3, 4, 0] rfl ?_
  exact hc8 x2 x3 (x4 + 1)
set_option maxRecDepth 100000 in
set_option maxHeartbeats 4000000 in
theorem pX7_weakestAt_L77 {X : MX} {G : GG} (C : CX X G 6 cX7_weakestAt RX7) (R : RT X (some .int)) (hR : mR X = rmX7_weakestAt) (F : Nat) (σ : St) (k : Int) (hk : isK k (0, 7)) (x1 : Int) (c8 : Int → Int → Int → Option (Int)) (hc8 : ∀ (x2 : Int) (x3 : Int) (x4 : Int), ZZ X G 6 (QM X G vzI (wzR σ) (0, 0)) (0, 0) (c8 x2 x3 x4) (w0 σ) 8 [(0, vr G k), (1, vi x1), (2, vi x2), (3, vi x3), (4, vi x4)] []) : ∀ (x4 : Int) (x5 : Int), ZZ X G 6 (QM X G vzI (wzR σ) (0, 0)) (0, 0) (gX7_weakestAt_L77 F σ k x1 c8 x4 x5) (w0 σ) 77 [(0, vr G k), (1, vi x1), (4, vi x4), (5, vi x5)] [] := by
  intro x4 x5
  show ZZ X G 6 (QM X G vzI (wzR σ) (0, 0)) (0, 0) (gX7_weakestAt_L83 F σ k x1 c8 x4 x5 x4) (w0 σ) 77 [(0, vr G k), (1, vi x1), (4, vi x4), (5, vi x5)] []
  refine z_iload C 2 rfl dX7_weakestAt_77 79 rfl ?_
  refine z_istore_n (lv' := [(2, vi x4), (0, vr G k), (1, vi x1), (4, vi x4), (5, vi x5)]) C 2 rfl (by decide) dX7_weakestAt_79 80 rfl rfl ?_
  refine z_iload C 4 rfl dX7_weakestAt_80 82 rfl ?_
  refine z_istore_n (lv' := [(3, vi x5), (2, vi x4), (0, vr G k), (1, vi x1), (4, vi x4), (5, vi x5)]) C 3 rfl (by decide) dX7_weakestAt_82 83 rfl rfl ?_
  refine z_lv (lv' := [(0, vr G k), (1, vi x1), (2, vi x4), (3, vi x5), (4, vi x4)]) [2, 3, 1, 0, 4] rfl ?_
  exact pX7_weakestAt_L83 C R hR F σ k hk x1 c8 hc8 x4 x5 x4
set_option maxRecDepth 100000 in
set_option maxHeartbeats 4000000 in
theorem pX7_weakestAt_L8 {X : MX} {G : GG} (C : CX X G 6 cX7_weakestAt RX7) (R : RT X (some .int)) (hR : mR X = rmX7_weakestAt) (F : Nat) (σ : St) (k : Int) (hk : isK k (0, 7)) (x1 : Int)  : ∀ (n : Nat) (x2 : Int) (x3 : Int) (x4 : Int), ZZ X G 6 (QM X G vzI (wzR σ) (0, 0)) (0, 0) (gX7_weakestAt_L8 F σ k x1 n x2 x3 x4) (w0 σ) 8 [(0, vr G k), (1, vi x1), (2, vi x2), (3, vi x3), (4, vi x4)] [] := by
  intro n
  induction n with
  | zero =>
    intro _ _ _
    exact z_none
  | succ n ih =>
    intro x2 x3 x4
    show ZZ X G 6 (QM X G vzI (wzR σ) (0, 0)) (0, 0) (if w32 x4 ≥ w32 (σ (bd k) 6) then some x2 else gd (0 ≤ w32 x4 ∧ w32 x4 < 9) (if w32 (σ (k + 3) (w32 x4)) ≠ w32 x1 then gX7_weakestAt_L83 F σ k x1 (gX7_weakestAt_L8 F σ k x1 n) x2 x3 x4 else (gX0_worthAt σ (bd k) x4 x1).bind fun r1 => if w32 x2 = (-4) then gX7_weakestAt_L77 F σ k x1 (gX7_weakestAt_L8 F σ k x1 n) x4 r1 else if w32 r1 < w32 x3 then gX7_weakestAt_L77 F σ k x1 (gX7_weakestAt_L8 F σ k x1 n) x4 r1 else if w32 r1 ≠ w32 x3 then gX7_weakestAt_L83 F σ k x1 (gX7_weakestAt_L8 F σ k x1 n) x2 x3 x4 else gd (0 ≤ w32 x4 ∧ w32 x4 < 9) (gd (0 ≤ w32 x2 ∧ w32 x2 < 9) (if w32 (σ (k + 4) (w32 x4)) ≤ w32 (σ (k + 4) (w32 x2)) then gX7_weakestAt_L83 F σ k x1 (gX7_weakestAt_L8 F σ k x1 n) x2 x3 x4 else gX7_weakestAt_L77 F σ k x1 (gX7_weakestAt_L8 F σ k x1 n) x4 r1)))) (w0 σ) 8 [(0, vr G k), (1, vi x1), (2, vi x2), (3, vi x3), (4, vi x4)] []
    refine z_iload C 4 rfl dX7_weakestAt_8 10 rfl ?_
    refine z_aload_n C 0 rfl 0 rfl dX7_weakestAt_10 11 rfl ?_
    refine y_getR C fX7_40 hk (lay_7_0 hk) dX7_weakestAt_11 14 rfl ?_
    refine y_getI C fX7_63 ((lay_7_0 hk).2) dX7_weakestAt_14 17 rfl ?_
    refine z_icmp_ge C dX7_weakestAt_17 89 (by decide) 20 rfl rfl rfl (fun _ => ?_) (fun _ => ?_)
    · refine z_iload_n C 2 rfl 2 rfl dX7_weakestAt_89 90 rfl ?_
      exact z_iret C R rfl rfl dX7_weakestAt_90
    · refine z_aload_n C 0 rfl 0 rfl dX7_weakestAt_20 21 rfl ?_
      refine y_getR C fX7_18 hk (lay_7_3 hk) dX7_weakestAt_21 24 rfl ?_
      refine z_iload C 4 rfl dX7_weakestAt_24 26 rfl ?_
      refine y_iald C ((lay_7_3 hk).2) rfl dX7_weakestAt_26 27 rfl rfl (fun _ => ?_)
      refine z_iload_n C 1 rfl 1 rfl dX7_weakestAt_27 28 rfl ?_
      refine z_icmp_ne C dX7_weakestAt_28 83 (by decide) 31 rfl rfl rfl (fun _ => ?_) (fun _ => ?_)
      · exact pX7_weakestAt_L83 C R hR F σ k hk x1 (gX7_weakestAt_L8 F σ k x1 n) ih x2 x3 x4
      · refine z_aload_n C 0 rfl 0 rfl dX7_weakestAt_31 32 rfl ?_
        refine y_getR C fX7_40 hk (lay_7_0 hk) dX7_weakestAt_32 35 rfl ?_
        refine z_iload C 4 rfl dX7_weakestAt_35 37 rfl ?_
        refine z_iload_n C 1 rfl 1 rfl dX7_weakestAt_37 38 rfl ?_
        refine y_callVI C hR (tX0_worthAt (mL X) G σ (bd k) x4 x1 ((lay_7_0 hk).2)) ⟨mwX0_worthAt, mvX0_worthAt, lkX7_78⟩ ((lay_7_0 hk).2) rfl rfl (Nat.le_of_ble_eq_true rfl) (by unfold rmOK; decide) dX7_weakestAt_38 41 rfl (fun r1 _ => ?_)
        refine z_istore (lv' := [(5, vi r1), (0, vr G k), (1, vi x1), (2, vi x2), (3, vi x3), (4, vi x4)]) C (by decide) dX7_weakestAt_41 43 rfl rfl ?_
        refine z_iload_n C 2 rfl 3 rfl dX7_weakestAt_43 44 rfl ?_
        refine z_bipush C (by decide) dX7_weakestAt_44 46 rfl ?_
        refine z_icmp_eq C dX7_weakestAt_46 77 (by decide) 49 rfl rfl (w32_id (a := (-4)) (by decide)) (fun _ => ?_) (fun _ => ?_)
        · refine z_lv (lv' := [(0, vr G k), (1, vi x1), (4, vi x4), (5, vi r1)]) [1, 2, 5, 0] rfl ?_
          exact pX7_weakestAt_L77 C R hR F σ k hk x1 (gX7_weakestAt_L8 F σ k x1 n) ih x4 r1
        · refine z_iload C 0 rfl dX7_weakestAt_49 51 rfl ?_
          refine z_iload_n C 3 rfl 4 rfl dX7_weakestAt_51 52 rfl ?_
          refine z_icmp_lt C dX7_weakestAt_52 77 (by decide) 55 rfl rfl rfl (fun _ => ?_) (fun _ => ?_)
          · refine z_lv (lv' := [(0, vr G k), (1, vi x1), (4, vi x4), (5, vi r1)]) [1, 2, 5, 0] rfl ?_
            exact pX7_weakestAt_L77 C R hR F σ k hk x1 (gX7_weakestAt_L8 F σ k x1 n) ih x4 r1
          · refine z_iload C 0 rfl dX7_weakestAt_55 57 rfl ?_
            refine z_iload_n C 3 rfl 4 rfl dX7_weakestAt_57 58 rfl ?_
            refine z_icmp_ne C dX7_weakestAt_58 83 (by decide) 61 rfl rfl rfl (fun _ => ?_) (fun _ => ?_)
            · refine z_lv (lv' := [(0, vr G k), (1, vi x1), (2, vi x2), (3, vi x3), (4, vi x4)]) [1, 2, 3, 4, 5] rfl ?_
              exact pX7_weakestAt_L83 C R hR F σ k hk x1 (gX7_weakestAt_L8 F σ k x1 n) ih x2 x3 x4
            · refine z_aload_n C 0 rfl 1 rfl dX7_weakestAt_61 62 rfl ?_
              refine y_getR C fX7_21 hk (lay_7_4 hk) dX7_weakestAt_62 65 rfl ?_
              refine z_iload C 5 rfl dX7_weakestAt_65 67 rfl ?_
              refine y_iald C ((lay_7_4 hk).2) rfl dX7_weakestAt_67 68 rfl rfl (fun _ => ?_)
              refine z_aload_n C 0 rfl 1 rfl dX7_weakestAt_68 69 rfl ?_
              refine y_getR C fX7_21 hk (lay_7_4 hk) dX7_weakestAt_69 72 rfl ?_
              refine z_iload_n C 2 rfl 3 rfl dX7_weakestAt_72 73 rfl ?_
              refine y_iald C ((lay_7_4 hk).2) rfl dX7_weakestAt_73 74 rfl rfl (fun _ => ?_)
              refine z_icmp_le C dX7_weakestAt_74 83 (by decide) 77 rfl rfl rfl (fun _ => ?_) (fun _ => ?_)
              · refine z_lv (lv' := [(0, vr G k), (1, vi x1), (2, vi x2), (3, vi x3), (4, vi x4)]) [1, 2, 3, 4, 5] rfl ?_
                exact pX7_weakestAt_L83 C R hR F σ k hk x1 (gX7_weakestAt_L8 F σ k x1 n) ih x2 x3 x4
              · refine z_lv (lv' := [(0, vr G k), (1, vi x1), (4, vi x4), (5, vi r1)]) [1, 2, 5, 0] rfl ?_
                exact pX7_weakestAt_L77 C R hR F σ k hk x1 (gX7_weakestAt_L8 F σ k x1 n) ih x4 r1
set_option maxRecDepth 100000 in
set_option maxHeartbeats 4000000 in
theorem tX7_weakestAt (l : Launch) (G : GG) (F : Nat) (σ : St) (k : Int) (x1 : Int) (hk : isK k (0, 7)) : Ctr l G yX7_weakestAt cX7_weakestAt 6 (some .int) rmX7_weakestAt [vr G k, vi x1] (w0 σ) vzI (wzR σ) (gX7_weakestAt F σ k x1) := by
  refine ctr_of (by decide) (Nat.le_of_ble_eq_true rfl) mwX7_weakestAt.1 (fun X hl hR C R hnm => ?_)
  subst hl
  refine z_lv (lv' := [(0, vr G k), (1, vi x1)]) [0, 1] rfl ?_
  show ZZ X G 6 (QM X G vzI (wzR σ) (0, 0)) (0, 0) (gX7_weakestAt_L8 F σ k x1 F ((-4)) 0 0) (w0 σ) 0 [(0, vr G k), (1, vi x1)] []
  refine z_bipush C (by decide) dX7_weakestAt_0 2 rfl ?_
  refine z_istore_n (lv' := [(2, vi ((-4))), (0, vr G k), (1, vi x1)]) C 2 rfl (by decide) dX7_weakestAt_2 3 rfl rfl ?_
  refine z_iconst C dX7_weakestAt_3 4 rfl ?_
  refine z_istore_n (lv' := [(3, vi 0), (2, vi ((-4))), (0, vr G k), (1, vi x1)]) C 3 rfl (by decide) dX7_weakestAt_4 5 rfl rfl ?_
  refine z_iconst C dX7_weakestAt_5 6 rfl ?_
  refine z_istore (lv' := [(4, vi 0), (3, vi 0), (2, vi ((-4))), (0, vr G k), (1, vi x1)]) C (by decide) dX7_weakestAt_6 8 rfl rfl ?_
  refine z_lv (lv' := [(0, vr G k), (1, vi x1), (2, vi ((-4))), (3, vi 0), (4, vi 0)]) [3, 4, 2, 1, 0] rfl ?_
  exact pX7_weakestAt_L8 C R hR F σ k hk x1 F ((-4)) 0 0
-- canTakeByDrop
def gX7_canTakeByDrop (F : Nat) (σ : St) (k : Int) (x1 : Int) (x2 : Int) : Option (Int) := (gX7_freeAt σ k x2).bind fun r1 => if w32 r1 > 0 then some 0 else gd (0 ≤ w32 x2 ∧ w32 x2 < 6) (gd (0 ≤ w32 x2 ∧ w32 x2 < 6) (if w32 (σ (k + 2) (w32 x2)) < w32 (σ ((bd k) + 3) (w32 x2)) then (gX7_weakestAt F σ k x2).bind fun r2 => if w32 r2 = (-4) then some 0 else (gX0_worthAt σ (bd k) r2 x2).bind fun r3 => (gX0_worthAt σ (bd k) x1 x2).bind fun r4 => if w32 r3 ≥ w32 r4 then some 0 else some 1 else some 0))
def rmX7_canTakeByDrop : Room := { frames := 2, cells := 0, slots := 0, locals := 47 }
set_option maxRecDepth 100000 in
set_option maxHeartbeats 4000000 in
theorem tX7_canTakeByDrop (l : Launch) (G : GG) (F : Nat) (σ : St) (k : Int) (x1 : Int) (x2 : Int) (hk : isK k (0, 7)) : Ctr l G yX7_canTakeByDrop cX7_canTakeByDrop 4 (some .boolean) rmX7_canTakeByDrop [vr G k, vi x1, vi x2] (w0 σ) vzI (wzR σ) (gX7_canTakeByDrop F σ k x1 x2) := by
  refine ctr_of (by decide) (Nat.le_of_ble_eq_true rfl) mwX7_canTakeByDrop.1 (fun X hl hR C R hnm => ?_)
  subst hl
  refine z_lv (lv' := [(0, vr G k), (1, vi x1), (2, vi x2)]) [0, 1, 2] rfl ?_
  show ZZ X G 4 (QM X G vzI (wzR σ) (0, 0)) (0, 0) ((gX7_freeAt σ k x2).bind fun r1 => if w32 r1 > 0 then some 0 else gd (0 ≤ w32 x2 ∧ w32 x2 < 6) (gd (0 ≤ w32 x2 ∧ w32 x2 < 6) (if w32 (σ (k + 2) (w32 x2)) < w32 (σ ((bd k) + 3) (w32 x2)) then (gX7_weakestAt F σ k x2).bind fun r2 => if w32 r2 = (-4) then some 0 else (gX0_worthAt σ (bd k) r2 x2).bind fun r3 => (gX0_worthAt σ (bd k) x1 x2).bind fun r4 => if w32 r3 ≥ w32 r4 then some 0 else some 1 else some 0))) (w0 σ) 0 [(0, vr G k), (1, vi x1), (2, vi x2)] []
  refine z_aload_n C 0 rfl 0 rfl dX7_canTakeByDrop_0 1 rfl ?_
  refine z_iload_n C 2 rfl 2 rfl dX7_canTakeByDrop_1 2 rfl ?_
  refine y_callVI C hR (tX7_freeAt (mL X) G σ k x2 hk) ⟨mwX7_freeAt, mvX7_freeAt, lkX7_82⟩ hk rfl rfl (Nat.le_of_ble_eq_true rfl) (by unfold rmOK; decide) dX7_canTakeByDrop_2 5 rfl (fun r1 _ => ?_)
  refine z_if_gt C dX7_canTakeByDrop_5 26 (by decide) 8 rfl rfl (fun _ => ?_) (fun _ => ?_)
  · refine z_iconst C dX7_canTakeByDrop_26 27 rfl ?_
    exact z_zret C R nz0 rfl rfl dX7_canTakeByDrop_27
  · refine z_aload_n C 0 rfl 0 rfl dX7_canTakeByDrop_8 9 rfl ?_
    refine y_getR C fX7_15 hk (lay_7_2 hk) dX7_canTakeByDrop_9 12 rfl ?_
    refine z_iload_n C 2 rfl 2 rfl dX7_canTakeByDrop_12 13 rfl ?_
    refine y_iald C ((lay_7_2 hk).2) rfl dX7_canTakeByDrop_13 14 rfl rfl (fun _ => ?_)
    refine z_aload_n C 0 rfl 0 rfl dX7_canTakeByDrop_14 15 rfl ?_
    refine y_getR C fX7_40 hk (lay_7_0 hk) dX7_canTakeByDrop_15 18 rfl ?_
    refine y_getR C fX7_86 ((lay_7_0 hk).2) (lay_0_2 ((lay_7_0 hk).2)) dX7_canTakeByDrop_18 21 rfl ?_
    refine z_iload_n C 2 rfl 2 rfl dX7_canTakeByDrop_21 22 rfl ?_
    refine y_iald C ((lay_0_2 ((lay_7_0 hk).2)).2) rfl dX7_canTakeByDrop_22 23 rfl rfl (fun _ => ?_)
    refine z_icmp_lt C dX7_canTakeByDrop_23 28 (by decide) 26 rfl rfl rfl (fun _ => ?_) (fun _ => ?_)
    · refine z_aload_n C 0 rfl 0 rfl dX7_canTakeByDrop_28 29 rfl ?_
      refine z_iload_n C 2 rfl 2 rfl dX7_canTakeByDrop_29 30 rfl ?_
      refine y_callVI C hR (tX7_weakestAt (mL X) G F σ k x2 hk) ⟨mwX7_weakestAt, mvX7_weakestAt, lkX7_116⟩ hk rfl rfl (Nat.le_of_ble_eq_true rfl) (by unfold rmOK; decide) dX7_canTakeByDrop_30 33 rfl (fun r2 _ => ?_)
      refine z_istore_n (lv' := [(3, vi r2), (0, vr G k), (1, vi x1), (2, vi x2)]) C 3 rfl (by decide) dX7_canTakeByDrop_33 34 rfl rfl ?_
      refine z_iload_n C 3 rfl 0 rfl dX7_canTakeByDrop_34 35 rfl ?_
      refine z_bipush C (by decide) dX7_canTakeByDrop_35 37 rfl ?_
      refine z_icmp_eq C dX7_canTakeByDrop_37 65 (by decide) 40 rfl rfl (w32_id (a := (-4)) (by decide)) (fun _ => ?_) (fun _ => ?_)
      · refine z_iconst C dX7_canTakeByDrop_65 66 rfl ?_
        exact z_zret C R nz0 rfl rfl dX7_canTakeByDrop_66
      · refine z_aload_n C 0 rfl 1 rfl dX7_canTakeByDrop_40 41 rfl ?_
        refine y_getR C fX7_40 hk (lay_7_0 hk) dX7_canTakeByDrop_41 44 rfl ?_
        refine z_iload_n C 3 rfl 0 rfl dX7_canTakeByDrop_44 45 rfl ?_
        refine z_iload_n C 2 rfl 3 rfl dX7_canTakeByDrop_45 46 rfl ?_
        refine y_callVI C hR (tX0_worthAt (mL X) G σ (bd k) r2 x2 ((lay_7_0 hk).2)) ⟨mwX0_worthAt, mvX0_worthAt, lkX7_78⟩ ((lay_7_0 hk).2) rfl rfl (Nat.le_of_ble_eq_true rfl) (by unfold rmOK; decide) dX7_canTakeByDrop_46 49 rfl (fun r3 _ => ?_)
        refine z_aload_n C 0 rfl 1 rfl dX7_canTakeByDrop_49 50 rfl ?_
        refine y_getR C fX7_40 hk (lay_7_0 hk) dX7_canTakeByDrop_50 53 rfl ?_
        refine z_iload_n C 1 rfl 2 rfl dX7_canTakeByDrop_53 54 rfl ?_
        refine z_iload_n C 2 rfl 3 rfl dX7_canTakeByDrop_54 55 rfl ?_
        refine y_callVI C hR (tX0_worthAt (mL X) G σ (bd k) x1 x2 ((lay_7_0 hk).2)) ⟨mwX0_worthAt, mvX0_worthAt, lkX7_78⟩ ((lay_7_0 hk).2) rfl rfl (Nat.le_of_ble_eq_true rfl) (by unfold rmOK; decide) dX7_canTakeByDrop_55 58 rfl (fun r4 _ => ?_)
        refine z_icmp_ge C dX7_canTakeByDrop_58 65 (by decide) 61 rfl rfl rfl (fun _ => ?_) (fun _ => ?_)
        · refine z_iconst C dX7_canTakeByDrop_65 66 rfl ?_
          exact z_zret C R nz0 rfl rfl dX7_canTakeByDrop_66
        · refine z_iconst C dX7_canTakeByDrop_61 62 rfl ?_
          refine z_goto C dX7_canTakeByDrop_62 66 (by decide) ?_
          exact z_zret C R nz1 rfl rfl dX7_canTakeByDrop_66
    · refine z_iconst C dX7_canTakeByDrop_26 27 rfl ?_
      exact z_zret C R nz0 rfl rfl dX7_canTakeByDrop_27
-- keyOf
def gX7_keyOf (σ : St) (k : Int) (x1 : Int) (x2 : Int) (x3 : Int) : Option (Int) := if w32 x1 = 0 then (gX0_worthAt σ (bd k) x2 x3).bind fun r1 => some r1 else if w32 x1 = 1 then gd (0 ≤ w32 x3 ∧ w32 x3 < 6) (if w32 (σ ((bd k) + 1) (w32 x3)) ≤ 0 then some 0 else (gX7_freeAt σ k x3).bind fun r2 => gd (0 ≤ w32 x3 ∧ w32 x3 < 6) (gd (w32 (σ ((bd k) + 1) (w32 x3)) ≠ 0) (some (idv (100 * r2) (σ ((bd k) + 1) (w32 x3)))))) else if w32 x1 = 2 then (gX7_freeAt σ k x3).bind fun r3 => some r3 else if w32 x1 = 3 then gd (0 ≤ w32 x3 ∧ w32 x3 < 6) (some (σ ((bd k) + 2) (w32 x3))) else if w32 x1 = 4 then gd (0 ≤ w32 x3 ∧ w32 x3 < 6) (some (σ (k + 2) (w32 x3))) else some x3
def rmX7_keyOf : Room := { frames := 1, cells := 0, slots := 0, locals := 22 }
set_option maxRecDepth 100000 in
set_option maxHeartbeats 4000000 in
theorem tX7_keyOf (l : Launch) (G : GG) (σ : St) (k : Int) (x1 : Int) (x2 : Int) (x3 : Int) (hk : isK k (0, 7)) : Ctr l G yX7_keyOf cX7_keyOf 4 (some .int) rmX7_keyOf [vr G k, vi x1, vi x2, vi x3] (w0 σ) vzI (wzR σ) (gX7_keyOf σ k x1 x2 x3) := by
  refine ctr_of (by decide) (Nat.le_of_ble_eq_true rfl) mwX7_keyOf.1 (fun X hl hR C R hnm => ?_)
  subst hl
  refine z_lv (lv' := [(0, vr G k), (1, vi x1), (2, vi x2), (3, vi x3)]) [0, 1, 2, 3] rfl ?_
  show ZZ X G 4 (QM X G vzI (wzR σ) (0, 0)) (0, 0) (if w32 x1 = 0 then (gX0_worthAt σ (bd k) x2 x3).bind fun r1 => some r1 else if w32 x1 = 1 then gd (0 ≤ w32 x3 ∧ w32 x3 < 6) (if w32 (σ ((bd k) + 1) (w32 x3)) ≤ 0 then some 0 else (gX7_freeAt σ k x3).bind fun r2 => gd (0 ≤ w32 x3 ∧ w32 x3 < 6) (gd (w32 (σ ((bd k) + 1) (w32 x3)) ≠ 0) (some (idv (100 * r2) (σ ((bd k) + 1) (w32 x3)))))) else if w32 x1 = 2 then (gX7_freeAt σ k x3).bind fun r3 => some r3 else if w32 x1 = 3 then gd (0 ≤ w32 x3 ∧ w32 x3 < 6) (some (σ ((bd k) + 2) (w32 x3))) else if w32 x1 = 4 then gd (0 ≤ w32 x3 ∧ w32 x3 < 6) (some (σ (k + 2) (w32 x3))) else some x3) (w0 σ) 0 [(0, vr G k), (1, vi x1), (2, vi x2), (3, vi x3)] []
  refine z_iload_n C 1 rfl 1 rfl dX7_keyOf_0 1 rfl ?_
  refine z_ite (fun hq0 => ?_) (fun hn0 => ?_)
  · refine z_tin C dX7_keyOf_1 (v := 0) (hq0) (by decide) rfl 36 (by decide) ?_
    refine z_aload_n C 0 rfl 0 rfl dX7_keyOf_36 37 rfl ?_
    refine y_getR C fX7_40 hk (lay_7_0 hk) dX7_keyOf_37 40 rfl ?_
    refine z_iload_n C 2 rfl 2 rfl dX7_keyOf_40 41 rfl ?_
    refine z_iload_n C 3 rfl 3 rfl dX7_keyOf_41 42 rfl ?_
    refine y_callVI C hR (tX0_worthAt (mL X) G σ (bd k) x2 x3 ((lay_7_0 hk).2)) ⟨mwX0_worthAt, mvX0_worthAt, lkX7_78⟩ ((lay_7_0 hk).2) rfl rfl (Nat.le_of_ble_eq_true rfl) (by unfold rmOK; decide) dX7_keyOf_42 45 rfl (fun r1 _ => ?_)
    exact z_iret C R rfl rfl dX7_keyOf_45
  refine z_ite (fun hq1 => ?_) (fun hn1 => ?_)
  · refine z_tin C dX7_keyOf_1 (v := 1) (hq1) (by decide) rfl 46 (by decide) ?_
    refine z_aload_n C 0 rfl 0 rfl dX7_keyOf_46 47 rfl ?_
    refine y_getR C fX7_40 hk (lay_7_0 hk) dX7_keyOf_47 50 rfl ?_
    refine y_getR C fX7_72 ((lay_7_0 hk).2) (lay_0_0 ((lay_7_0 hk).2)) dX7_keyOf_50 53 rfl ?_
    refine z_iload_n C 3 rfl 3 rfl dX7_keyOf_53 54 rfl ?_
    refine y_iald C ((lay_0_0 ((lay_7_0 hk).2)).2) rfl dX7_keyOf_54 55 rfl rfl (fun _ => ?_)
    refine z_if_le C dX7_keyOf_55 79 (by decide) 58 rfl rfl (fun _ => ?_) (fun _ => ?_)
    · refine z_iconst C dX7_keyOf_79 80 rfl ?_
      exact z_iret C R rfl rfl dX7_keyOf_80
    · refine z_bipush C (by decide) dX7_keyOf_58 60 rfl ?_
      refine z_aload_n C 0 rfl 0 rfl dX7_keyOf_60 61 rfl ?_
      refine z_iload_n C 3 rfl 3 rfl dX7_keyOf_61 62 rfl ?_
      refine y_callVI C hR (tX7_freeAt (mL X) G σ k x3 hk) ⟨mwX7_freeAt, mvX7_freeAt, lkX7_82⟩ hk rfl rfl (Nat.le_of_ble_eq_true rfl) (by unfold rmOK; decide) dX7_keyOf_62 65 rfl (fun r2 _ => ?_)
      refine z_imul C dX7_keyOf_65 66 rfl ?_
      refine z_aload_n C 0 rfl 0 rfl dX7_keyOf_66 67 rfl ?_
      refine y_getR C fX7_40 hk (lay_7_0 hk) dX7_keyOf_67 70 rfl ?_
      refine y_getR C fX7_72 ((lay_7_0 hk).2) (lay_0_0 ((lay_7_0 hk).2)) dX7_keyOf_70 73 rfl ?_
      refine z_iload_n C 3 rfl 3 rfl dX7_keyOf_73 74 rfl ?_
      refine y_iald C ((lay_0_0 ((lay_7_0 hk).2)).2) rfl dX7_keyOf_74 75 rfl rfl (fun _ => ?_)
      refine z_idiv C dX7_keyOf_75 76 rfl ?_
      refine z_goto C dX7_keyOf_76 80 (by decide) ?_
      exact z_iret C R rfl rfl dX7_keyOf_80
  refine z_ite (fun hq2 => ?_) (fun hn2 => ?_)
  · refine z_tin C dX7_keyOf_1 (v := 2) (hq2) (by decide) rfl 81 (by decide) ?_
    refine z_aload_n C 0 rfl 0 rfl dX7_keyOf_81 82 rfl ?_
    refine z_iload_n C 3 rfl 3 rfl dX7_keyOf_82 83 rfl ?_
    refine y_callVI C hR (tX7_freeAt (mL X) G σ k x3 hk) ⟨mwX7_freeAt, mvX7_freeAt, lkX7_82⟩ hk rfl rfl (Nat.le_of_ble_eq_true rfl) (by unfold rmOK; decide) dX7_keyOf_83 86 rfl (fun r3 _ => ?_)
    exact z_iret C R rfl rfl dX7_keyOf_86
  refine z_ite (fun hq3 => ?_) (fun hn3 => ?_)
  · refine z_tin C dX7_keyOf_1 (v := 3) (hq3) (by decide) rfl 87 (by decide) ?_
    refine z_aload_n C 0 rfl 0 rfl dX7_keyOf_87 88 rfl ?_
    refine y_getR C fX7_40 hk (lay_7_0 hk) dX7_keyOf_88 91 rfl ?_
    refine y_getR C fX7_144 ((lay_7_0 hk).2) (lay_0_1 ((lay_7_0 hk).2)) dX7_keyOf_91 94 rfl ?_
    refine z_iload_n C 3 rfl 3 rfl dX7_keyOf_94 95 rfl ?_
    refine y_iald C ((lay_0_1 ((lay_7_0 hk).2)).2) rfl dX7_keyOf_95 96 rfl rfl (fun _ => ?_)
    exact z_iret C R rfl rfl dX7_keyOf_96
  refine z_ite (fun hq4 => ?_) (fun hn4 => ?_)
  · refine z_tin C dX7_keyOf_1 (v := 4) (hq4) (by decide) rfl 97 (by decide) ?_
    refine z_aload_n C 0 rfl 0 rfl dX7_keyOf_97 98 rfl ?_
    refine y_getR C fX7_15 hk (lay_7_2 hk) dX7_keyOf_98 101 rfl ?_
    refine z_iload_n C 3 rfl 3 rfl dX7_keyOf_101 102 rfl ?_
    refine y_iald C ((lay_7_2 hk).2) rfl dX7_keyOf_102 103 rfl rfl (fun _ => ?_)
    exact z_iret C R rfl rfl dX7_keyOf_103
  refine z_tout C dX7_keyOf_1 (by omega) 104 (by decide) ?_
  refine z_iload_n C 3 rfl 3 rfl dX7_keyOf_104 105 rfl ?_
  exact z_iret C R rfl rfl dX7_keyOf_105
-- passes
def gX7_passes_L65 (F : Nat) (σ : St) (k : Int) (x1 : Int) (x2 : Int) (x3 : Int) (c3 : Int → Option (Int)) (x4 : Int) : Option (Int) := c3 (x4 + 1)
def gX7_passes_L3 (F : Nat) (σ : St) (k : Int) (x1 : Int) (x2 : Int) (x3 : Int) : Nat → Int → Option (Int)
  | 0, _ => none
  | n + 1, x4 => if w32 x4 ≥ w32 (σ x3 9) then some 1 else gd (0 ≤ w32 x4 ∧ w32 x4 < 4) ((gX7_keyOf σ k (σ (x3 + 3) (w32 x4)) x1 x2).bind fun r1 => gd (0 ≤ w32 x4 ∧ w32 x4 < 4) (gd (0 ≤ w32 x4 ∧ w32 x4 < 4) (if w32 (σ (x3 + 4) (w32 x4)) = 0 then if w32 r1 > w32 (σ (x3 + 5) (w32 x4)) then gX7_passes_L65 F σ k x1 x2 x3 (gX7_passes_L3 F σ k x1 x2 x3 n) x4 else some 0 else if w32 r1 < w32 (σ (x3 + 5) (w32 x4)) then gX7_passes_L65 F σ k x1 x2 x3 (gX7_passes_L3 F σ k x1 x2 x3 n) x4 else some 0)))
def gX7_passes (F : Nat) (σ : St) (k : Int) (x1 : Int) (x2 : Int) (x3 : Int) : Option (Int) := gX7_passes_L3 F σ k x1 x2 x3 F 0
def rmX7_passes : Room := { frames := 2, cells := 0, slots := 0, locals := 45 }
set_option maxRecDepth 100000 in
set_option maxHeartbeats 4000000 in
theorem pX7_passes_L65 {X : MX} {G : GG} (C : CX X G 7 cX7_passes RX7) (R : RT X (some .boolean)) (hR : mR X = rmX7_passes) (F : Nat) (σ : St) (k : Int) (hk : isK k (0, 7)) (x1 : Int) (x2 : Int) (x3 : Int) (h3 : isK x3 (0, 5)) (c3 : Int → Option (Int)) (hc3 : ∀ (x4 : Int), ZZ X G 7 (QM X G vzI (wzR σ) (0, 0)) (0, 0) (c3 x4) (w0 σ) 3 [(0, vr G k), (1, vi x1), (2, vi x2), (3, vr G x3), (4, vi x4)] []) : ∀ (x4 : Int), ZZ X G 7 (QM X G vzI (wzR σ) (0, 0)) (0, 0) (gX7_passes_L65 F σ k x1 x2 x3 c3 x4) (w0 σ) 65 [(0, vr G k), (1, vi x1), (2, vi x2), (3, vr G x3), (4, vi x4)] [] := by
  intro x4
  show ZZ X G 7 (QM X G vzI (wzR σ) (0, 0)) (0, 0) (c3 (x4 + 1)) (w0 σ) 65 [(0, vr G k), (1, vi x1), (2, vi x2), (3, vr G x3), (4, vi x4)] []
  refine z_iinc (lv' := [(4, vi (x4 + 1)), (0, vr G k), (1, vi x1), (2, vi x2), (3, vr G x3)]) C (by decide) 4 rfl dX7_passes_65 68 rfl rfl ?_
  refine z_goto C dX7_passes_68 3 (by decide) ?_
  refine z_lv (lv' := [(0, vr G k), (1, vi x1), (2, vi x2), (3, vr G x3), (4, vi (x4 + 1))]) [1, 2, 3, 4, 0] rfl ?_
  exact hc3 (x4 + 1)
set_option maxRecDepth 100000 in
set_option maxHeartbeats 4000000 in
theorem pX7_passes_L3 {X : MX} {G : GG} (C : CX X G 7 cX7_passes RX7) (R : RT X (some .boolean)) (hR : mR X = rmX7_passes) (F : Nat) (σ : St) (k : Int) (hk : isK k (0, 7)) (x1 : Int) (x2 : Int) (x3 : Int) (h3 : isK x3 (0, 5))  : ∀ (n : Nat) (x4 : Int), ZZ X G 7 (QM X G vzI (wzR σ) (0, 0)) (0, 0) (gX7_passes_L3 F σ k x1 x2 x3 n x4) (w0 σ) 3 [(0, vr G k), (1, vi x1), (2, vi x2), (3, vr G x3), (4, vi x4)] [] := by
  intro n
  induction n with
  | zero =>
    intro _
    exact z_none
  | succ n ih =>
    intro x4
    show ZZ X G 7 (QM X G vzI (wzR σ) (0, 0)) (0, 0) (if w32 x4 ≥ w32 (σ x3 9) then some 1 else gd (0 ≤ w32 x4 ∧ w32 x4 < 4) ((gX7_keyOf σ k (σ (x3 + 3) (w32 x4)) x1 x2).bind fun r1 => gd (0 ≤ w32 x4 ∧ w32 x4 < 4) (gd (0 ≤ w32 x4 ∧ w32 x4 < 4) (if w32 (σ (x3 + 4) (w32 x4)) = 0 then if w32 r1 > w32 (σ (x3 + 5) (w32 x4)) then gX7_passes_L65 F σ k x1 x2 x3 (gX7_passes_L3 F σ k x1 x2 x3 n) x4 else some 0 else if w32 r1 < w32 (σ (x3 + 5) (w32 x4)) then gX7_passes_L65 F σ k x1 x2 x3 (gX7_passes_L3 F σ k x1 x2 x3 n) x4 else some 0)))) (w0 σ) 3 [(0, vr G k), (1, vi x1), (2, vi x2), (3, vr G x3), (4, vi x4)] []
    refine z_iload C 4 rfl dX7_passes_3 5 rfl ?_
    refine z_aload_n C 3 rfl 3 rfl dX7_passes_5 6 rfl ?_
    refine y_getI C fX7_119 h3 dX7_passes_6 9 rfl ?_
    refine z_icmp_ge C dX7_passes_9 71 (by decide) 12 rfl rfl rfl (fun _ => ?_) (fun _ => ?_)
    · refine z_iconst C dX7_passes_71 72 rfl ?_
      exact z_zret C R nz1 rfl rfl dX7_passes_72
    · refine z_aload_n C 0 rfl 0 rfl dX7_passes_12 13 rfl ?_
      refine z_aload_n C 3 rfl 3 rfl dX7_passes_13 14 rfl ?_
      refine y_getR C fX7_122 h3 (lay_5_2 h3) dX7_passes_14 17 rfl ?_
      refine z_iload C 4 rfl dX7_passes_17 19 rfl ?_
      refine y_iald C ((lay_5_2 h3).2) rfl dX7_passes_19 20 rfl rfl (fun _ => ?_)
      refine z_iload_n C 1 rfl 1 rfl dX7_passes_20 21 rfl ?_
      refine z_iload_n C 2 rfl 2 rfl dX7_passes_21 22 rfl ?_
      refine y_callVI C hR (tX7_keyOf (mL X) G σ k (σ (x3 + 3) (w32 x4)) x1 x2 hk) ⟨mwX7_keyOf, mvX7_keyOf, lkX7_125⟩ hk rfl rfl (Nat.le_of_ble_eq_true rfl) (by unfold rmOK; decide) dX7_passes_22 25 rfl (fun r1 _ => ?_)
      refine z_istore (lv' := [(5, vi r1), (0, vr G k), (1, vi x1), (2, vi x2), (3, vr G x3), (4, vi x4)]) C (by decide) dX7_passes_25 27 rfl rfl ?_
      refine z_aload_n C 3 rfl 4 rfl dX7_passes_27 28 rfl ?_
      refine y_getR C fX7_129 h3 (lay_5_4 h3) dX7_passes_28 31 rfl ?_
      refine z_iload C 5 rfl dX7_passes_31 33 rfl ?_
      refine y_iald C ((lay_5_4 h3).2) rfl dX7_passes_33 34 rfl rfl (fun _ => ?_)
      refine z_istore (lv' := [(6, vi (σ (x3 + 5) (w32 x4))), (5, vi r1), (0, vr G k), (1, vi x1), (2, vi x2), (3, vr G x3), (4, vi x4)]) C (by decide) dX7_passes_34 36 rfl rfl ?_
      refine z_aload_n C 3 rfl 5 rfl dX7_passes_36 37 rfl ?_
      refine y_getR C fX7_132 h3 (lay_5_3 h3) dX7_passes_37 40 rfl ?_
      refine z_iload C 6 rfl dX7_passes_40 42 rfl ?_
      refine y_zald C ((lay_5_3 h3).2) rfl dX7_passes_42 43 rfl rfl (fun _ => ?_)
      refine z_if_eq C dX7_passes_43 56 (by decide) 46 rfl rfl (fun _ => ?_) (fun _ => ?_)
      · refine z_iload C 1 rfl dX7_passes_56 58 rfl ?_
        refine z_iload C 0 rfl dX7_passes_58 60 rfl ?_
        refine z_icmp_gt C dX7_passes_60 65 (by decide) 63 rfl rfl rfl (fun _ => ?_) (fun _ => ?_)
        · refine z_lv (lv' := [(0, vr G k), (1, vi x1), (2, vi x2), (3, vr G x3), (4, vi x4)]) [2, 3, 4, 5, 6] rfl ?_
          exact pX7_passes_L65 C R hR F σ k hk x1 x2 x3 h3 (gX7_passes_L3 F σ k x1 x2 x3 n) ih x4
        · refine z_iconst C dX7_passes_63 64 rfl ?_
          exact z_zret C R nz0 rfl rfl dX7_passes_64
      · refine z_iload C 1 rfl dX7_passes_46 48 rfl ?_
        refine z_iload C 0 rfl dX7_passes_48 50 rfl ?_
        refine z_icmp_lt C dX7_passes_50 65 (by decide) 53 rfl rfl rfl (fun _ => ?_) (fun _ => ?_)
        · refine z_lv (lv' := [(0, vr G k), (1, vi x1), (2, vi x2), (3, vr G x3), (4, vi x4)]) [2, 3, 4, 5, 6] rfl ?_
          exact pX7_passes_L65 C R hR F σ k hk x1 x2 x3 h3 (gX7_passes_L3 F σ k x1 x2 x3 n) ih x4
        · refine z_goto C dX7_passes_53 63 (by decide) ?_
          refine z_iconst C dX7_passes_63 64 rfl ?_
          exact z_zret C R nz0 rfl rfl dX7_passes_64
set_option maxRecDepth 100000 in
set_option maxHeartbeats 4000000 in
theorem tX7_passes (l : Launch) (G : GG) (F : Nat) (σ : St) (k : Int) (x1 : Int) (x2 : Int) (x3 : Int) (hk : isK k (0, 7)) (h3 : isK x3 (0, 5)) : Ctr l G yX7_passes cX7_passes 7 (some .boolean) rmX7_passes [vr G k, vi x1, vi x2, vr G x3] (w0 σ) vzI (wzR σ) (gX7_passes F σ k x1 x2 x3) := by
  refine ctr_of (by decide) (Nat.le_of_ble_eq_true rfl) mwX7_passes.1 (fun X hl hR C R hnm => ?_)
  subst hl
  refine z_lv (lv' := [(0, vr G k), (1, vi x1), (2, vi x2), (3, vr G x3)]) [0, 1, 2, 3] rfl ?_
  show ZZ X G 7 (QM X G vzI (wzR σ) (0, 0)) (0, 0) (gX7_passes_L3 F σ k x1 x2 x3 F 0) (w0 σ) 0 [(0, vr G k), (1, vi x1), (2, vi x2), (3, vr G x3)] []
  refine z_iconst C dX7_passes_0 1 rfl ?_
  refine z_istore (lv' := [(4, vi 0), (0, vr G k), (1, vi x1), (2, vi x2), (3, vr G x3)]) C (by decide) dX7_passes_1 3 rfl rfl ?_
  refine z_lv (lv' := [(0, vr G k), (1, vi x1), (2, vi x2), (3, vr G x3), (4, vi 0)]) [1, 2, 3, 4, 0] rfl ?_
  exact pX7_passes_L3 C R hR F σ k hk x1 x2 x3 h3 F 0
-- isAhead
def gX7_isAhead_L3 (F : Nat) (σ : St) (k : Int) (x1 : Int) (x2 : Int) (x3 : Int) (x4 : Int) : Nat → Int → Option (Int)
  | 0, _ => none
  | n + 1, x5 => if w32 x5 ≥ w32 (σ x4 8) then some 0 else gd (0 ≤ w32 x5 ∧ w32 x5 < 6) ((gX7_keyOf σ k (σ (x4 + 1) (w32 x5)) x1 x2).bind fun r1 => gd (0 ≤ w32 x5 ∧ w32 x5 < 6) ((gX7_keyOf σ k (σ (x4 + 1) (w32 x5)) x1 x3).bind fun r2 => if w32 r1 = w32 r2 then gX7_isAhead_L3 F σ k x1 x2 x3 x4 n (x5 + 1) else gd (0 ≤ w32 x5 ∧ w32 x5 < 6) (if w32 (σ (x4 + 2) (w32 x5)) = 0 then if w32 r1 ≤ w32 r2 then some 0 else some 1 else if w32 r1 ≥ w32 r2 then some 0 else some 1)))
def gX7_isAhead (F : Nat) (σ : St) (k : Int) (x1 : Int) (x2 : Int) (x3 : Int) (x4 : Int) : Option (Int) := gX7_isAhead_L3 F σ k x1 x2 x3 x4 F 0
def rmX7_isAhead : Room := { frames := 2, cells := 0, slots := 0, locals := 45 }
set_option maxRecDepth 100000 in
set_option maxHeartbeats 4000000 in
theorem pX7_isAhead_L3 {X : MX} {G : GG} (C : CX X G 8 cX7_isAhead RX7) (R : RT X (some .boolean)) (hR : mR X = rmX7_isAhead) (F : Nat) (σ : St) (k : Int) (hk : isK k (0, 7)) (x1 : Int) (x2 : Int) (x3 : Int) (x4 : Int) (h4 : isK x4 (0, 5))  : ∀ (n : Nat) (x5 : Int), ZZ X G 8 (QM X G vzI (wzR σ) (0, 0)) (0, 0) (gX7_isAhead_L3 F σ k x1 x2 x3 x4 n x5) (w0 σ) 3 [(0, vr G k), (1, vi x1), (2, vi x2), (3, vi x3), (4, vr G x4), (5, vi x5)] [] := by
  intro n
  induction n with
  | zero =>
    intro _
    exact z_none
  | succ n ih =>
    intro x5
    show ZZ X G 8 (QM X G vzI (wzR σ) (0, 0)) (0, 0) (if w32 x5 ≥ w32 (σ x4 8) then some 0 else gd (0 ≤ w32 x5 ∧ w32 x5 < 6) ((gX7_keyOf σ k (σ (x4 + 1) (w32 x5)) x1 x2).bind fun r1 => gd (0 ≤ w32 x5 ∧ w32 x5 < 6) ((gX7_keyOf σ k (σ (x4 + 1) (w32 x5)) x1 x3).bind fun r2 => if w32 r1 = w32 r2 then gX7_isAhead_L3 F σ k x1 x2 x3 x4 n (x5 + 1) else gd (0 ≤ w32 x5 ∧ w32 x5 < 6) (if w32 (σ (x4 + 2) (w32 x5)) = 0 then if w32 r1 ≤ w32 r2 then some 0 else some 1 else if w32 r1 ≥ w32 r2 then some 0 else some 1)))) (w0 σ) 3 [(0, vr G k), (1, vi x1), (2, vi x2), (3, vi x3), (4, vr G x4), (5, vi x5)] []
    refine z_iload C 5 rfl dX7_isAhead_3 5 rfl ?_
    refine z_aload C 4 rfl dX7_isAhead_5 7 rfl ?_
    refine y_getI C fX7_135 h4 dX7_isAhead_7 10 rfl ?_
    refine z_icmp_ge C dX7_isAhead_10 97 (by decide) 13 rfl rfl rfl (fun _ => ?_) (fun _ => ?_)
    · refine z_iconst C dX7_isAhead_97 98 rfl ?_
      exact z_zret C R nz0 rfl rfl dX7_isAhead_98
    · refine z_aload_n C 0 rfl 0 rfl dX7_isAhead_13 14 rfl ?_
      refine z_aload C 4 rfl dX7_isAhead_14 16 rfl ?_
      refine y_getR C fX7_138 h4 (lay_5_0 h4) dX7_isAhead_16 19 rfl ?_
      refine z_iload C 5 rfl dX7_isAhead_19 21 rfl ?_
      refine y_iald C ((lay_5_0 h4).2) rfl dX7_isAhead_21 22 rfl rfl (fun _ => ?_)
      refine z_iload_n C 1 rfl 1 rfl dX7_isAhead_22 23 rfl ?_
      refine z_iload_n C 2 rfl 2 rfl dX7_isAhead_23 24 rfl ?_
      refine y_callVI C hR (tX7_keyOf (mL X) G σ k (σ (x4 + 1) (w32 x5)) x1 x2 hk) ⟨mwX7_keyOf, mvX7_keyOf, lkX7_125⟩ hk rfl rfl (Nat.le_of_ble_eq_true rfl) (by unfold rmOK; decide) dX7_isAhead_24 27 rfl (fun r1 _ => ?_)
      refine z_istore (lv' := [(6, vi r1), (0, vr G k), (1, vi x1), (2, vi x2), (3, vi x3), (4, vr G x4), (5, vi x5)]) C (by decide) dX7_isAhead_27 29 rfl rfl ?_
      refine z_aload_n C 0 rfl 1 rfl dX7_isAhead_29 30 rfl ?_
      refine z_aload C 5 rfl dX7_isAhead_30 32 rfl ?_
      refine y_getR C fX7_138 h4 (lay_5_0 h4) dX7_isAhead_32 35 rfl ?_
      refine z_iload C 6 rfl dX7_isAhead_35 37 rfl ?_
      refine y_iald C ((lay_5_0 h4).2) rfl dX7_isAhead_37 38 rfl rfl (fun _ => ?_)
      refine z_iload_n C 1 rfl 2 rfl dX7_isAhead_38 39 rfl ?_
      refine z_iload_n C 3 rfl 4 rfl dX7_isAhead_39 40 rfl ?_
      refine y_callVI C hR (tX7_keyOf (mL X) G σ k (σ (x4 + 1) (w32 x5)) x1 x3 hk) ⟨mwX7_keyOf, mvX7_keyOf, lkX7_125⟩ hk rfl rfl (Nat.le_of_ble_eq_true rfl) (by unfold rmOK; decide) dX7_isAhead_40 43 rfl (fun r2 _ => ?_)
      refine z_istore (lv' := [(7, vi r2), (6, vi r1), (0, vr G k), (1, vi x1), (2, vi x2), (3, vi x3), (4, vr G x4), (5, vi x5)]) C (by decide) dX7_isAhead_43 45 rfl rfl ?_
      refine z_iload C 1 rfl dX7_isAhead_45 47 rfl ?_
      refine z_iload C 0 rfl dX7_isAhead_47 49 rfl ?_
      refine z_icmp_eq C dX7_isAhead_49 91 (by decide) 52 rfl rfl rfl (fun _ => ?_) (fun _ => ?_)
      · refine z_iinc (lv' := [(5, vi (x5 + 1)), (7, vi r2), (6, vi r1), (0, vr G k), (1, vi x1), (2, vi x2), (3, vi x3), (4, vr G x4)]) C (by decide) 7 rfl dX7_isAhead_91 94 rfl rfl ?_
        refine z_goto C dX7_isAhead_94 3 (by decide) ?_
        refine z_lv (lv' := [(0, vr G k), (1, vi x1), (2, vi x2), (3, vi x3), (4, vr G x4), (5, vi (x5 + 1))]) [3, 4, 5, 6, 7, 0] rfl ?_
        exact ih (x5 + 1)
      · refine z_aload C 6 rfl dX7_isAhead_52 54 rfl ?_
        refine y_getR C fX7_141 h4 (lay_5_1 h4) dX7_isAhead_54 57 rfl ?_
        refine z_iload C 7 rfl dX7_isAhead_57 59 rfl ?_
        refine y_zald C ((lay_5_1 h4).2) rfl dX7_isAhead_59 60 rfl rfl (fun _ => ?_)
        refine z_if_eq C dX7_isAhead_60 78 (by decide) 63 rfl rfl (fun _ => ?_) (fun _ => ?_)
        · refine z_iload C 1 rfl dX7_isAhead_78 80 rfl ?_
          refine z_iload C 0 rfl dX7_isAhead_80 82 rfl ?_
          refine z_icmp_le C dX7_isAhead_82 89 (by decide) 85 rfl rfl rfl (fun _ => ?_) (fun _ => ?_)
          · refine z_iconst C dX7_isAhead_89 90 rfl ?_
            exact z_zret C R nz0 rfl rfl dX7_isAhead_90
          · refine z_iconst C dX7_isAhead_85 86 rfl ?_
            refine z_goto C dX7_isAhead_86 90 (by decide) ?_
            exact z_zret C R nz1 rfl rfl dX7_isAhead_90
        · refine z_iload C 1 rfl dX7_isAhead_63 65 rfl ?_
          refine z_iload C 0 rfl dX7_isAhead_65 67 rfl ?_
          refine z_icmp_ge C dX7_isAhead_67 74 (by decide) 70 rfl rfl rfl (fun _ => ?_) (fun _ => ?_)
          · refine z_iconst C dX7_isAhead_74 75 rfl ?_
            refine z_goto C dX7_isAhead_75 90 (by decide) ?_
            exact z_zret C R nz0 rfl rfl dX7_isAhead_90
          · refine z_iconst C dX7_isAhead_70 71 rfl ?_
            refine z_goto C dX7_isAhead_71 90 (by decide) ?_
            exact z_zret C R nz1 rfl rfl dX7_isAhead_90
set_option maxRecDepth 100000 in
set_option maxHeartbeats 4000000 in
theorem tX7_isAhead (l : Launch) (G : GG) (F : Nat) (σ : St) (k : Int) (x1 : Int) (x2 : Int) (x3 : Int) (x4 : Int) (hk : isK k (0, 7)) (h4 : isK x4 (0, 5)) : Ctr l G yX7_isAhead cX7_isAhead 8 (some .boolean) rmX7_isAhead [vr G k, vi x1, vi x2, vi x3, vr G x4] (w0 σ) vzI (wzR σ) (gX7_isAhead F σ k x1 x2 x3 x4) := by
  refine ctr_of (by decide) (Nat.le_of_ble_eq_true rfl) mwX7_isAhead.1 (fun X hl hR C R hnm => ?_)
  subst hl
  refine z_lv (lv' := [(0, vr G k), (1, vi x1), (2, vi x2), (3, vi x3), (4, vr G x4)]) [0, 1, 2, 3, 4] rfl ?_
  show ZZ X G 8 (QM X G vzI (wzR σ) (0, 0)) (0, 0) (gX7_isAhead_L3 F σ k x1 x2 x3 x4 F 0) (w0 σ) 0 [(0, vr G k), (1, vi x1), (2, vi x2), (3, vi x3), (4, vr G x4)] []
  refine z_iconst C dX7_isAhead_0 1 rfl ?_
  refine z_istore (lv' := [(5, vi 0), (0, vr G k), (1, vi x1), (2, vi x2), (3, vi x3), (4, vr G x4)]) C (by decide) dX7_isAhead_1 3 rfl rfl ?_
  refine z_lv (lv' := [(0, vr G k), (1, vi x1), (2, vi x2), (3, vi x3), (4, vr G x4), (5, vi 0)]) [1, 2, 3, 4, 5, 0] rfl ?_
  exact pX7_isAhead_L3 C R hR F σ k hk x1 x2 x3 x4 h4 F 0
-- choose
def gX7_choose_L89 (F : Nat) (σ : St) (k : Int) (x1 : Int) (x2 : Int) (c6 : Int → Int → Option (Int)) (x3 : Int) (x4 : Int) : Option (Int) := c6 x3 (x4 + 1)
def gX7_choose_L86 (F : Nat) (σ : St) (k : Int) (x1 : Int) (x2 : Int) (c6 : Int → Int → Option (Int)) (x4 : Int) : Option (Int) := gX7_choose_L89 F σ k x1 x2 c6 x4 x4
def gX7_choose_L50 (F : Nat) (σ : St) (k : Int) (x1 : Int) (x2 : Int) (c6 : Int → Int → Option (Int)) (x3 : Int) (x4 : Int) (s0 : Int) : Option (Int) := if w32 s0 = 0 then gX7_choose_L89 F σ k x1 x2 c6 x3 x4 else (gX7_passes F σ k x1 x4 x2).bind fun r1 => if w32 r1 = 0 then gX7_choose_L89 F σ k x1 x2 c6 x3 x4 else if w32 x3 = (-4) then gX7_choose_L86 F σ k x1 x2 c6 x4 else (gX7_isAhead F σ k x1 x4 x3 x2).bind fun r2 => if w32 r2 = 0 then gX7_choose_L89 F σ k x1 x2 c6 x3 x4 else gX7_choose_L86 F σ k x1 x2 c6 x4
def gX7_choose_L49 (F : Nat) (σ : St) (k : Int) (x1 : Int) (x2 : Int) (c6 : Int → Int → Option (Int)) (x3 : Int) (x4 : Int) : Option (Int) := gX7_choose_L50 F σ k x1 x2 c6 x3 x4 0
def gX7_choose_L45 (F : Nat) (σ : St) (k : Int) (x1 : Int) (x2 : Int) (c6 : Int → Int → Option (Int)) (x3 : Int) (x4 : Int) : Option (Int) := gX7_choose_L50 F σ k x1 x2 c6 x3 x4 1
def gX7_choose_L6 (F : Nat) (σ : St) (k : Int) (x1 : Int) (x2 : Int) : Nat → Int → Int → Option (Int)
  | 0, _, _ => none
  | n + 1, x3, x4 => if w32 x4 ≥ w32 (σ (bd k) 5) then some x3 else (gX7_canTake σ k x1 x4).bind fun r1 => if w32 r1 ≠ 0 then gX7_choose_L45 F σ k x1 x2 (gX7_choose_L6 F σ k x1 x2 n) x3 x4 else if w32 (σ x2 10) = 0 then gX7_choose_L49 F σ k x1 x2 (gX7_choose_L6 F σ k x1 x2 n) x3 x4 else (gX7_canTakeByDrop F σ k x1 x4).bind fun r2 => if w32 r2 = 0 then gX7_choose_L49 F σ k x1 x2 (gX7_choose_L6 F σ k x1 x2 n) x3 x4 else gX7_choose_L45 F σ k x1 x2 (gX7_choose_L6 F σ k x1 x2 n) x3 x4
def gX7_choose (F : Nat) (σ : St) (k : Int) (x1 : Int) (x2 : Int) : Option (Int) := gX7_choose_L6 F σ k x1 x2 F ((-4)) 0
def rmX7_choose : Room := { frames := 3, cells := 0, slots := 0, locals := 72 }
set_option maxRecDepth 100000 in
set_option maxHeartbeats 4000000 in
theorem pX7_choose_L89 {X : MX} {G : GG} (C : CX X G 6 cX7_choose RX7) (R : RT X (some .int)) (hR : mR X = rmX7_choose) (F : Nat) (σ : St) (k : Int) (hk : isK k (0, 7)) (x1 : Int) (x2 : Int) (h2 : isK x2 (0, 5)) (c6 : Int → Int → Option (Int)) (hc6 : ∀ (x3 : Int) (x4 : Int), ZZ X G 6 (QM X G vzI (wzR σ) (0, 0)) (0, 0) (c6 x3 x4) (w0 σ) 6 [(0, vr G k), (1, vi x1), (2, vr G x2), (3, vi x3), (4, vi x4)] []) : ∀ (x3 : Int) (x4 : Int), ZZ X G 6 (QM X G vzI (wzR σ) (0, 0)) (0, 0) (gX7_choose_L89 F σ k x1 x2 c6 x3 x4) (w0 σ) 89 [(0, vr G k), (1, vi x1), (2, vr G x2), (3, vi x3), (4, vi x4)] [] := by
  intro x3 x4
  show ZZ X G 6 (QM X G vzI (wzR σ) (0, 0)) (0, 0) (c6 x3 (x4 + 1)) (w0 σ) 89 [(0, vr G k), (1, vi x1), (2, vr G x2), (3, vi x3), (4, vi x4)] []
  refine z_iinc (lv' := [(4, vi (x4 + 1)), (0, vr G k), (1, vi x1), (2, vr G x2), (3, vi x3)]) C (by decide) 4 rfl dX7_choose_89 92 rfl rfl ?_
  refine z_goto C dX7_choose_92 6 (by decide) ?_
  refine z_lv (lv' := [(0, vr G k), (1, vi x1), (2, vr G x2), (3, vi x3), (4, vi (x4 + 1))]) [1, 2, 3, 4, 0] rfl ?_
  exact hc6 x3 (x4 + 1)
set_option maxRecDepth 100000 in
set_option maxHeartbeats 4000000 in
theorem pX7_choose_L86 {X : MX} {G : GG} (C : CX X G 6 cX7_choose RX7) (R : RT X (some .int)) (hR : mR X = rmX7_choose) (F : Nat) (σ : St) (k : Int) (hk : isK k (0, 7)) (x1 : Int) (x2 : Int) (h2 : isK x2 (0, 5)) (c6 : Int → Int → Option (Int)) (hc6 : ∀ (x3 : Int) (x4 : Int), ZZ X G 6 (QM X G vzI (wzR σ) (0, 0)) (0, 0) (c6 x3 x4) (w0 σ) 6 [(0, vr G k), (1, vi x1), (2, vr G x2), (3, vi x3), (4, vi x4)] []) : ∀ (x4 : Int), ZZ X G 6 (QM X G vzI (wzR σ) (0, 0)) (0, 0) (gX7_choose_L86 F σ k x1 x2 c6 x4) (w0 σ) 86 [(0, vr G k), (1, vi x1), (2, vr G x2), (4, vi x4)] [] := by
  intro x4
  show ZZ X G 6 (QM X G vzI (wzR σ) (0, 0)) (0, 0) (gX7_choose_L89 F σ k x1 x2 c6 x4 x4) (w0 σ) 86 [(0, vr G k), (1, vi x1), (2, vr G x2), (4, vi x4)] []
  refine z_iload C 3 rfl dX7_choose_86 88 rfl ?_
  refine z_istore_n (lv' := [(3, vi x4), (0, vr G k), (1, vi x1), (2, vr G x2), (4, vi x4)]) C 3 rfl (by decide) dX7_choose_88 89 rfl rfl ?_
  refine z_lv (lv' := [(0, vr G k), (1, vi x1), (2, vr G x2), (3, vi x4), (4, vi x4)]) [1, 2, 3, 0, 4] rfl ?_
  exact pX7_choose_L89 C R hR F σ k hk x1 x2 h2 c6 hc6 x4 x4
set_option maxRecDepth 100000 in
set_option maxHeartbeats 4000000 in
theorem pX7_choose_L50 {X : MX} {G : GG} (C : CX X G 6 cX7_choose RX7) (R : RT X (some .int)) (hR : mR X = rmX7_choose) (F : Nat) (σ : St) (k : Int) (hk : isK k (0, 7)) (x1 : Int) (x2 : Int) (h2 : isK x2 (0, 5)) (c6 : Int → Int → Option (Int)) (hc6 : ∀ (x3 : Int) (x4 : Int), ZZ X G 6 (QM X G vzI (wzR σ) (0, 0)) (0, 0) (c6 x3 x4) (w0 σ) 6 [(0, vr G k), (1, vi x1), (2, vr G x2), (3, vi x3), (4, vi x4)] []) : ∀ (x3 : Int) (x4 : Int) (s0 : Int), ZZ X G 6 (QM X G vzI (wzR σ) (0, 0)) (0, 0) (gX7_choose_L50 F σ k x1 x2 c6 x3 x4 s0) (w0 σ) 50 [(0, vr G k), (1, vi x1), (2, vr G x2), (3, vi x3), (4, vi x4)] [vi s0] := by
  intro x3 x4 s0
  show ZZ X G 6 (QM X G vzI (wzR σ) (0, 0)) (0, 0) (if w32 s0 = 0 then gX7_choose_L89 F σ k x1 x2 c6 x3 x4 else (gX7_passes F σ k x1 x4 x2).bind fun r1 => if w32 r1 = 0 then gX7_choose_L89 F σ k x1 x2 c6 x3 x4 else if w32 x3 = (-4) then gX7_choose_L86 F σ k x1 x2 c6 x4 else (gX7_isAhead F σ k x1 x4 x3 x2).bind fun r2 => if w32 r2 = 0 then gX7_choose_L89 F σ k x1 x2 c6 x3 x4 else gX7_choose_L86 F σ k x1 x2 c6 x4) (w0 σ) 50 [(0, vr G k), (1, vi x1), (2, vr G x2), (3, vi x3), (4, vi x4)] [vi s0]
  refine z_istore (lv' := [(5, vi s0), (0, vr G k), (1, vi x1), (2, vr G x2), (3, vi x3), (4, vi x4)]) C (by decide) dX7_choose_50 52 rfl rfl ?_
  refine z_iload C 0 rfl dX7_choose_52 54 rfl ?_
  refine z_if_eq C dX7_choose_54 89 (by decide) 57 rfl rfl (fun _ => ?_) (fun _ => ?_)
  · refine z_lv (lv' := [(0, vr G k), (1, vi x1), (2, vr G x2), (3, vi x3), (4, vi x4)]) [1, 2, 3, 4, 5] rfl ?_
    exact pX7_choose_L89 C R hR F σ k hk x1 x2 h2 c6 hc6 x3 x4
  · refine z_aload_n C 0 rfl 1 rfl dX7_choose_57 58 rfl ?_
    refine z_iload_n C 1 rfl 2 rfl dX7_choose_58 59 rfl ?_
    refine z_iload C 5 rfl dX7_choose_59 61 rfl ?_
    refine z_aload_n C 2 rfl 3 rfl dX7_choose_61 62 rfl ?_
    refine y_callVI C hR (tX7_passes (mL X) G F σ k x1 x4 x2 hk h2) ⟨mwX7_passes, mvX7_passes, lkX7_108⟩ hk rfl rfl (Nat.le_of_ble_eq_true rfl) (by unfold rmOK; decide) dX7_choose_62 65 rfl (fun r1 _ => ?_)
    refine z_if_eq C dX7_choose_65 89 (by decide) 68 rfl rfl (fun _ => ?_) (fun _ => ?_)
    · refine z_lv (lv' := [(0, vr G k), (1, vi x1), (2, vr G x2), (3, vi x3), (4, vi x4)]) [1, 2, 3, 4, 5] rfl ?_
      exact pX7_choose_L89 C R hR F σ k hk x1 x2 h2 c6 hc6 x3 x4
    · refine z_iload_n C 3 rfl 4 rfl dX7_choose_68 69 rfl ?_
      refine z_bipush C (by decide) dX7_choose_69 71 rfl ?_
      refine z_icmp_eq C dX7_choose_71 86 (by decide) 74 rfl rfl (w32_id (a := (-4)) (by decide)) (fun _ => ?_) (fun _ => ?_)
      · refine z_lv (lv' := [(0, vr G k), (1, vi x1), (2, vr G x2), (4, vi x4)]) [1, 2, 3, 5] rfl ?_
        exact pX7_choose_L86 C R hR F σ k hk x1 x2 h2 c6 hc6 x4
      · refine z_aload_n C 0 rfl 1 rfl dX7_choose_74 75 rfl ?_
        refine z_iload_n C 1 rfl 2 rfl dX7_choose_75 76 rfl ?_
        refine z_iload C 5 rfl dX7_choose_76 78 rfl ?_
        refine z_iload_n C 3 rfl 4 rfl dX7_choose_78 79 rfl ?_
        refine z_aload_n C 2 rfl 3 rfl dX7_choose_79 80 rfl ?_
        refine y_callVI C hR (tX7_isAhead (mL X) G F σ k x1 x4 x3 x2 hk h2) ⟨mwX7_isAhead, mvX7_isAhead, lkX7_112⟩ hk rfl rfl (Nat.le_of_ble_eq_true rfl) (by unfold rmOK; decide) dX7_choose_80 83 rfl (fun r2 _ => ?_)
        refine z_if_eq C dX7_choose_83 89 (by decide) 86 rfl rfl (fun _ => ?_) (fun _ => ?_)
        · refine z_lv (lv' := [(0, vr G k), (1, vi x1), (2, vr G x2), (3, vi x3), (4, vi x4)]) [1, 2, 3, 4, 5] rfl ?_
          exact pX7_choose_L89 C R hR F σ k hk x1 x2 h2 c6 hc6 x3 x4
        · refine z_lv (lv' := [(0, vr G k), (1, vi x1), (2, vr G x2), (4, vi x4)]) [1, 2, 3, 5] rfl ?_
          exact pX7_choose_L86 C R hR F σ k hk x1 x2 h2 c6 hc6 x4
set_option maxRecDepth 100000 in
set_option maxHeartbeats 4000000 in
theorem pX7_choose_L49 {X : MX} {G : GG} (C : CX X G 6 cX7_choose RX7) (R : RT X (some .int)) (hR : mR X = rmX7_choose) (F : Nat) (σ : St) (k : Int) (hk : isK k (0, 7)) (x1 : Int) (x2 : Int) (h2 : isK x2 (0, 5)) (c6 : Int → Int → Option (Int)) (hc6 : ∀ (x3 : Int) (x4 : Int), ZZ X G 6 (QM X G vzI (wzR σ) (0, 0)) (0, 0) (c6 x3 x4) (w0 σ) 6 [(0, vr G k), (1, vi x1), (2, vr G x2), (3, vi x3), (4, vi x4)] []) : ∀ (x3 : Int) (x4 : Int), ZZ X G 6 (QM X G vzI (wzR σ) (0, 0)) (0, 0) (gX7_choose_L49 F σ k x1 x2 c6 x3 x4) (w0 σ) 49 [(0, vr G k), (1, vi x1), (2, vr G x2), (3, vi x3), (4, vi x4)] [] := by
  intro x3 x4
  show ZZ X G 6 (QM X G vzI (wzR σ) (0, 0)) (0, 0) (gX7_choose_L50 F σ k x1 x2 c6 x3 x4 0) (w0 σ) 49 [(0, vr G k), (1, vi x1), (2, vr G x2), (3, vi x3), (4, vi x4)] []
  refine z_iconst C dX7_choose_49 50 rfl ?_
  exact pX7_choose_L50 C R hR F σ k hk x1 x2 h2 c6 hc6 x3 x4 0
set_option maxRecDepth 100000 in
set_option maxHeartbeats 4000000 in
theorem pX7_choose_L45 {X : MX} {G : GG} (C : CX X G 6 cX7_choose RX7) (R : RT X (some .int)) (hR : mR X = rmX7_choose) (F : Nat) (σ : St) (k : Int) (hk : isK k (0, 7)) (x1 : Int) (x2 : Int) (h2 : isK x2 (0, 5)) (c6 : Int → Int → Option (Int)) (hc6 : ∀ (x3 : Int) (x4 : Int), ZZ X G 6 (QM X G vzI (wzR σ) (0, 0)) (0, 0) (c6 x3 x4) (w0 σ) 6 [(0, vr G k), (1, vi x1), (2, vr G x2), (3, vi x3), (4, vi x4)] []) : ∀ (x3 : Int) (x4 : Int), ZZ X G 6 (QM X G vzI (wzR σ) (0, 0)) (0, 0) (gX7_choose_L45 F σ k x1 x2 c6 x3 x4) (w0 σ) 45 [(0, vr G k), (1, vi x1), (2, vr G x2), (3, vi x3), (4, vi x4)] [] := by
  intro x3 x4
  show ZZ X G 6 (QM X G vzI (wzR σ) (0, 0)) (0, 0) (gX7_choose_L50 F σ k x1 x2 c6 x3 x4 1) (w0 σ) 45 [(0, vr G k), (1, vi x1), (2, vr G x2), (3, vi x3), (4, vi x4)] []
  refine z_iconst C dX7_choose_45 46 rfl ?_
  refine z_goto C dX7_choose_46 50 (by decide) ?_
  exact pX7_choose_L50 C R hR F σ k hk x1 x2 h2 c6 hc6 x3 x4 1
set_option maxRecDepth 100000 in
set_option maxHeartbeats 4000000 in
theorem pX7_choose_L6 {X : MX} {G : GG} (C : CX X G 6 cX7_choose RX7) (R : RT X (some .int)) (hR : mR X = rmX7_choose) (F : Nat) (σ : St) (k : Int) (hk : isK k (0, 7)) (x1 : Int) (x2 : Int) (h2 : isK x2 (0, 5))  : ∀ (n : Nat) (x3 : Int) (x4 : Int), ZZ X G 6 (QM X G vzI (wzR σ) (0, 0)) (0, 0) (gX7_choose_L6 F σ k x1 x2 n x3 x4) (w0 σ) 6 [(0, vr G k), (1, vi x1), (2, vr G x2), (3, vi x3), (4, vi x4)] [] := by
  intro n
  induction n with
  | zero =>
    intro _ _
    exact z_none
  | succ n ih =>
    intro x3 x4
    show ZZ X G 6 (QM X G vzI (wzR σ) (0, 0)) (0, 0) (if w32 x4 ≥ w32 (σ (bd k) 5) then some x3 else (gX7_canTake σ k x1 x4).bind fun r1 => if w32 r1 ≠ 0 then gX7_choose_L45 F σ k x1 x2 (gX7_choose_L6 F σ k x1 x2 n) x3 x4 else if w32 (σ x2 10) = 0 then gX7_choose_L49 F σ k x1 x2 (gX7_choose_L6 F σ k x1 x2 n) x3 x4 else (gX7_canTakeByDrop F σ k x1 x4).bind fun r2 => if w32 r2 = 0 then gX7_choose_L49 F σ k x1 x2 (gX7_choose_L6 F σ k x1 x2 n) x3 x4 else gX7_choose_L45 F σ k x1 x2 (gX7_choose_L6 F σ k x1 x2 n) x3 x4) (w0 σ) 6 [(0, vr G k), (1, vi x1), (2, vr G x2), (3, vi x3), (4, vi x4)] []
    refine z_iload C 4 rfl dX7_choose_6 8 rfl ?_
    refine z_aload_n C 0 rfl 0 rfl dX7_choose_8 9 rfl ?_
    refine y_getR C fX7_40 hk (lay_7_0 hk) dX7_choose_9 12 rfl ?_
    refine y_getI C fX7_75 ((lay_7_0 hk).2) dX7_choose_12 15 rfl ?_
    refine z_icmp_ge C dX7_choose_15 95 (by decide) 18 rfl rfl rfl (fun _ => ?_) (fun _ => ?_)
    · refine z_iload_n C 3 rfl 3 rfl dX7_choose_95 96 rfl ?_
      exact z_iret C R rfl rfl dX7_choose_96
    · refine z_aload_n C 0 rfl 0 rfl dX7_choose_18 19 rfl ?_
      refine z_iload_n C 1 rfl 1 rfl dX7_choose_19 20 rfl ?_
      refine z_iload C 4 rfl dX7_choose_20 22 rfl ?_
      refine y_callVI C hR (tX7_canTake (mL X) G σ k x1 x4 hk) ⟨mwX7_canTake, mvX7_canTake, lkX7_95⟩ hk rfl rfl (Nat.le_of_ble_eq_true rfl) (by unfold rmOK; decide) dX7_choose_22 25 rfl (fun r1 _ => ?_)
      refine z_if_ne C dX7_choose_25 45 (by decide) 28 rfl rfl (fun _ => ?_) (fun _ => ?_)
      · exact pX7_choose_L45 C R hR F σ k hk x1 x2 h2 (gX7_choose_L6 F σ k x1 x2 n) ih x3 x4
      · refine z_aload_n C 2 rfl 2 rfl dX7_choose_28 29 rfl ?_
        refine y_getZ C fX7_99 h2 dX7_choose_29 32 rfl ?_
        refine z_if_eq C dX7_choose_32 49 (by decide) 35 rfl rfl (fun _ => ?_) (fun _ => ?_)
        · exact pX7_choose_L49 C R hR F σ k hk x1 x2 h2 (gX7_choose_L6 F σ k x1 x2 n) ih x3 x4
        · refine z_aload_n C 0 rfl 0 rfl dX7_choose_35 36 rfl ?_
          refine z_iload_n C 1 rfl 1 rfl dX7_choose_36 37 rfl ?_
          refine z_iload C 4 rfl dX7_choose_37 39 rfl ?_
          refine y_callVI C hR (tX7_canTakeByDrop (mL X) G F σ k x1 x4 hk) ⟨mwX7_canTakeByDrop, mvX7_canTakeByDrop, lkX7_105⟩ hk rfl rfl (Nat.le_of_ble_eq_true rfl) (by unfold rmOK; decide) dX7_choose_39 42 rfl (fun r2 _ => ?_)
          refine z_if_eq C dX7_choose_42 49 (by decide) 45 rfl rfl (fun _ => ?_) (fun _ => ?_)
          · exact pX7_choose_L49 C R hR F σ k hk x1 x2 h2 (gX7_choose_L6 F σ k x1 x2 n) ih x3 x4
          · exact pX7_choose_L45 C R hR F σ k hk x1 x2 h2 (gX7_choose_L6 F σ k x1 x2 n) ih x3 x4
set_option maxRecDepth 100000 in
set_option maxHeartbeats 4000000 in
theorem tX7_choose (l : Launch) (G : GG) (F : Nat) (σ : St) (k : Int) (x1 : Int) (x2 : Int) (hk : isK k (0, 7)) (h2 : isK x2 (0, 5)) : Ctr l G yX7_choose cX7_choose 6 (some .int) rmX7_choose [vr G k, vi x1, vr G x2] (w0 σ) vzI (wzR σ) (gX7_choose F σ k x1 x2) := by
  refine ctr_of (by decide) (Nat.le_of_ble_eq_true rfl) mwX7_choose.1 (fun X hl hR C R hnm => ?_)
  subst hl
  refine z_lv (lv' := [(0, vr G k), (1, vi x1), (2, vr G x2)]) [0, 1, 2] rfl ?_
  show ZZ X G 6 (QM X G vzI (wzR σ) (0, 0)) (0, 0) (gX7_choose_L6 F σ k x1 x2 F ((-4)) 0) (w0 σ) 0 [(0, vr G k), (1, vi x1), (2, vr G x2)] []
  refine z_bipush C (by decide) dX7_choose_0 2 rfl ?_
  refine z_istore_n (lv' := [(3, vi ((-4))), (0, vr G k), (1, vi x1), (2, vr G x2)]) C 3 rfl (by decide) dX7_choose_2 3 rfl rfl ?_
  refine z_iconst C dX7_choose_3 4 rfl ?_
  refine z_istore (lv' := [(4, vi 0), (3, vi ((-4))), (0, vr G k), (1, vi x1), (2, vr G x2)]) C (by decide) dX7_choose_4 6 rfl rfl ?_
  refine z_lv (lv' := [(0, vr G k), (1, vi x1), (2, vr G x2), (3, vi ((-4))), (4, vi 0)]) [2, 3, 4, 1, 0] rfl ?_
  exact pX7_choose_L6 C R hR F σ k hk x1 x2 h2 F ((-4)) 0
-- drop
def gX7_drop (σ : St) (k : Int) (x1 : Int) (x2 : Int) : Option (St) := if w32 x1 = (-4) then some σ else gd (0 ≤ w32 x1 ∧ w32 x1 < 9) (gd (0 ≤ w32 x2 ∧ w32 x2 < 6) (gd (0 ≤ w32 x2 ∧ w32 x2 < 6) (some (up (up (up σ (k + 3) (w32 x1) ((-4))) (k + 1) (w32 x2) (((up σ (k + 3) (w32 x1) ((-4))) (k + 1) (w32 x2)) - 1)) k 11 (((up (up σ (k + 3) (w32 x1) ((-4))) (k + 1) (w32 x2) (((up σ (k + 3) (w32 x1) ((-4))) (k + 1) (w32 x2)) - 1)) k 11) + 1)))))
def rmX7_drop : Room := { frames := 0, cells := 0, slots := 0, locals := 0 }
set_option maxRecDepth 100000 in
set_option maxHeartbeats 4000000 in
theorem tX7_drop (l : Launch) (G : GG) (σ : St) (k : Int) (x1 : Int) (x2 : Int) (hk : isK k (0, 7)) : Ctr l G yX7_drop cX7_drop 3 none rmX7_drop [vr G k, vi x1, vi x2] (w0 σ) vzV wzV (gX7_drop σ k x1 x2) := by
  refine ctr_of (by decide) (Nat.le_of_ble_eq_true rfl) mwX7_drop.1 (fun X hl hR C R hnm => ?_)
  subst hl
  refine z_lv (lv' := [(0, vr G k), (1, vi x1), (2, vi x2)]) [0, 1, 2] rfl ?_
  show ZZ X G 3 (QM X G vzV wzV (0, 0)) (0, 0) (if w32 x1 = (-4) then some σ else gd (0 ≤ w32 x1 ∧ w32 x1 < 9) (gd (0 ≤ w32 x2 ∧ w32 x2 < 6) (gd (0 ≤ w32 x2 ∧ w32 x2 < 6) (some (up (up (up σ (k + 3) (w32 x1) ((-4))) (k + 1) (w32 x2) (((up σ (k + 3) (w32 x1) ((-4))) (k + 1) (w32 x2)) - 1)) k 11 (((up (up σ (k + 3) (w32 x1) ((-4))) (k + 1) (w32 x2) (((up σ (k + 3) (w32 x1) ((-4))) (k + 1) (w32 x2)) - 1)) k 11) + 1)))))) (w0 σ) 0 [(0, vr G k), (1, vi x1), (2, vi x2)] []
  refine z_iload_n C 1 rfl 1 rfl dX7_drop_0 1 rfl ?_
  refine z_bipush C (by decide) dX7_drop_1 3 rfl ?_
  refine z_icmp_eq C dX7_drop_3 34 (by decide) 6 rfl rfl (w32_id (a := (-4)) (by decide)) (fun _ => ?_) (fun _ => ?_)
  · exact z_vret C R rfl rfl dX7_drop_34
  · refine z_aload_n C 0 rfl 0 rfl dX7_drop_6 7 rfl ?_
    refine y_getR C fX7_18 hk (lay_7_3 hk) dX7_drop_7 10 rfl ?_
    refine z_iload_n C 1 rfl 1 rfl dX7_drop_10 11 rfl ?_
    refine z_bipush C (by decide) dX7_drop_11 13 rfl ?_
    refine y_iast C ((lay_7_3 hk).2) rfl dX7_drop_13 14 rfl rfl (fun _ => ?_)
    refine z_aload_n C 0 rfl 0 rfl dX7_drop_14 15 rfl ?_
    refine y_getR C fX7_9 hk (lay_7_1 hk) dX7_drop_15 18 rfl ?_
    refine z_iload_n C 2 rfl 2 rfl dX7_drop_18 19 rfl ?_
    refine z_dup2 C rfl rfl dX7_drop_19 20 rfl ?_
    refine y_iald C ((lay_7_1 hk).2) rfl dX7_drop_20 21 rfl rfl (fun _ => ?_)
    refine z_iconst C dX7_drop_21 22 rfl ?_
    refine z_isub C dX7_drop_22 23 rfl ?_
    refine y_iast C ((lay_7_1 hk).2) rfl dX7_drop_23 24 rfl rfl (fun _ => ?_)
    refine z_aload_n C 0 rfl 0 rfl dX7_drop_24 25 rfl ?_
    refine z_dup C rfl dX7_drop_25 26 rfl ?_
    refine y_getI C fX7_54 hk dX7_drop_26 29 rfl ?_
    refine z_iconst C dX7_drop_29 30 rfl ?_
    refine z_iadd C dX7_drop_30 31 rfl ?_
    refine y_putI C fX7_54 hk ⟨rfl, rfl⟩ dX7_drop_31 34 rfl ?_
    exact z_vret C R rfl rfl dX7_drop_34
-- note
def gX7_note (σ : St) (k : Int) (x1 : Int) (x2 : Int) (x3 : Int) (x4 : Int) (x5 : Int) : Option (St) := if w32 (σ k 12) ≥ 18 then some σ else gd (0 ≤ w32 (σ k 12) ∧ w32 (σ k 12) < 18) (gd (0 ≤ w32 ((up σ (k + 5) (w32 (σ k 12)) x1) k 12) ∧ w32 ((up σ (k + 5) (w32 (σ k 12)) x1) k 12) < 18) (gd (0 ≤ w32 ((up (up σ (k + 5) (w32 (σ k 12)) x1) (k + 6) (w32 ((up σ (k + 5) (w32 (σ k 12)) x1) k 12)) x2) k 12) ∧ w32 ((up (up σ (k + 5) (w32 (σ k 12)) x1) (k + 6) (w32 ((up σ (k + 5) (w32 (σ k 12)) x1) k 12)) x2) k 12) < 18) (gd (0 ≤ w32 ((up (up (up σ (k + 5) (w32 (σ k 12)) x1) (k + 6) (w32 ((up σ (k + 5) (w32 (σ k 12)) x1) k 12)) x2) (k + 7) (w32 ((up (up σ (k + 5) (w32 (σ k 12)) x1) (k + 6) (w32 ((up σ (k + 5) (w32 (σ k 12)) x1) k 12)) x2) k 12)) x3) k 12) ∧ w32 ((up (up (up σ (k + 5) (w32 (σ k 12)) x1) (k + 6) (w32 ((up σ (k + 5) (w32 (σ k 12)) x1) k 12)) x2) (k + 7) (w32 ((up (up σ (k + 5) (w32 (σ k 12)) x1) (k + 6) (w32 ((up σ (k + 5) (w32 (σ k 12)) x1) k 12)) x2) k 12)) x3) k 12) < 18) (gd (0 ≤ w32 ((up (up (up (up σ (k + 5) (w32 (σ k 12)) x1) (k + 6) (w32 ((up σ (k + 5) (w32 (σ k 12)) x1) k 12)) x2) (k + 7) (w32 ((up (up σ (k + 5) (w32 (σ k 12)) x1) (k + 6) (w32 ((up σ (k + 5) (w32 (σ k 12)) x1) k 12)) x2) k 12)) x3) (k + 8) (w32 ((up (up (up σ (k + 5) (w32 (σ k 12)) x1) (k + 6) (w32 ((up σ (k + 5) (w32 (σ k 12)) x1) k 12)) x2) (k + 7) (w32 ((up (up σ (k + 5) (w32 (σ k 12)) x1) (k + 6) (w32 ((up σ (k + 5) (w32 (σ k 12)) x1) k 12)) x2) k 12)) x3) k 12)) x4) k 12) ∧ w32 ((up (up (up (up σ (k + 5) (w32 (σ k 12)) x1) (k + 6) (w32 ((up σ (k + 5) (w32 (σ k 12)) x1) k 12)) x2) (k + 7) (w32 ((up (up σ (k + 5) (w32 (σ k 12)) x1) (k + 6) (w32 ((up σ (k + 5) (w32 (σ k 12)) x1) k 12)) x2) k 12)) x3) (k + 8) (w32 ((up (up (up σ (k + 5) (w32 (σ k 12)) x1) (k + 6) (w32 ((up σ (k + 5) (w32 (σ k 12)) x1) k 12)) x2) (k + 7) (w32 ((up (up σ (k + 5) (w32 (σ k 12)) x1) (k + 6) (w32 ((up σ (k + 5) (w32 (σ k 12)) x1) k 12)) x2) k 12)) x3) k 12)) x4) k 12) < 18) (some (up (up (up (up (up (up σ (k + 5) (w32 (σ k 12)) x1) (k + 6) (w32 ((up σ (k + 5) (w32 (σ k 12)) x1) k 12)) x2) (k + 7) (w32 ((up (up σ (k + 5) (w32 (σ k 12)) x1) (k + 6) (w32 ((up σ (k + 5) (w32 (σ k 12)) x1) k 12)) x2) k 12)) x3) (k + 8) (w32 ((up (up (up σ (k + 5) (w32 (σ k 12)) x1) (k + 6) (w32 ((up σ (k + 5) (w32 (σ k 12)) x1) k 12)) x2) (k + 7) (w32 ((up (up σ (k + 5) (w32 (σ k 12)) x1) (k + 6) (w32 ((up σ (k + 5) (w32 (σ k 12)) x1) k 12)) x2) k 12)) x3) k 12)) x4) (k + 9) (w32 ((up (up (up (up σ (k + 5) (w32 (σ k 12)) x1) (k + 6) (w32 ((up σ (k + 5) (w32 (σ k 12)) x1) k 12)) x2) (k + 7) (w32 ((up (up σ (k + 5) (w32 (σ k 12)) x1) (k + 6) (w32 ((up σ (k + 5) (w32 (σ k 12)) x1) k 12)) x2) k 12)) x3) (k + 8) (w32 ((up (up (up σ (k + 5) (w32 (σ k 12)) x1) (k + 6) (w32 ((up σ (k + 5) (w32 (σ k 12)) x1) k 12)) x2) (k + 7) (w32 ((up (up σ (k + 5) (w32 (σ k 12)) x1) (k + 6) (w32 ((up σ (k + 5) (w32 (σ k 12)) x1) k 12)) x2) k 12)) x3) k 12)) x4) k 12)) (b1 x5)) k 12 (((up (up (up (up (up σ (k + 5) (w32 (σ k 12)) x1) (k + 6) (w32 ((up σ (k + 5) (w32 (σ k 12)) x1) k 12)) x2) (k + 7) (w32 ((up (up σ (k + 5) (w32 (σ k 12)) x1) (k + 6) (w32 ((up σ (k + 5) (w32 (σ k 12)) x1) k 12)) x2) k 12)) x3) (k + 8) (w32 ((up (up (up σ (k + 5) (w32 (σ k 12)) x1) (k + 6) (w32 ((up σ (k + 5) (w32 (σ k 12)) x1) k 12)) x2) (k + 7) (w32 ((up (up σ (k + 5) (w32 (σ k 12)) x1) (k + 6) (w32 ((up σ (k + 5) (w32 (σ k 12)) x1) k 12)) x2) k 12)) x3) k 12)) x4) (k + 9) (w32 ((up (up (up (up σ (k + 5) (w32 (σ k 12)) x1) (k + 6) (w32 ((up σ (k + 5) (w32 (σ k 12)) x1) k 12)) x2) (k + 7) (w32 ((up (up σ (k + 5) (w32 (σ k 12)) x1) (k + 6) (w32 ((up σ (k + 5) (w32 (σ k 12)) x1) k 12)) x2) k 12)) x3) (k + 8) (w32 ((up (up (up σ (k + 5) (w32 (σ k 12)) x1) (k + 6) (w32 ((up σ (k + 5) (w32 (σ k 12)) x1) k 12)) x2) (k + 7) (w32 ((up (up σ (k + 5) (w32 (σ k 12)) x1) (k + 6) (w32 ((up σ (k + 5) (w32 (σ k 12)) x1) k 12)) x2) k 12)) x3) k 12)) x4) k 12)) (b1 x5)) k 12) + 1)))))))
def rmX7_note : Room := { frames := 0, cells := 0, slots := 0, locals := 0 }
set_option maxRecDepth 100000 in
set_option maxHeartbeats 4000000 in
theorem tX7_note (l : Launch) (G : GG) (σ : St) (k : Int) (x1 : Int) (x2 : Int) (x3 : Int) (x4 : Int) (x5 : Int) (hk : isK k (0, 7)) : Ctr l G yX7_note cX7_note 6 none rmX7_note [vr G k, vi x1, vi x2, vi x3, vi x4, vi x5] (w0 σ) vzV wzV (gX7_note σ k x1 x2 x3 x4 x5) := by
  refine ctr_of (by decide) (Nat.le_of_ble_eq_true rfl) mwX7_note.1 (fun X hl hR C R hnm => ?_)
  subst hl
  refine z_lv (lv' := [(0, vr G k), (1, vi x1), (2, vi x2), (3, vi x3), (4, vi x4), (5, vi x5)]) [0, 1, 2, 3, 4, 5] rfl ?_
  show ZZ X G 6 (QM X G vzV wzV (0, 0)) (0, 0) (if w32 (σ k 12) ≥ 18 then some σ else gd (0 ≤ w32 (σ k 12) ∧ w32 (σ k 12) < 18) (gd (0 ≤ w32 ((up σ (k + 5) (w32 (σ k 12)) x1) k 12) ∧ w32 ((up σ (k + 5) (w32 (σ k 12)) x1) k 12) < 18) (gd (0 ≤ w32 ((up (up σ (k + 5) (w32 (σ k 12)) x1) (k + 6) (w32 ((up σ (k + 5) (w32 (σ k 12)) x1) k 12)) x2) k 12) ∧ w32 ((up (up σ (k + 5) (w32 (σ k 12)) x1) (k + 6) (w32 ((up σ (k + 5) (w32 (σ k 12)) x1) k 12)) x2) k 12) < 18) (gd (0 ≤ w32 ((up (up (up σ (k + 5) (w32 (σ k 12)) x1) (k + 6) (w32 ((up σ (k + 5) (w32 (σ k 12)) x1) k 12)) x2) (k + 7) (w32 ((up (up σ (k + 5) (w32 (σ k 12)) x1) (k + 6) (w32 ((up σ (k + 5) (w32 (σ k 12)) x1) k 12)) x2) k 12)) x3) k 12) ∧ w32 ((up (up (up σ (k + 5) (w32 (σ k 12)) x1) (k + 6) (w32 ((up σ (k + 5) (w32 (σ k 12)) x1) k 12)) x2) (k + 7) (w32 ((up (up σ (k + 5) (w32 (σ k 12)) x1) (k + 6) (w32 ((up σ (k + 5) (w32 (σ k 12)) x1) k 12)) x2) k 12)) x3) k 12) < 18) (gd (0 ≤ w32 ((up (up (up (up σ (k + 5) (w32 (σ k 12)) x1) (k + 6) (w32 ((up σ (k + 5) (w32 (σ k 12)) x1) k 12)) x2) (k + 7) (w32 ((up (up σ (k + 5) (w32 (σ k 12)) x1) (k + 6) (w32 ((up σ (k + 5) (w32 (σ k 12)) x1) k 12)) x2) k 12)) x3) (k + 8) (w32 ((up (up (up σ (k + 5) (w32 (σ k 12)) x1) (k + 6) (w32 ((up σ (k + 5) (w32 (σ k 12)) x1) k 12)) x2) (k + 7) (w32 ((up (up σ (k + 5) (w32 (σ k 12)) x1) (k + 6) (w32 ((up σ (k + 5) (w32 (σ k 12)) x1) k 12)) x2) k 12)) x3) k 12)) x4) k 12) ∧ w32 ((up (up (up (up σ (k + 5) (w32 (σ k 12)) x1) (k + 6) (w32 ((up σ (k + 5) (w32 (σ k 12)) x1) k 12)) x2) (k + 7) (w32 ((up (up σ (k + 5) (w32 (σ k 12)) x1) (k + 6) (w32 ((up σ (k + 5) (w32 (σ k 12)) x1) k 12)) x2) k 12)) x3) (k + 8) (w32 ((up (up (up σ (k + 5) (w32 (σ k 12)) x1) (k + 6) (w32 ((up σ (k + 5) (w32 (σ k 12)) x1) k 12)) x2) (k + 7) (w32 ((up (up σ (k + 5) (w32 (σ k 12)) x1) (k + 6) (w32 ((up σ (k + 5) (w32 (σ k 12)) x1) k 12)) x2) k 12)) x3) k 12)) x4) k 12) < 18) (some (up (up (up (up (up (up σ (k + 5) (w32 (σ k 12)) x1) (k + 6) (w32 ((up σ (k + 5) (w32 (σ k 12)) x1) k 12)) x2) (k + 7) (w32 ((up (up σ (k + 5) (w32 (σ k 12)) x1) (k + 6) (w32 ((up σ (k + 5) (w32 (σ k 12)) x1) k 12)) x2) k 12)) x3) (k + 8) (w32 ((up (up (up σ (k + 5) (w32 (σ k 12)) x1) (k + 6) (w32 ((up σ (k + 5) (w32 (σ k 12)) x1) k 12)) x2) (k + 7) (w32 ((up (up σ (k + 5) (w32 (σ k 12)) x1) (k + 6) (w32 ((up σ (k + 5) (w32 (σ k 12)) x1) k 12)) x2) k 12)) x3) k 12)) x4) (k + 9) (w32 ((up (up (up (up σ (k + 5) (w32 (σ k 12)) x1) (k + 6) (w32 ((up σ (k + 5) (w32 (σ k 12)) x1) k 12)) x2) (k + 7) (w32 ((up (up σ (k + 5) (w32 (σ k 12)) x1) (k + 6) (w32 ((up σ (k + 5) (w32 (σ k 12)) x1) k 12)) x2) k 12)) x3) (k + 8) (w32 ((up (up (up σ (k + 5) (w32 (σ k 12)) x1) (k + 6) (w32 ((up σ (k + 5) (w32 (σ k 12)) x1) k 12)) x2) (k + 7) (w32 ((up (up σ (k + 5) (w32 (σ k 12)) x1) (k + 6) (w32 ((up σ (k + 5) (w32 (σ k 12)) x1) k 12)) x2) k 12)) x3) k 12)) x4) k 12)) (b1 x5)) k 12 (((up (up (up (up (up σ (k + 5) (w32 (σ k 12)) x1) (k + 6) (w32 ((up σ (k + 5) (w32 (σ k 12)) x1) k 12)) x2) (k + 7) (w32 ((up (up σ (k + 5) (w32 (σ k 12)) x1) (k + 6) (w32 ((up σ (k + 5) (w32 (σ k 12)) x1) k 12)) x2) k 12)) x3) (k + 8) (w32 ((up (up (up σ (k + 5) (w32 (σ k 12)) x1) (k + 6) (w32 ((up σ (k + 5) (w32 (σ k 12)) x1) k 12)) x2) (k + 7) (w32 ((up (up σ (k + 5) (w32 (σ k 12)) x1) (k + 6) (w32 ((up σ (k + 5) (w32 (σ k 12)) x1) k 12)) x2) k 12)) x3) k 12)) x4) (k + 9) (w32 ((up (up (up (up σ (k + 5) (w32 (σ k 12)) x1) (k + 6) (w32 ((up σ (k + 5) (w32 (σ k 12)) x1) k 12)) x2) (k + 7) (w32 ((up (up σ (k + 5) (w32 (σ k 12)) x1) (k + 6) (w32 ((up σ (k + 5) (w32 (σ k 12)) x1) k 12)) x2) k 12)) x3) (k + 8) (w32 ((up (up (up σ (k + 5) (w32 (σ k 12)) x1) (k + 6) (w32 ((up σ (k + 5) (w32 (σ k 12)) x1) k 12)) x2) (k + 7) (w32 ((up (up σ (k + 5) (w32 (σ k 12)) x1) (k + 6) (w32 ((up σ (k + 5) (w32 (σ k 12)) x1) k 12)) x2) k 12)) x3) k 12)) x4) k 12)) (b1 x5)) k 12) + 1)))))))) (w0 σ) 0 [(0, vr G k), (1, vi x1), (2, vi x2), (3, vi x3), (4, vi x4), (5, vi x5)] []
  refine z_aload_n C 0 rfl 0 rfl dX7_note_0 1 rfl ?_
  refine y_getI C fX7_57 hk dX7_note_1 4 rfl ?_
  refine z_bipush C (by decide) dX7_note_4 6 rfl ?_
  refine z_icmp_ge C dX7_note_6 71 (by decide) 9 rfl rfl (w32_id (a := 18) (by decide)) (fun _ => ?_) (fun _ => ?_)
  · exact z_vret C R rfl rfl dX7_note_71
  · refine z_aload_n C 0 rfl 0 rfl dX7_note_9 10 rfl ?_
    refine y_getR C fX7_24 hk (lay_7_5 hk) dX7_note_10 13 rfl ?_
    refine z_aload_n C 0 rfl 0 rfl dX7_note_13 14 rfl ?_
    refine y_getI C fX7_57 hk dX7_note_14 17 rfl ?_
    refine z_iload_n C 1 rfl 1 rfl dX7_note_17 18 rfl ?_
    refine y_iast C ((lay_7_5 hk).2) rfl dX7_note_18 19 rfl rfl (fun _ => ?_)
    refine z_aload_n C 0 rfl 0 rfl dX7_note_19 20 rfl ?_
    refine y_getR C fX7_27 hk (lay_7_6 hk) dX7_note_20 23 rfl ?_
    refine z_aload_n C 0 rfl 0 rfl dX7_note_23 24 rfl ?_
    refine y_getI C fX7_57 hk dX7_note_24 27 rfl ?_
    refine z_iload_n C 2 rfl 2 rfl dX7_note_27 28 rfl ?_
    refine y_iast C ((lay_7_6 hk).2) rfl dX7_note_28 29 rfl rfl (fun _ => ?_)
    refine z_aload_n C 0 rfl 0 rfl dX7_note_29 30 rfl ?_
    refine y_getR C fX7_30 hk (lay_7_7 hk) dX7_note_30 33 rfl ?_
    refine z_aload_n C 0 rfl 0 rfl dX7_note_33 34 rfl ?_
    refine y_getI C fX7_57 hk dX7_note_34 37 rfl ?_
    refine z_iload_n C 3 rfl 3 rfl dX7_note_37 38 rfl ?_
    refine y_iast C ((lay_7_7 hk).2) rfl dX7_note_38 39 rfl rfl (fun _ => ?_)
    refine z_aload_n C 0 rfl 0 rfl dX7_note_39 40 rfl ?_
    refine y_getR C fX7_33 hk (lay_7_8 hk) dX7_note_40 43 rfl ?_
    refine z_aload_n C 0 rfl 0 rfl dX7_note_43 44 rfl ?_
    refine y_getI C fX7_57 hk dX7_note_44 47 rfl ?_
    refine z_iload C 4 rfl dX7_note_47 49 rfl ?_
    refine y_iast C ((lay_7_8 hk).2) rfl dX7_note_49 50 rfl rfl (fun _ => ?_)
    refine z_aload_n C 0 rfl 0 rfl dX7_note_50 51 rfl ?_
    refine y_getR C fX7_36 hk (lay_7_9 hk) dX7_note_51 54 rfl ?_
    refine z_aload_n C 0 rfl 0 rfl dX7_note_54 55 rfl ?_
    refine y_getI C fX7_57 hk dX7_note_55 58 rfl ?_
    refine z_iload C 5 rfl dX7_note_58 60 rfl ?_
    refine y_zast C ((lay_7_9 hk).2) rfl dX7_note_60 61 rfl rfl (fun _ => ?_)
    refine z_aload_n C 0 rfl 0 rfl dX7_note_61 62 rfl ?_
    refine z_dup C rfl dX7_note_62 63 rfl ?_
    refine y_getI C fX7_57 hk dX7_note_63 66 rfl ?_
    refine z_iconst C dX7_note_66 67 rfl ?_
    refine z_iadd C dX7_note_67 68 rfl ?_
    refine y_putI C fX7_57 hk ⟨rfl, rfl⟩ dX7_note_68 71 rfl ?_
    exact z_vret C R rfl rfl dX7_note_71
-- enter
def gX7_enter_L90 (F : Nat) (k : Int) (x1 : Int) (x2 : Int) (x3 : Int) (x4 : Int) (σ : St) : Option (Int × St) := gd (0 ≤ w32 x1 ∧ w32 x1 < 9) ((gX7_note (up (up σ k 10 ((σ k 10) + 1)) (k + 4) (w32 x1) ((up σ k 10 ((σ k 10) + 1)) k 10)) k x1 x2 x4 x3 0).bind fun r1 => some (x4, r1))
def gX7_enter_L32 (F : Nat) (k : Int) (x1 : Int) (x2 : Int) (x3 : Int) (σ : St) : Option (Int × St) := (gX0_worthAt σ (bd k) x1 x2).bind fun r1 => gd (0 ≤ w32 x2 ∧ w32 x2 < 6) (gd (0 ≤ w32 x2 ∧ w32 x2 < 6) (gd (0 ≤ w32 x1 ∧ w32 x1 < 9) (gd (0 ≤ w32 x2 ∧ w32 x2 < 6) (gd (0 ≤ w32 x2 ∧ w32 x2 < 6) (gd (0 ≤ w32 x2 ∧ w32 x2 < 6) (gd (0 ≤ w32 x2 ∧ w32 x2 < 6) (gX7_enter_L90 F k x1 x2 x3 (if w32 ((σ ((bd k) + 3) (w32 x2)) - (σ (k + 2) (w32 x2))) < w32 r1 then (σ ((bd k) + 3) (w32 x2)) - (σ (k + 2) (w32 x2)) else r1) (up (up (up σ (k + 3) (w32 x1) x2) (k + 1) (w32 x2) (((up σ (k + 3) (w32 x1) x2) (k + 1) (w32 x2)) + 1)) (k + 2) (w32 x2) (((up (up σ (k + 3) (w32 x1) x2) (k + 1) (w32 x2) (((up σ (k + 3) (w32 x1) x2) (k + 1) (w32 x2)) + 1)) (k + 2) (w32 x2)) + (if w32 ((σ ((bd k) + 3) (w32 x2)) - (σ (k + 2) (w32 x2))) < w32 r1 then (σ ((bd k) + 3) (w32 x2)) - (σ (k + 2) (w32 x2)) else r1))))))))))
def gX7_enter (F : Nat) (σ : St) (k : Int) (x1 : Int) (x2 : Int) : Option (Int × St) := if w32 x2 = (-4) then gX7_enter_L90 F k x1 x2 ((-4)) 0 σ else (gX7_freeAt σ k x2).bind fun r1 => if w32 r1 > 0 then gX7_enter_L32 F k x1 x2 ((-4)) σ else (gX7_weakestAt F σ k x2).bind fun r2 => (gX7_drop σ k r2 x2).bind fun r3 => gX7_enter_L32 F k x1 x2 r2 r3
def rmX7_enter : Room := { frames := 2, cells := 0, slots := 0, locals := 47 }
set_option maxRecDepth 100000 in
set_option maxHeartbeats 4000000 in
theorem pX7_enter_L90 {X : MX} {G : GG} (C : CX X G 5 cX7_enter RX7) (R : RT X (some .int)) (hR : mR X = rmX7_enter) (F : Nat) (k : Int) (hk : isK k (0, 7)) (x1 : Int) (x2 : Int)  : ∀ (x3 : Int) (x4 : Int) (σ : St), ZZ X G 5 (QM X G vzIw wzW (0, 0)) (0, 0) (gX7_enter_L90 F k x1 x2 x3 x4 σ) (w0 σ) 90 [(0, vr G k), (1, vi x1), (2, vi x2), (3, vi x3), (4, vi x4)] [] := by
  intro x3 x4 σ
  show ZZ X G 5 (QM X G vzIw wzW (0, 0)) (0, 0) (gd (0 ≤ w32 x1 ∧ w32 x1 < 9) ((gX7_note (up (up σ k 10 ((σ k 10) + 1)) (k + 4) (w32 x1) ((up σ k 10 ((σ k 10) + 1)) k 10)) k x1 x2 x4 x3 0).bind fun r1 => some (x4, r1))) (w0 σ) 90 [(0, vr G k), (1, vi x1), (2, vi x2), (3, vi x3), (4, vi x4)] []
  refine z_aload_n C 0 rfl 0 rfl dX7_enter_90 91 rfl ?_
  refine z_dup C rfl dX7_enter_91 92 rfl ?_
  refine y_getI C fX7_50 hk dX7_enter_92 95 rfl ?_
  refine z_iconst C dX7_enter_95 96 rfl ?_
  refine z_iadd C dX7_enter_96 97 rfl ?_
  refine y_putI C fX7_50 hk ⟨rfl, rfl⟩ dX7_enter_97 100 rfl ?_
  refine z_aload_n C 0 rfl 0 rfl dX7_enter_100 101 rfl ?_
  refine y_getR C fX7_21 hk (lay_7_4 hk) dX7_enter_101 104 rfl ?_
  refine z_iload_n C 1 rfl 1 rfl dX7_enter_104 105 rfl ?_
  refine z_aload_n C 0 rfl 0 rfl dX7_enter_105 106 rfl ?_
  refine y_getI C fX7_50 hk dX7_enter_106 109 rfl ?_
  refine y_iast C ((lay_7_4 hk).2) rfl dX7_enter_109 110 rfl rfl (fun _ => ?_)
  refine z_aload_n C 0 rfl 0 rfl dX7_enter_110 111 rfl ?_
  refine z_iload_n C 1 rfl 1 rfl dX7_enter_111 112 rfl ?_
  refine z_iload_n C 2 rfl 2 rfl dX7_enter_112 113 rfl ?_
  refine z_iload C 4 rfl dX7_enter_113 115 rfl ?_
  refine z_iload_n C 3 rfl 3 rfl dX7_enter_115 116 rfl ?_
  refine z_iconst C dX7_enter_116 117 rfl ?_
  refine y_callVv C hR (tX7_note (mL X) G (up (up σ k 10 ((σ k 10) + 1)) (k + 4) (w32 x1) ((up σ k 10 ((σ k 10) + 1)) k 10)) k x1 x2 x4 x3 0 hk) ⟨mwX7_note, mvX7_note, lkX7_156⟩ hk rfl rfl (Nat.le_of_ble_eq_true rfl) (by unfold rmOK; decide) dX7_enter_117 120 rfl (fun r1 _ => ?_)
  refine z_iload C 4 rfl dX7_enter_120 122 rfl ?_
  exact z_iret C R rfl rfl dX7_enter_122
set_option maxRecDepth 100000 in
set_option maxHeartbeats 4000000 in
theorem pX7_enter_L32 {X : MX} {G : GG} (C : CX X G 5 cX7_enter RX7) (R : RT X (some .int)) (hR : mR X = rmX7_enter) (F : Nat) (k : Int) (hk : isK k (0, 7)) (x1 : Int) (x2 : Int)  : ∀ (x3 : Int) (σ : St), ZZ X G 5 (QM X G vzIw wzW (0, 0)) (0, 0) (gX7_enter_L32 F k x1 x2 x3 σ) (w0 σ) 32 [(0, vr G k), (1, vi x1), (2, vi x2), (3, vi x3)] [] := by
  intro x3 σ
  show ZZ X G 5 (QM X G vzIw wzW (0, 0)) (0, 0) ((gX0_worthAt σ (bd k) x1 x2).bind fun r1 => gd (0 ≤ w32 x2 ∧ w32 x2 < 6) (gd (0 ≤ w32 x2 ∧ w32 x2 < 6) (gd (0 ≤ w32 x1 ∧ w32 x1 < 9) (gd (0 ≤ w32 x2 ∧ w32 x2 < 6) (gd (0 ≤ w32 x2 ∧ w32 x2 < 6) (gd (0 ≤ w32 x2 ∧ w32 x2 < 6) (gd (0 ≤ w32 x2 ∧ w32 x2 < 6) (gX7_enter_L90 F k x1 x2 x3 (if w32 ((σ ((bd k) + 3) (w32 x2)) - (σ (k + 2) (w32 x2))) < w32 r1 then (σ ((bd k) + 3) (w32 x2)) - (σ (k + 2) (w32 x2)) else r1) (up (up (up σ (k + 3) (w32 x1) x2) (k + 1) (w32 x2) (((up σ (k + 3) (w32 x1) x2) (k + 1) (w32 x2)) + 1)) (k + 2) (w32 x2) (((up (up σ (k + 3) (w32 x1) x2) (k + 1) (w32 x2) (((up σ (k + 3) (w32 x1) x2) (k + 1) (w32 x2)) + 1)) (k + 2) (w32 x2)) + (if w32 ((σ ((bd k) + 3) (w32 x2)) - (σ (k + 2) (w32 x2))) < w32 r1 then (σ ((bd k) + 3) (w32 x2)) - (σ (k + 2) (w32 x2)) else r1))))))))))) (w0 σ) 32 [(0, vr G k), (1, vi x1), (2, vi x2), (3, vi x3)] []
  refine z_aload_n C 0 rfl 0 rfl dX7_enter_32 33 rfl ?_
  refine y_getR C fX7_40 hk (lay_7_0 hk) dX7_enter_33 36 rfl ?_
  refine z_iload_n C 1 rfl 1 rfl dX7_enter_36 37 rfl ?_
  refine z_iload_n C 2 rfl 2 rfl dX7_enter_37 38 rfl ?_
  refine y_callVI C hR (tX0_worthAt (mL X) G σ (bd k) x1 x2 ((lay_7_0 hk).2)) ⟨mwX0_worthAt, mvX0_worthAt, lkX7_78⟩ ((lay_7_0 hk).2) rfl rfl (Nat.le_of_ble_eq_true rfl) (by unfold rmOK; decide) dX7_enter_38 41 rfl (fun r1 _ => ?_)
  refine z_aload_n C 0 rfl 0 rfl dX7_enter_41 42 rfl ?_
  refine y_getR C fX7_40 hk (lay_7_0 hk) dX7_enter_42 45 rfl ?_
  refine y_getR C fX7_86 ((lay_7_0 hk).2) (lay_0_2 ((lay_7_0 hk).2)) dX7_enter_45 48 rfl ?_
  refine z_iload_n C 2 rfl 2 rfl dX7_enter_48 49 rfl ?_
  refine y_iald C ((lay_0_2 ((lay_7_0 hk).2)).2) rfl dX7_enter_49 50 rfl rfl (fun _ => ?_)
  refine z_aload_n C 0 rfl 0 rfl dX7_enter_50 51 rfl ?_
  refine y_getR C fX7_15 hk (lay_7_2 hk) dX7_enter_51 54 rfl ?_
  refine z_iload_n C 2 rfl 2 rfl dX7_enter_54 55 rfl ?_
  refine y_iald C ((lay_7_2 hk).2) rfl dX7_enter_55 56 rfl rfl (fun _ => ?_)
  refine z_isub C dX7_enter_56 57 rfl ?_
  refine y_minI C hR lkX7_151 (Nat.le_of_ble_eq_true rfl) (by decide) dX7_enter_57 60 rfl ?_
  refine z_istore (lv' := [(4, vi (if w32 ((σ ((bd k) + 3) (w32 x2)) - (σ (k + 2) (w32 x2))) < w32 r1 then (σ ((bd k) + 3) (w32 x2)) - (σ (k + 2) (w32 x2)) else r1)), (0, vr G k), (1, vi x1), (2, vi x2), (3, vi x3)]) C (by decide) dX7_enter_60 62 rfl rfl ?_
  refine z_aload_n C 0 rfl 1 rfl dX7_enter_62 63 rfl ?_
  refine y_getR C fX7_18 hk (lay_7_3 hk) dX7_enter_63 66 rfl ?_
  refine z_iload_n C 1 rfl 2 rfl dX7_enter_66 67 rfl ?_
  refine z_iload_n C 2 rfl 3 rfl dX7_enter_67 68 rfl ?_
  refine y_iast C ((lay_7_3 hk).2) rfl dX7_enter_68 69 rfl rfl (fun _ => ?_)
  refine z_aload_n C 0 rfl 1 rfl dX7_enter_69 70 rfl ?_
  refine y_getR C fX7_9 hk (lay_7_1 hk) dX7_enter_70 73 rfl ?_
  refine z_iload_n C 2 rfl 3 rfl dX7_enter_73 74 rfl ?_
  refine z_dup2 C rfl rfl dX7_enter_74 75 rfl ?_
  refine y_iald C ((lay_7_1 hk).2) rfl dX7_enter_75 76 rfl rfl (fun _ => ?_)
  refine z_iconst C dX7_enter_76 77 rfl ?_
  refine z_iadd C dX7_enter_77 78 rfl ?_
  refine y_iast C ((lay_7_1 hk).2) rfl dX7_enter_78 79 rfl rfl (fun _ => ?_)
  refine z_aload_n C 0 rfl 1 rfl dX7_enter_79 80 rfl ?_
  refine y_getR C fX7_15 hk (lay_7_2 hk) dX7_enter_80 83 rfl ?_
  refine z_iload_n C 2 rfl 3 rfl dX7_enter_83 84 rfl ?_
  refine z_dup2 C rfl rfl dX7_enter_84 85 rfl ?_
  refine y_iald C ((lay_7_2 hk).2) rfl dX7_enter_85 86 rfl rfl (fun _ => ?_)
  refine z_iload C 0 rfl dX7_enter_86 88 rfl ?_
  refine z_iadd C dX7_enter_88 89 rfl ?_
  refine y_iast C ((lay_7_2 hk).2) rfl dX7_enter_89 90 rfl rfl (fun _ => ?_)
  refine z_lv (lv' := [(0, vr G k), (1, vi x1), (2, vi x2), (3, vi x3), (4, vi (if w32 ((σ ((bd k) + 3) (w32 x2)) - (σ (k + 2) (w32 x2))) < w32 r1 then (σ ((bd k) + 3) (w32 x2)) - (σ (k + 2) (w32 x2)) else r1))]) [1, 2, 3, 4, 0] rfl ?_
  exact pX7_enter_L90 C R hR F k hk x1 x2 x3 (if w32 ((σ ((bd k) + 3) (w32 x2)) - (σ (k + 2) (w32 x2))) < w32 r1 then (σ ((bd k) + 3) (w32 x2)) - (σ (k + 2) (w32 x2)) else r1) (up (up (up σ (k + 3) (w32 x1) x2) (k + 1) (w32 x2) (((up σ (k + 3) (w32 x1) x2) (k + 1) (w32 x2)) + 1)) (k + 2) (w32 x2) (((up (up σ (k + 3) (w32 x1) x2) (k + 1) (w32 x2) (((up σ (k + 3) (w32 x1) x2) (k + 1) (w32 x2)) + 1)) (k + 2) (w32 x2)) + (if w32 ((σ ((bd k) + 3) (w32 x2)) - (σ (k + 2) (w32 x2))) < w32 r1 then (σ ((bd k) + 3) (w32 x2)) - (σ (k + 2) (w32 x2)) else r1)))
set_option maxRecDepth 100000 in
set_option maxHeartbeats 4000000 in
theorem tX7_enter (l : Launch) (G : GG) (F : Nat) (σ : St) (k : Int) (x1 : Int) (x2 : Int) (hk : isK k (0, 7)) : Ctr l G yX7_enter cX7_enter 5 (some .int) rmX7_enter [vr G k, vi x1, vi x2] (w0 σ) vzIw wzW (gX7_enter F σ k x1 x2) := by
  refine ctr_of (by decide) (Nat.le_of_ble_eq_true rfl) mwX7_enter.1 (fun X hl hR C R hnm => ?_)
  subst hl
  refine z_lv (lv' := [(0, vr G k), (1, vi x1), (2, vi x2)]) [0, 1, 2] rfl ?_
  show ZZ X G 5 (QM X G vzIw wzW (0, 0)) (0, 0) (if w32 x2 = (-4) then gX7_enter_L90 F k x1 x2 ((-4)) 0 σ else (gX7_freeAt σ k x2).bind fun r1 => if w32 r1 > 0 then gX7_enter_L32 F k x1 x2 ((-4)) σ else (gX7_weakestAt F σ k x2).bind fun r2 => (gX7_drop σ k r2 x2).bind fun r3 => gX7_enter_L32 F k x1 x2 r2 r3) (w0 σ) 0 [(0, vr G k), (1, vi x1), (2, vi x2)] []
  refine z_bipush C (by decide) dX7_enter_0 2 rfl ?_
  refine z_istore_n (lv' := [(3, vi ((-4))), (0, vr G k), (1, vi x1), (2, vi x2)]) C 3 rfl (by decide) dX7_enter_2 3 rfl rfl ?_
  refine z_iconst C dX7_enter_3 4 rfl ?_
  refine z_istore (lv' := [(4, vi 0), (3, vi ((-4))), (0, vr G k), (1, vi x1), (2, vi x2)]) C (by decide) dX7_enter_4 6 rfl rfl ?_
  refine z_iload_n C 2 rfl 4 rfl dX7_enter_6 7 rfl ?_
  refine z_bipush C (by decide) dX7_enter_7 9 rfl ?_
  refine z_icmp_eq C dX7_enter_9 90 (by decide) 12 rfl rfl (w32_id (a := (-4)) (by decide)) (fun _ => ?_) (fun _ => ?_)
  · refine z_lv (lv' := [(0, vr G k), (1, vi x1), (2, vi x2), (3, vi ((-4))), (4, vi 0)]) [2, 3, 4, 1, 0] rfl ?_
    exact pX7_enter_L90 C R hR F k hk x1 x2 ((-4)) 0 σ
  · refine z_aload_n C 0 rfl 2 rfl dX7_enter_12 13 rfl ?_
    refine z_iload_n C 2 rfl 4 rfl dX7_enter_13 14 rfl ?_
    refine y_callVI C hR (tX7_freeAt (mL X) G σ k x2 hk) ⟨mwX7_freeAt, mvX7_freeAt, lkX7_82⟩ hk rfl rfl (Nat.le_of_ble_eq_true rfl) (by unfold rmOK; decide) dX7_enter_14 17 rfl (fun r1 _ => ?_)
    refine z_if_gt C dX7_enter_17 32 (by decide) 20 rfl rfl (fun _ => ?_) (fun _ => ?_)
    · refine z_lv (lv' := [(0, vr G k), (1, vi x1), (2, vi x2), (3, vi ((-4)))]) [2, 3, 4, 1] rfl ?_
      exact pX7_enter_L32 C R hR F k hk x1 x2 ((-4)) σ
    · refine z_aload_n C 0 rfl 2 rfl dX7_enter_20 21 rfl ?_
      refine z_iload_n C 2 rfl 4 rfl dX7_enter_21 22 rfl ?_
      refine y_callVI C hR (tX7_weakestAt (mL X) G F σ k x2 hk) ⟨mwX7_weakestAt, mvX7_weakestAt, lkX7_116⟩ hk rfl rfl (Nat.le_of_ble_eq_true rfl) (by unfold rmOK; decide) dX7_enter_22 25 rfl (fun r2 _ => ?_)
      refine z_istore_n (lv' := [(3, vi r2), (4, vi 0), (0, vr G k), (1, vi x1), (2, vi x2)]) C 3 rfl (by decide) dX7_enter_25 26 rfl rfl ?_
      refine z_aload_n C 0 rfl 2 rfl dX7_enter_26 27 rfl ?_
      refine z_iload_n C 3 rfl 0 rfl dX7_enter_27 28 rfl ?_
      refine z_iload_n C 2 rfl 4 rfl dX7_enter_28 29 rfl ?_
      refine y_callVv C hR (tX7_drop (mL X) G σ k r2 x2 hk) ⟨mwX7_drop, mvX7_drop, lkX7_147⟩ hk rfl rfl (Nat.le_of_ble_eq_true rfl) (by unfold rmOK; decide) dX7_enter_29 32 rfl (fun r3 _ => ?_)
      refine z_lv (lv' := [(0, vr G k), (1, vi x1), (2, vi x2), (3, vi r2)]) [2, 3, 4, 0] rfl ?_
      exact pX7_enter_L32 C R hR F k hk x1 x2 r2 r3
-- comeBy
def gX7_comeBy (F : Nat) (σ : St) (k : Int) (x1 : Int) (x2 : Int) : Option (Int × St) := (gX7_choose F σ k x1 x2).bind fun r1 => (gX7_enter F σ k x1 r1).bind fun r2 => some (r1, r2.2)
def rmX7_comeBy : Room := { frames := 4, cells := 0, slots := 0, locals := 97 }
set_option maxRecDepth 100000 in
set_option maxHeartbeats 4000000 in
theorem tX7_comeBy (l : Launch) (G : GG) (F : Nat) (σ : St) (k : Int) (x1 : Int) (x2 : Int) (hk : isK k (0, 7)) (h2 : isK x2 (0, 5)) : Ctr l G yX7_comeBy cX7_comeBy 4 (some .int) rmX7_comeBy [vr G k, vi x1, vr G x2] (w0 σ) vzIw wzW (gX7_comeBy F σ k x1 x2) := by
  refine ctr_of (by decide) (Nat.le_of_ble_eq_true rfl) mwX7_comeBy.1 (fun X hl hR C R hnm => ?_)
  subst hl
  refine z_lv (lv' := [(0, vr G k), (1, vi x1), (2, vr G x2)]) [0, 1, 2] rfl ?_
  show ZZ X G 4 (QM X G vzIw wzW (0, 0)) (0, 0) ((gX7_choose F σ k x1 x2).bind fun r1 => (gX7_enter F σ k x1 r1).bind fun r2 => some (r1, r2.2)) (w0 σ) 0 [(0, vr G k), (1, vi x1), (2, vr G x2)] []
  refine z_aload_n C 0 rfl 0 rfl dX7_comeBy_0 1 rfl ?_
  refine z_iload_n C 1 rfl 1 rfl dX7_comeBy_1 2 rfl ?_
  refine z_aload_n C 2 rfl 2 rfl dX7_comeBy_2 3 rfl ?_
  refine y_callVI C hR (tX7_choose (mL X) G F σ k x1 x2 hk h2) ⟨mwX7_choose, mvX7_choose, lkX7_89⟩ hk rfl rfl (Nat.le_of_ble_eq_true rfl) (by unfold rmOK; decide) dX7_comeBy_3 6 rfl (fun r1 _ => ?_)
  refine z_istore_n (lv' := [(3, vi r1), (0, vr G k), (1, vi x1), (2, vr G x2)]) C 3 rfl (by decide) dX7_comeBy_6 7 rfl rfl ?_
  refine z_aload_n C 0 rfl 1 rfl dX7_comeBy_7 8 rfl ?_
  refine z_iload_n C 1 rfl 2 rfl dX7_comeBy_8 9 rfl ?_
  refine z_iload_n C 3 rfl 0 rfl dX7_comeBy_9 10 rfl ?_
  refine y_callVIw C hR (tX7_enter (mL X) G F σ k x1 r1 hk) ⟨mwX7_enter, mvX7_enter, lkX7_92⟩ hk rfl rfl (Nat.le_of_ble_eq_true rfl) (by unfold rmOK; decide) dX7_comeBy_10 13 rfl (fun r2 _ => ?_)
  refine z_pop C rfl dX7_comeBy_13 14 rfl ?_
  refine z_iload_n C 3 rfl 0 rfl dX7_comeBy_14 15 rfl ?_
  exact z_iret C R rfl rfl dX7_comeBy_15
-- runByNumbers
def gX7_runByNumbers_L6 (F : Nat) (k : Int) (x1 : Int) : Nat → Int → St → Option (St)
  | 0, _, _ => none
  | n + 1, x2, σ => if w32 x2 ≥ w32 (σ (bd k) 6) then some σ else (gX7_comeBy F σ k x2 x1).bind fun r1 => gX7_runByNumbers_L6 F k x1 n (x2 + 1) r1.2
def gX7_runByNumbers (F : Nat) (σ : St) (k : Int) (x1 : Int) : Option (St) := (gX7_clear σ k).bind fun r1 => gX7_runByNumbers_L6 F k x1 F 0 r1
def rmX7_runByNumbers : Room := { frames := 5, cells := 0, slots := 0, locals := 120 }
set_option maxRecDepth 100000 in
set_option maxHeartbeats 4000000 in
theorem pX7_runByNumbers_L6 {X : MX} {G : GG} (C : CX X G 3 cX7_runByNumbers RX7) (R : RT X none) (hR : mR X = rmX7_runByNumbers) (F : Nat) (k : Int) (hk : isK k (0, 7)) (x1 : Int) (h1 : isK x1 (0, 5))  : ∀ (n : Nat) (x2 : Int) (σ : St), ZZ X G 3 (QM X G vzV wzV (0, 0)) (0, 0) (gX7_runByNumbers_L6 F k x1 n x2 σ) (w0 σ) 6 [(0, vr G k), (1, vr G x1), (2, vi x2)] [] := by
  intro n
  induction n with
  | zero =>
    intro _ _
    exact z_none
  | succ n ih =>
    intro x2 σ
    show ZZ X G 3 (QM X G vzV wzV (0, 0)) (0, 0) (if w32 x2 ≥ w32 (σ (bd k) 6) then some σ else (gX7_comeBy F σ k x2 x1).bind fun r1 => gX7_runByNumbers_L6 F k x1 n (x2 + 1) r1.2) (w0 σ) 6 [(0, vr G k), (1, vr G x1), (2, vi x2)] []
    refine z_iload_n C 2 rfl 2 rfl dX7_runByNumbers_6 7 rfl ?_
    refine z_aload_n C 0 rfl 0 rfl dX7_runByNumbers_7 8 rfl ?_
    refine y_getR C fX7_40 hk (lay_7_0 hk) dX7_runByNumbers_8 11 rfl ?_
    refine y_getI C fX7_63 ((lay_7_0 hk).2) dX7_runByNumbers_11 14 rfl ?_
    refine z_icmp_ge C dX7_runByNumbers_14 30 (by decide) 17 rfl rfl rfl (fun _ => ?_) (fun _ => ?_)
    · exact z_vret C R rfl rfl dX7_runByNumbers_30
    · refine z_aload_n C 0 rfl 0 rfl dX7_runByNumbers_17 18 rfl ?_
      refine z_iload_n C 2 rfl 2 rfl dX7_runByNumbers_18 19 rfl ?_
      refine z_aload_n C 1 rfl 1 rfl dX7_runByNumbers_19 20 rfl ?_
      refine y_callVIw C hR (tX7_comeBy (mL X) G F σ k x2 x1 hk h1) ⟨mwX7_comeBy, mvX7_comeBy, lkX7_68⟩ hk rfl rfl (Nat.le_of_ble_eq_true rfl) (by unfold rmOK; decide) dX7_runByNumbers_20 23 rfl (fun r1 _ => ?_)
      refine z_pop C rfl dX7_runByNumbers_23 24 rfl ?_
      refine z_iinc (lv' := [(2, vi (x2 + 1)), (0, vr G k), (1, vr G x1)]) C (by decide) 2 rfl dX7_runByNumbers_24 27 rfl rfl ?_
      refine z_goto C dX7_runByNumbers_27 6 (by decide) ?_
      refine z_lv (lv' := [(0, vr G k), (1, vr G x1), (2, vi (x2 + 1))]) [1, 2, 0] rfl ?_
      exact ih (x2 + 1) r1.2
set_option maxRecDepth 100000 in
set_option maxHeartbeats 4000000 in
theorem tX7_runByNumbers (l : Launch) (G : GG) (F : Nat) (σ : St) (k : Int) (x1 : Int) (hk : isK k (0, 7)) (h1 : isK x1 (0, 5)) : Ctr l G yX7_runByNumbers cX7_runByNumbers 3 none rmX7_runByNumbers [vr G k, vr G x1] (w0 σ) vzV wzV (gX7_runByNumbers F σ k x1) := by
  refine ctr_of (by decide) (Nat.le_of_ble_eq_true rfl) mwX7_runByNumbers.1 (fun X hl hR C R hnm => ?_)
  subst hl
  refine z_lv (lv' := [(0, vr G k), (1, vr G x1)]) [0, 1] rfl ?_
  show ZZ X G 3 (QM X G vzV wzV (0, 0)) (0, 0) ((gX7_clear σ k).bind fun r1 => gX7_runByNumbers_L6 F k x1 F 0 r1) (w0 σ) 0 [(0, vr G k), (1, vr G x1)] []
  refine z_aload_n C 0 rfl 0 rfl dX7_runByNumbers_0 1 rfl ?_
  refine y_callVv C hR (tX7_clear (mL X) G σ k hk) ⟨mwX7_clear, mvX7_clear, lkX7_60⟩ hk rfl rfl (Nat.le_of_ble_eq_true rfl) (by unfold rmOK; decide) dX7_runByNumbers_1 4 rfl (fun r1 _ => ?_)
  refine z_iconst C dX7_runByNumbers_4 5 rfl ?_
  refine z_istore_n (lv' := [(2, vi 0), (0, vr G k), (1, vr G x1)]) C 2 rfl (by decide) dX7_runByNumbers_5 6 rfl rfl ?_
  refine z_lv (lv' := [(0, vr G k), (1, vr G x1), (2, vi 0)]) [1, 2, 0] rfl ?_
  exact pX7_runByNumbers_L6 C R hR F k hk x1 h1 F 0 r1
-- value
def gX7_value_L4 (F : Nat) (σ : St) (k : Int) : Nat → Int → Int → Option (Int)
  | 0, _, _ => none
  | n + 1, x1, x2 => if w32 x2 ≥ w32 (σ (bd k) 5) then some x1 else gd (0 ≤ w32 x2 ∧ w32 x2 < 6) (gX7_value_L4 F σ k n (x1 + (σ (k + 2) (w32 x2))) (x2 + 1))
def gX7_value (F : Nat) (σ : St) (k : Int) : Option (Int) := gX7_value_L4 F σ k F 0 0
def rmX7_value : Room := { frames := 0, cells := 0, slots := 0, locals := 0 }
set_option maxRecDepth 100000 in
set_option maxHeartbeats 4000000 in
theorem pX7_value_L4 {X : MX} {G : GG} (C : CX X G 3 cX7_value RX7) (R : RT X (some .int)) (hR : mR X = rmX7_value) (F : Nat) (σ : St) (k : Int) (hk : isK k (0, 7))  : ∀ (n : Nat) (x1 : Int) (x2 : Int), ZZ X G 3 (QM X G vzI (wzR σ) (0, 0)) (0, 0) (gX7_value_L4 F σ k n x1 x2) (w0 σ) 4 [(0, vr G k), (1, vi x1), (2, vi x2)] [] := by
  intro n
  induction n with
  | zero =>
    intro _ _
    exact z_none
  | succ n ih =>
    intro x1 x2
    show ZZ X G 3 (QM X G vzI (wzR σ) (0, 0)) (0, 0) (if w32 x2 ≥ w32 (σ (bd k) 5) then some x1 else gd (0 ≤ w32 x2 ∧ w32 x2 < 6) (gX7_value_L4 F σ k n (x1 + (σ (k + 2) (w32 x2))) (x2 + 1))) (w0 σ) 4 [(0, vr G k), (1, vi x1), (2, vi x2)] []
    refine z_iload_n C 2 rfl 2 rfl dX7_value_4 5 rfl ?_
    refine z_aload_n C 0 rfl 0 rfl dX7_value_5 6 rfl ?_
    refine y_getR C fX7_40 hk (lay_7_0 hk) dX7_value_6 9 rfl ?_
    refine y_getI C fX7_75 ((lay_7_0 hk).2) dX7_value_9 12 rfl ?_
    refine z_icmp_ge C dX7_value_12 30 (by decide) 15 rfl rfl rfl (fun _ => ?_) (fun _ => ?_)
    · refine z_iload_n C 1 rfl 1 rfl dX7_value_30 31 rfl ?_
      exact z_iret C R rfl rfl dX7_value_31
    · refine z_iload_n C 1 rfl 1 rfl dX7_value_15 16 rfl ?_
      refine z_aload_n C 0 rfl 0 rfl dX7_value_16 17 rfl ?_
      refine y_getR C fX7_15 hk (lay_7_2 hk) dX7_value_17 20 rfl ?_
      refine z_iload_n C 2 rfl 2 rfl dX7_value_20 21 rfl ?_
      refine y_iald C ((lay_7_2 hk).2) rfl dX7_value_21 22 rfl rfl (fun _ => ?_)
      refine z_iadd C dX7_value_22 23 rfl ?_
      refine z_istore_n (lv' := [(1, vi (x1 + (σ (k + 2) (w32 x2)))), (0, vr G k), (2, vi x2)]) C 1 rfl (by decide) dX7_value_23 24 rfl rfl ?_
      refine z_iinc (lv' := [(2, vi (x2 + 1)), (1, vi (x1 + (σ (k + 2) (w32 x2)))), (0, vr G k)]) C (by decide) 2 rfl dX7_value_24 27 rfl rfl ?_
      refine z_goto C dX7_value_27 4 (by decide) ?_
      refine z_lv (lv' := [(0, vr G k), (1, vi (x1 + (σ (k + 2) (w32 x2)))), (2, vi (x2 + 1))]) [2, 1, 0] rfl ?_
      exact ih (x1 + (σ (k + 2) (w32 x2))) (x2 + 1)
set_option maxRecDepth 100000 in
set_option maxHeartbeats 4000000 in
theorem tX7_value (l : Launch) (G : GG) (F : Nat) (σ : St) (k : Int) (hk : isK k (0, 7)) : Ctr l G yX7_value cX7_value 3 (some .int) rmX7_value [vr G k] (w0 σ) vzI (wzR σ) (gX7_value F σ k) := by
  refine ctr_of (by decide) (Nat.le_of_ble_eq_true rfl) mwX7_value.1 (fun X hl hR C R hnm => ?_)
  subst hl
  refine z_lv (lv' := [(0, vr G k)]) [0] rfl ?_
  show ZZ X G 3 (QM X G vzI (wzR σ) (0, 0)) (0, 0) (gX7_value_L4 F σ k F 0 0) (w0 σ) 0 [(0, vr G k)] []
  refine z_iconst C dX7_value_0 1 rfl ?_
  refine z_istore_n (lv' := [(1, vi 0), (0, vr G k)]) C 1 rfl (by decide) dX7_value_1 2 rfl rfl ?_
  refine z_iconst C dX7_value_2 3 rfl ?_
  refine z_istore_n (lv' := [(2, vi 0), (1, vi 0), (0, vr G k)]) C 2 rfl (by decide) dX7_value_3 4 rfl rfl ?_
  refine z_lv (lv' := [(0, vr G k), (1, vi 0), (2, vi 0)]) [2, 1, 0] rfl ?_
  exact pX7_value_L4 C R hR F σ k hk F 0 0
-- kept
def gX7_kept_L43 (F : Nat) (σ : St) (k : Int) (c4 : Int → Int → Option (Int)) (x1 : Int) (x2 : Int) : Option (Int) := c4 x1 (x2 + 1)
def gX7_kept_L4 (F : Nat) (σ : St) (k : Int) : Nat → Int → Int → Option (Int)
  | 0, _, _ => none
  | n + 1, x1, x2 => if w32 x2 ≥ w32 (σ (bd k) 6) then some x1 else gd (0 ≤ w32 x2 ∧ w32 x2 < 9) (if w32 (σ (k + 3) (w32 x2)) = (-4) then gX7_kept_L43 F σ k (gX7_kept_L4 F σ k n) x1 x2 else gd (0 ≤ w32 x2 ∧ w32 x2 < 9) ((gX0_worthAt σ (bd k) x2 (σ (k + 3) (w32 x2))).bind fun r1 => gX7_kept_L43 F σ k (gX7_kept_L4 F σ k n) (x1 + r1) x2))
def gX7_kept (F : Nat) (σ : St) (k : Int) : Option (Int) := gX7_kept_L4 F σ k F 0 0
def rmX7_kept : Room := { frames := 1, cells := 0, slots := 0, locals := 22 }
set_option maxRecDepth 100000 in
set_option maxHeartbeats 4000000 in
theorem pX7_kept_L43 {X : MX} {G : GG} (C : CX X G 3 cX7_kept RX7) (R : RT X (some .int)) (hR : mR X = rmX7_kept) (F : Nat) (σ : St) (k : Int) (hk : isK k (0, 7)) (c4 : Int → Int → Option (Int)) (hc4 : ∀ (x1 : Int) (x2 : Int), ZZ X G 3 (QM X G vzI (wzR σ) (0, 0)) (0, 0) (c4 x1 x2) (w0 σ) 4 [(0, vr G k), (1, vi x1), (2, vi x2)] []) : ∀ (x1 : Int) (x2 : Int), ZZ X G 3 (QM X G vzI (wzR σ) (0, 0)) (0, 0) (gX7_kept_L43 F σ k c4 x1 x2) (w0 σ) 43 [(0, vr G k), (1, vi x1), (2, vi x2)] [] := by
  intro x1 x2
  show ZZ X G 3 (QM X G vzI (wzR σ) (0, 0)) (0, 0) (c4 x1 (x2 + 1)) (w0 σ) 43 [(0, vr G k), (1, vi x1), (2, vi x2)] []
  refine z_iinc (lv' := [(2, vi (x2 + 1)), (0, vr G k), (1, vi x1)]) C (by decide) 2 rfl dX7_kept_43 46 rfl rfl ?_
  refine z_goto C dX7_kept_46 4 (by decide) ?_
  refine z_lv (lv' := [(0, vr G k), (1, vi x1), (2, vi (x2 + 1))]) [1, 2, 0] rfl ?_
  exact hc4 x1 (x2 + 1)
set_option maxRecDepth 100000 in
set_option maxHeartbeats 4000000 in
theorem pX7_kept_L4 {X : MX} {G : GG} (C : CX X G 3 cX7_kept RX7) (R : RT X (some .int)) (hR : mR X = rmX7_kept) (F : Nat) (σ : St) (k : Int) (hk : isK k (0, 7))  : ∀ (n : Nat) (x1 : Int) (x2 : Int), ZZ X G 3 (QM X G vzI (wzR σ) (0, 0)) (0, 0) (gX7_kept_L4 F σ k n x1 x2) (w0 σ) 4 [(0, vr G k), (1, vi x1), (2, vi x2)] [] := by
  intro n
  induction n with
  | zero =>
    intro _ _
    exact z_none
  | succ n ih =>
    intro x1 x2
    show ZZ X G 3 (QM X G vzI (wzR σ) (0, 0)) (0, 0) (if w32 x2 ≥ w32 (σ (bd k) 6) then some x1 else gd (0 ≤ w32 x2 ∧ w32 x2 < 9) (if w32 (σ (k + 3) (w32 x2)) = (-4) then gX7_kept_L43 F σ k (gX7_kept_L4 F σ k n) x1 x2 else gd (0 ≤ w32 x2 ∧ w32 x2 < 9) ((gX0_worthAt σ (bd k) x2 (σ (k + 3) (w32 x2))).bind fun r1 => gX7_kept_L43 F σ k (gX7_kept_L4 F σ k n) (x1 + r1) x2))) (w0 σ) 4 [(0, vr G k), (1, vi x1), (2, vi x2)] []
    refine z_iload_n C 2 rfl 2 rfl dX7_kept_4 5 rfl ?_
    refine z_aload_n C 0 rfl 0 rfl dX7_kept_5 6 rfl ?_
    refine y_getR C fX7_40 hk (lay_7_0 hk) dX7_kept_6 9 rfl ?_
    refine y_getI C fX7_63 ((lay_7_0 hk).2) dX7_kept_9 12 rfl ?_
    refine z_icmp_ge C dX7_kept_12 49 (by decide) 15 rfl rfl rfl (fun _ => ?_) (fun _ => ?_)
    · refine z_iload_n C 1 rfl 1 rfl dX7_kept_49 50 rfl ?_
      exact z_iret C R rfl rfl dX7_kept_50
    · refine z_aload_n C 0 rfl 0 rfl dX7_kept_15 16 rfl ?_
      refine y_getR C fX7_18 hk (lay_7_3 hk) dX7_kept_16 19 rfl ?_
      refine z_iload_n C 2 rfl 2 rfl dX7_kept_19 20 rfl ?_
      refine y_iald C ((lay_7_3 hk).2) rfl dX7_kept_20 21 rfl rfl (fun _ => ?_)
      refine z_bipush C (by decide) dX7_kept_21 23 rfl ?_
      refine z_icmp_eq C dX7_kept_23 43 (by decide) 26 rfl rfl (w32_id (a := (-4)) (by decide)) (fun _ => ?_) (fun _ => ?_)
      · exact pX7_kept_L43 C R hR F σ k hk (gX7_kept_L4 F σ k n) ih x1 x2
      · refine z_iload_n C 1 rfl 1 rfl dX7_kept_26 27 rfl ?_
        refine z_aload_n C 0 rfl 0 rfl dX7_kept_27 28 rfl ?_
        refine y_getR C fX7_40 hk (lay_7_0 hk) dX7_kept_28 31 rfl ?_
        refine z_iload_n C 2 rfl 2 rfl dX7_kept_31 32 rfl ?_
        refine z_aload_n C 0 rfl 0 rfl dX7_kept_32 33 rfl ?_
        refine y_getR C fX7_18 hk (lay_7_3 hk) dX7_kept_33 36 rfl ?_
        refine z_iload_n C 2 rfl 2 rfl dX7_kept_36 37 rfl ?_
        refine y_iald C ((lay_7_3 hk).2) rfl dX7_kept_37 38 rfl rfl (fun _ => ?_)
        refine y_callVI C hR (tX0_worthAt (mL X) G σ (bd k) x2 (σ (k + 3) (w32 x2)) ((lay_7_0 hk).2)) ⟨mwX0_worthAt, mvX0_worthAt, lkX7_78⟩ ((lay_7_0 hk).2) rfl rfl (Nat.le_of_ble_eq_true rfl) (by unfold rmOK; decide) dX7_kept_38 41 rfl (fun r1 _ => ?_)
        refine z_iadd C dX7_kept_41 42 rfl ?_
        refine z_istore_n (lv' := [(1, vi (x1 + r1)), (0, vr G k), (2, vi x2)]) C 1 rfl (by decide) dX7_kept_42 43 rfl rfl ?_
        refine z_lv (lv' := [(0, vr G k), (1, vi (x1 + r1)), (2, vi x2)]) [1, 0, 2] rfl ?_
        exact pX7_kept_L43 C R hR F σ k hk (gX7_kept_L4 F σ k n) ih (x1 + r1) x2
set_option maxRecDepth 100000 in
set_option maxHeartbeats 4000000 in
theorem tX7_kept (l : Launch) (G : GG) (F : Nat) (σ : St) (k : Int) (hk : isK k (0, 7)) : Ctr l G yX7_kept cX7_kept 3 (some .int) rmX7_kept [vr G k] (w0 σ) vzI (wzR σ) (gX7_kept F σ k) := by
  refine ctr_of (by decide) (Nat.le_of_ble_eq_true rfl) mwX7_kept.1 (fun X hl hR C R hnm => ?_)
  subst hl
  refine z_lv (lv' := [(0, vr G k)]) [0] rfl ?_
  show ZZ X G 3 (QM X G vzI (wzR σ) (0, 0)) (0, 0) (gX7_kept_L4 F σ k F 0 0) (w0 σ) 0 [(0, vr G k)] []
  refine z_iconst C dX7_kept_0 1 rfl ?_
  refine z_istore_n (lv' := [(1, vi 0), (0, vr G k)]) C 1 rfl (by decide) dX7_kept_1 2 rfl rfl ?_
  refine z_iconst C dX7_kept_2 3 rfl ?_
  refine z_istore_n (lv' := [(2, vi 0), (1, vi 0), (0, vr G k)]) C 2 rfl (by decide) dX7_kept_3 4 rfl rfl ?_
  refine z_lv (lv' := [(0, vr G k), (1, vi 0), (2, vi 0)]) [2, 1, 0] rfl ?_
  exact pX7_kept_L4 C R hR F σ k hk F 0 0
-- paired
def gX7_paired_L29 (F : Nat) (σ : St) (k : Int) (c4 : Int → Int → Option (Int)) (x1 : Int) (x2 : Int) : Option (Int) := c4 x1 (x2 + 1)
def gX7_paired_L4 (F : Nat) (σ : St) (k : Int) : Nat → Int → Int → Option (Int)
  | 0, _, _ => none
  | n + 1, x1, x2 => if w32 x2 ≥ w32 (σ (bd k) 6) then some x1 else gd (0 ≤ w32 x2 ∧ w32 x2 < 9) (if w32 (σ (k + 3) (w32 x2)) = (-4) then gX7_paired_L29 F σ k (gX7_paired_L4 F σ k n) x1 x2 else gX7_paired_L29 F σ k (gX7_paired_L4 F σ k n) (x1 + 1) x2)
def gX7_paired (F : Nat) (σ : St) (k : Int) : Option (Int) := gX7_paired_L4 F σ k F 0 0
def rmX7_paired : Room := { frames := 0, cells := 0, slots := 0, locals := 0 }
set_option maxRecDepth 100000 in
set_option maxHeartbeats 4000000 in
theorem pX7_paired_L29 {X : MX} {G : GG} (C : CX X G 3 cX7_paired RX7) (R : RT X (some .int)) (hR : mR X = rmX7_paired) (F : Nat) (σ : St) (k : Int) (hk : isK k (0, 7)) (c4 : Int → Int → Option (Int)) (hc4 : ∀ (x1 : Int) (x2 : Int), ZZ X G 3 (QM X G vzI (wzR σ) (0, 0)) (0, 0) (c4 x1 x2) (w0 σ) 4 [(0, vr G k), (1, vi x1), (2, vi x2)] []) : ∀ (x1 : Int) (x2 : Int), ZZ X G 3 (QM X G vzI (wzR σ) (0, 0)) (0, 0) (gX7_paired_L29 F σ k c4 x1 x2) (w0 σ) 29 [(0, vr G k), (1, vi x1), (2, vi x2)] [] := by
  intro x1 x2
  show ZZ X G 3 (QM X G vzI (wzR σ) (0, 0)) (0, 0) (c4 x1 (x2 + 1)) (w0 σ) 29 [(0, vr G k), (1, vi x1), (2, vi x2)] []
  refine z_iinc (lv' := [(2, vi (x2 + 1)), (0, vr G k), (1, vi x1)]) C (by decide) 2 rfl dX7_paired_29 32 rfl rfl ?_
  refine z_goto C dX7_paired_32 4 (by decide) ?_
  refine z_lv (lv' := [(0, vr G k), (1, vi x1), (2, vi (x2 + 1))]) [1, 2, 0] rfl ?_
  exact hc4 x1 (x2 + 1)
set_option maxRecDepth 100000 in
set_option maxHeartbeats 4000000 in
theorem pX7_paired_L4 {X : MX} {G : GG} (C : CX X G 3 cX7_paired RX7) (R : RT X (some .int)) (hR : mR X = rmX7_paired) (F : Nat) (σ : St) (k : Int) (hk : isK k (0, 7))  : ∀ (n : Nat) (x1 : Int) (x2 : Int), ZZ X G 3 (QM X G vzI (wzR σ) (0, 0)) (0, 0) (gX7_paired_L4 F σ k n x1 x2) (w0 σ) 4 [(0, vr G k), (1, vi x1), (2, vi x2)] [] := by
  intro n
  induction n with
  | zero =>
    intro _ _
    exact z_none
  | succ n ih =>
    intro x1 x2
    show ZZ X G 3 (QM X G vzI (wzR σ) (0, 0)) (0, 0) (if w32 x2 ≥ w32 (σ (bd k) 6) then some x1 else gd (0 ≤ w32 x2 ∧ w32 x2 < 9) (if w32 (σ (k + 3) (w32 x2)) = (-4) then gX7_paired_L29 F σ k (gX7_paired_L4 F σ k n) x1 x2 else gX7_paired_L29 F σ k (gX7_paired_L4 F σ k n) (x1 + 1) x2)) (w0 σ) 4 [(0, vr G k), (1, vi x1), (2, vi x2)] []
    refine z_iload_n C 2 rfl 2 rfl dX7_paired_4 5 rfl ?_
    refine z_aload_n C 0 rfl 0 rfl dX7_paired_5 6 rfl ?_
    refine y_getR C fX7_40 hk (lay_7_0 hk) dX7_paired_6 9 rfl ?_
    refine y_getI C fX7_63 ((lay_7_0 hk).2) dX7_paired_9 12 rfl ?_
    refine z_icmp_ge C dX7_paired_12 35 (by decide) 15 rfl rfl rfl (fun _ => ?_) (fun _ => ?_)
    · refine z_iload_n C 1 rfl 1 rfl dX7_paired_35 36 rfl ?_
      exact z_iret C R rfl rfl dX7_paired_36
    · refine z_aload_n C 0 rfl 0 rfl dX7_paired_15 16 rfl ?_
      refine y_getR C fX7_18 hk (lay_7_3 hk) dX7_paired_16 19 rfl ?_
      refine z_iload_n C 2 rfl 2 rfl dX7_paired_19 20 rfl ?_
      refine y_iald C ((lay_7_3 hk).2) rfl dX7_paired_20 21 rfl rfl (fun _ => ?_)
      refine z_bipush C (by decide) dX7_paired_21 23 rfl ?_
      refine z_icmp_eq C dX7_paired_23 29 (by decide) 26 rfl rfl (w32_id (a := (-4)) (by decide)) (fun _ => ?_) (fun _ => ?_)
      · exact pX7_paired_L29 C R hR F σ k hk (gX7_paired_L4 F σ k n) ih x1 x2
      · refine z_iinc (lv' := [(1, vi (x1 + 1)), (0, vr G k), (2, vi x2)]) C (by decide) 1 rfl dX7_paired_26 29 rfl rfl ?_
        refine z_lv (lv' := [(0, vr G k), (1, vi (x1 + 1)), (2, vi x2)]) [1, 0, 2] rfl ?_
        exact pX7_paired_L29 C R hR F σ k hk (gX7_paired_L4 F σ k n) ih (x1 + 1) x2
set_option maxRecDepth 100000 in
set_option maxHeartbeats 4000000 in
theorem tX7_paired (l : Launch) (G : GG) (F : Nat) (σ : St) (k : Int) (hk : isK k (0, 7)) : Ctr l G yX7_paired cX7_paired 3 (some .int) rmX7_paired [vr G k] (w0 σ) vzI (wzR σ) (gX7_paired F σ k) := by
  refine ctr_of (by decide) (Nat.le_of_ble_eq_true rfl) mwX7_paired.1 (fun X hl hR C R hnm => ?_)
  subst hl
  refine z_lv (lv' := [(0, vr G k)]) [0] rfl ?_
  show ZZ X G 3 (QM X G vzI (wzR σ) (0, 0)) (0, 0) (gX7_paired_L4 F σ k F 0 0) (w0 σ) 0 [(0, vr G k)] []
  refine z_iconst C dX7_paired_0 1 rfl ?_
  refine z_istore_n (lv' := [(1, vi 0), (0, vr G k)]) C 1 rfl (by decide) dX7_paired_1 2 rfl rfl ?_
  refine z_iconst C dX7_paired_2 3 rfl ?_
  refine z_istore_n (lv' := [(2, vi 0), (1, vi 0), (0, vr G k)]) C 2 rfl (by decide) dX7_paired_3 4 rfl rfl ?_
  refine z_lv (lv' := [(0, vr G k), (1, vi 0), (2, vi 0)]) [2, 1, 0] rfl ?_
  exact pX7_paired_L4 C R hR F σ k hk F 0 0
-- takeBackDrop
def gX7_takeBackDrop (σ : St) (k : Int) (x1 : Int) (x2 : Int) : Option (St) := if w32 x1 = (-4) then some σ else gd (0 ≤ w32 x1 ∧ w32 x1 < 9) (gd (0 ≤ w32 x2 ∧ w32 x2 < 6) (gd (0 ≤ w32 x2 ∧ w32 x2 < 6) (some (up (up (up σ (k + 3) (w32 x1) x2) (k + 1) (w32 x2) (((up σ (k + 3) (w32 x1) x2) (k + 1) (w32 x2)) + 1)) k 11 (((up (up σ (k + 3) (w32 x1) x2) (k + 1) (w32 x2) (((up σ (k + 3) (w32 x1) x2) (k + 1) (w32 x2)) + 1)) k 11) - 1)))))
def rmX7_takeBackDrop : Room := { frames := 0, cells := 0, slots := 0, locals := 0 }
set_option maxRecDepth 100000 in
set_option maxHeartbeats 4000000 in
theorem tX7_takeBackDrop (l : Launch) (G : GG) (σ : St) (k : Int) (x1 : Int) (x2 : Int) (hk : isK k (0, 7)) : Ctr l G yX7_takeBackDrop cX7_takeBackDrop 3 none rmX7_takeBackDrop [vr G k, vi x1, vi x2] (w0 σ) vzV wzV (gX7_takeBackDrop σ k x1 x2) := by
  refine ctr_of (by decide) (Nat.le_of_ble_eq_true rfl) mwX7_takeBackDrop.1 (fun X hl hR C R hnm => ?_)
  subst hl
  refine z_lv (lv' := [(0, vr G k), (1, vi x1), (2, vi x2)]) [0, 1, 2] rfl ?_
  show ZZ X G 3 (QM X G vzV wzV (0, 0)) (0, 0) (if w32 x1 = (-4) then some σ else gd (0 ≤ w32 x1 ∧ w32 x1 < 9) (gd (0 ≤ w32 x2 ∧ w32 x2 < 6) (gd (0 ≤ w32 x2 ∧ w32 x2 < 6) (some (up (up (up σ (k + 3) (w32 x1) x2) (k + 1) (w32 x2) (((up σ (k + 3) (w32 x1) x2) (k + 1) (w32 x2)) + 1)) k 11 (((up (up σ (k + 3) (w32 x1) x2) (k + 1) (w32 x2) (((up σ (k + 3) (w32 x1) x2) (k + 1) (w32 x2)) + 1)) k 11) - 1)))))) (w0 σ) 0 [(0, vr G k), (1, vi x1), (2, vi x2)] []
  refine z_iload_n C 1 rfl 1 rfl dX7_takeBackDrop_0 1 rfl ?_
  refine z_bipush C (by decide) dX7_takeBackDrop_1 3 rfl ?_
  refine z_icmp_eq C dX7_takeBackDrop_3 33 (by decide) 6 rfl rfl (w32_id (a := (-4)) (by decide)) (fun _ => ?_) (fun _ => ?_)
  · exact z_vret C R rfl rfl dX7_takeBackDrop_33
  · refine z_aload_n C 0 rfl 0 rfl dX7_takeBackDrop_6 7 rfl ?_
    refine y_getR C fX7_18 hk (lay_7_3 hk) dX7_takeBackDrop_7 10 rfl ?_
    refine z_iload_n C 1 rfl 1 rfl dX7_takeBackDrop_10 11 rfl ?_
    refine z_iload_n C 2 rfl 2 rfl dX7_takeBackDrop_11 12 rfl ?_
    refine y_iast C ((lay_7_3 hk).2) rfl dX7_takeBackDrop_12 13 rfl rfl (fun _ => ?_)
    refine z_aload_n C 0 rfl 0 rfl dX7_takeBackDrop_13 14 rfl ?_
    refine y_getR C fX7_9 hk (lay_7_1 hk) dX7_takeBackDrop_14 17 rfl ?_
    refine z_iload_n C 2 rfl 2 rfl dX7_takeBackDrop_17 18 rfl ?_
    refine z_dup2 C rfl rfl dX7_takeBackDrop_18 19 rfl ?_
    refine y_iald C ((lay_7_1 hk).2) rfl dX7_takeBackDrop_19 20 rfl rfl (fun _ => ?_)
    refine z_iconst C dX7_takeBackDrop_20 21 rfl ?_
    refine z_iadd C dX7_takeBackDrop_21 22 rfl ?_
    refine y_iast C ((lay_7_1 hk).2) rfl dX7_takeBackDrop_22 23 rfl rfl (fun _ => ?_)
    refine z_aload_n C 0 rfl 0 rfl dX7_takeBackDrop_23 24 rfl ?_
    refine z_dup C rfl dX7_takeBackDrop_24 25 rfl ?_
    refine y_getI C fX7_54 hk dX7_takeBackDrop_25 28 rfl ?_
    refine z_iconst C dX7_takeBackDrop_28 29 rfl ?_
    refine z_isub C dX7_takeBackDrop_29 30 rfl ?_
    refine y_putI C fX7_54 hk ⟨rfl, rfl⟩ dX7_takeBackDrop_30 33 rfl ?_
    exact z_vret C R rfl rfl dX7_takeBackDrop_33
-- takeBack
def gX7_takeBack (σ : St) (k : Int) : Option (St) := if w32 (σ k 12) > 0 then gd (0 ≤ w32 ((up σ k 12 ((σ k 12) - 1)) k 12) ∧ w32 ((up σ k 12 ((σ k 12) - 1)) k 12) < 18) (gd (0 ≤ w32 ((up σ k 12 ((σ k 12) - 1)) k 12) ∧ w32 ((up σ k 12 ((σ k 12) - 1)) k 12) < 18) (gd (0 ≤ w32 ((up σ k 12 ((σ k 12) - 1)) k 12) ∧ w32 ((up σ k 12 ((σ k 12) - 1)) k 12) < 18) (if w32 ((up σ k 12 ((σ k 12) - 1)) (k + 9) (w32 ((up σ k 12 ((σ k 12) - 1)) k 12))) = 0 then gd (0 ≤ w32 ((up σ k 12 ((σ k 12) - 1)) (k + 5) (w32 ((up σ k 12 ((σ k 12) - 1)) k 12))) ∧ w32 ((up σ k 12 ((σ k 12) - 1)) (k + 5) (w32 ((up σ k 12 ((σ k 12) - 1)) k 12))) < 9) (if w32 ((up σ k 12 ((σ k 12) - 1)) (k + 6) (w32 ((up σ k 12 ((σ k 12) - 1)) k 12))) = (-4) then some (up (up (up σ k 12 ((σ k 12) - 1)) k 10 (((up σ k 12 ((σ k 12) - 1)) k 10) - 1)) (k + 4) (w32 ((up σ k 12 ((σ k 12) - 1)) (k + 5) (w32 ((up σ k 12 ((σ k 12) - 1)) k 12)))) 0) else gd (0 ≤ w32 ((up σ k 12 ((σ k 12) - 1)) (k + 5) (w32 ((up σ k 12 ((σ k 12) - 1)) k 12))) ∧ w32 ((up σ k 12 ((σ k 12) - 1)) (k + 5) (w32 ((up σ k 12 ((σ k 12) - 1)) k 12))) < 9) (gd (0 ≤ w32 ((up σ k 12 ((σ k 12) - 1)) (k + 6) (w32 ((up σ k 12 ((σ k 12) - 1)) k 12))) ∧ w32 ((up σ k 12 ((σ k 12) - 1)) (k + 6) (w32 ((up σ k 12 ((σ k 12) - 1)) k 12))) < 6) (gd (0 ≤ w32 ((up σ k 12 ((σ k 12) - 1)) (k + 6) (w32 ((up σ k 12 ((σ k 12) - 1)) k 12))) ∧ w32 ((up σ k 12 ((σ k 12) - 1)) (k + 6) (w32 ((up σ k 12 ((σ k 12) - 1)) k 12))) < 6) (gd (0 ≤ w32 ((up σ k 12 ((σ k 12) - 1)) (k + 6) (w32 ((up σ k 12 ((σ k 12) - 1)) k 12))) ∧ w32 ((up σ k 12 ((σ k 12) - 1)) (k + 6) (w32 ((up σ k 12 ((σ k 12) - 1)) k 12))) < 6) (gd (0 ≤ w32 ((up (up (up (up (up σ k 12 ((σ k 12) - 1)) k 10 (((up σ k 12 ((σ k 12) - 1)) k 10) - 1)) (k + 4) (w32 ((up σ k 12 ((σ k 12) - 1)) (k + 5) (w32 ((up σ k 12 ((σ k 12) - 1)) k 12)))) 0) (k + 3) (w32 ((up σ k 12 ((σ k 12) - 1)) (k + 5) (w32 ((up σ k 12 ((σ k 12) - 1)) k 12)))) ((-4))) (k + 1) (w32 ((up σ k 12 ((σ k 12) - 1)) (k + 6) (w32 ((up σ k 12 ((σ k 12) - 1)) k 12)))) (((up (up (up (up σ k 12 ((σ k 12) - 1)) k 10 (((up σ k 12 ((σ k 12) - 1)) k 10) - 1)) (k + 4) (w32 ((up σ k 12 ((σ k 12) - 1)) (k + 5) (w32 ((up σ k 12 ((σ k 12) - 1)) k 12)))) 0) (k + 3) (w32 ((up σ k 12 ((σ k 12) - 1)) (k + 5) (w32 ((up σ k 12 ((σ k 12) - 1)) k 12)))) ((-4))) (k + 1) (w32 ((up σ k 12 ((σ k 12) - 1)) (k + 6) (w32 ((up σ k 12 ((σ k 12) - 1)) k 12))))) - 1)) k 12) ∧ w32 ((up (up (up (up (up σ k 12 ((σ k 12) - 1)) k 10 (((up σ k 12 ((σ k 12) - 1)) k 10) - 1)) (k + 4) (w32 ((up σ k 12 ((σ k 12) - 1)) (k + 5) (w32 ((up σ k 12 ((σ k 12) - 1)) k 12)))) 0) (k + 3) (w32 ((up σ k 12 ((σ k 12) - 1)) (k + 5) (w32 ((up σ k 12 ((σ k 12) - 1)) k 12)))) ((-4))) (k + 1) (w32 ((up σ k 12 ((σ k 12) - 1)) (k + 6) (w32 ((up σ k 12 ((σ k 12) - 1)) k 12)))) (((up (up (up (up σ k 12 ((σ k 12) - 1)) k 10 (((up σ k 12 ((σ k 12) - 1)) k 10) - 1)) (k + 4) (w32 ((up σ k 12 ((σ k 12) - 1)) (k + 5) (w32 ((up σ k 12 ((σ k 12) - 1)) k 12)))) 0) (k + 3) (w32 ((up σ k 12 ((σ k 12) - 1)) (k + 5) (w32 ((up σ k 12 ((σ k 12) - 1)) k 12)))) ((-4))) (k + 1) (w32 ((up σ k 12 ((σ k 12) - 1)) (k + 6) (w32 ((up σ k 12 ((σ k 12) - 1)) k 12))))) - 1)) k 12) < 18) (gd (0 ≤ w32 ((up σ k 12 ((σ k 12) - 1)) (k + 6) (w32 ((up σ k 12 ((σ k 12) - 1)) k 12))) ∧ w32 ((up σ k 12 ((σ k 12) - 1)) (k + 6) (w32 ((up σ k 12 ((σ k 12) - 1)) k 12))) < 6) (gd (0 ≤ w32 ((up (up (up (up (up (up σ k 12 ((σ k 12) - 1)) k 10 (((up σ k 12 ((σ k 12) - 1)) k 10) - 1)) (k + 4) (w32 ((up σ k 12 ((σ k 12) - 1)) (k + 5) (w32 ((up σ k 12 ((σ k 12) - 1)) k 12)))) 0) (k + 3) (w32 ((up σ k 12 ((σ k 12) - 1)) (k + 5) (w32 ((up σ k 12 ((σ k 12) - 1)) k 12)))) ((-4))) (k + 1) (w32 ((up σ k 12 ((σ k 12) - 1)) (k + 6) (w32 ((up σ k 12 ((σ k 12) - 1)) k 12)))) (((up (up (up (up σ k 12 ((σ k 12) - 1)) k 10 (((up σ k 12 ((σ k 12) - 1)) k 10) - 1)) (k + 4) (w32 ((up σ k 12 ((σ k 12) - 1)) (k + 5) (w32 ((up σ k 12 ((σ k 12) - 1)) k 12)))) 0) (k + 3) (w32 ((up σ k 12 ((σ k 12) - 1)) (k + 5) (w32 ((up σ k 12 ((σ k 12) - 1)) k 12)))) ((-4))) (k + 1) (w32 ((up σ k 12 ((σ k 12) - 1)) (k + 6) (w32 ((up σ k 12 ((σ k 12) - 1)) k 12))))) - 1)) (k + 2) (w32 ((up σ k 12 ((σ k 12) - 1)) (k + 6) (w32 ((up σ k 12 ((σ k 12) - 1)) k 12)))) (((up (up (up (up (up σ k 12 ((σ k 12) - 1)) k 10 (((up σ k 12 ((σ k 12) - 1)) k 10) - 1)) (k + 4) (w32 ((up σ k 12 ((σ k 12) - 1)) (k + 5) (w32 ((up σ k 12 ((σ k 12) - 1)) k 12)))) 0) (k + 3) (w32 ((up σ k 12 ((σ k 12) - 1)) (k + 5) (w32 ((up σ k 12 ((σ k 12) - 1)) k 12)))) ((-4))) (k + 1) (w32 ((up σ k 12 ((σ k 12) - 1)) (k + 6) (w32 ((up σ k 12 ((σ k 12) - 1)) k 12)))) (((up (up (up (up σ k 12 ((σ k 12) - 1)) k 10 (((up σ k 12 ((σ k 12) - 1)) k 10) - 1)) (k + 4) (w32 ((up σ k 12 ((σ k 12) - 1)) (k + 5) (w32 ((up σ k 12 ((σ k 12) - 1)) k 12)))) 0) (k + 3) (w32 ((up σ k 12 ((σ k 12) - 1)) (k + 5) (w32 ((up σ k 12 ((σ k 12) - 1)) k 12)))) ((-4))) (k + 1) (w32 ((up σ k 12 ((σ k 12) - 1)) (k + 6) (w32 ((up σ k 12 ((σ k 12) - 1)) k 12))))) - 1)) (k + 2) (w32 ((up σ k 12 ((σ k 12) - 1)) (k + 6) (w32 ((up σ k 12 ((σ k 12) - 1)) k 12))))) - ((up (up (up (up (up σ k 12 ((σ k 12) - 1)) k 10 (((up σ k 12 ((σ k 12) - 1)) k 10) - 1)) (k + 4) (w32 ((up σ k 12 ((σ k 12) - 1)) (k + 5) (w32 ((up σ k 12 ((σ k 12) - 1)) k 12)))) 0) (k + 3) (w32 ((up σ k 12 ((σ k 12) - 1)) (k + 5) (w32 ((up σ k 12 ((σ k 12) - 1)) k 12)))) ((-4))) (k + 1) (w32 ((up σ k 12 ((σ k 12) - 1)) (k + 6) (w32 ((up σ k 12 ((σ k 12) - 1)) k 12)))) (((up (up (up (up σ k 12 ((σ k 12) - 1)) k 10 (((up σ k 12 ((σ k 12) - 1)) k 10) - 1)) (k + 4) (w32 ((up σ k 12 ((σ k 12) - 1)) (k + 5) (w32 ((up σ k 12 ((σ k 12) - 1)) k 12)))) 0) (k + 3) (w32 ((up σ k 12 ((σ k 12) - 1)) (k + 5) (w32 ((up σ k 12 ((σ k 12) - 1)) k 12)))) ((-4))) (k + 1) (w32 ((up σ k 12 ((σ k 12) - 1)) (k + 6) (w32 ((up σ k 12 ((σ k 12) - 1)) k 12))))) - 1)) (k + 7) (w32 ((up (up (up (up (up σ k 12 ((σ k 12) - 1)) k 10 (((up σ k 12 ((σ k 12) - 1)) k 10) - 1)) (k + 4) (w32 ((up σ k 12 ((σ k 12) - 1)) (k + 5) (w32 ((up σ k 12 ((σ k 12) - 1)) k 12)))) 0) (k + 3) (w32 ((up σ k 12 ((σ k 12) - 1)) (k + 5) (w32 ((up σ k 12 ((σ k 12) - 1)) k 12)))) ((-4))) (k + 1) (w32 ((up σ k 12 ((σ k 12) - 1)) (k + 6) (w32 ((up σ k 12 ((σ k 12) - 1)) k 12)))) (((up (up (up (up σ k 12 ((σ k 12) - 1)) k 10 (((up σ k 12 ((σ k 12) - 1)) k 10) - 1)) (k + 4) (w32 ((up σ k 12 ((σ k 12) - 1)) (k + 5) (w32 ((up σ k 12 ((σ k 12) - 1)) k 12)))) 0) (k + 3) (w32 ((up σ k 12 ((σ k 12) - 1)) (k + 5) (w32 ((up σ k 12 ((σ k 12) - 1)) k 12)))) ((-4))) (k + 1) (w32 ((up σ k 12 ((σ k 12) - 1)) (k + 6) (w32 ((up σ k 12 ((σ k 12) - 1)) k 12))))) - 1)) k 12))))) k 12) ∧ w32 ((up (up (up (up (up (up σ k 12 ((σ k 12) - 1)) k 10 (((up σ k 12 ((σ k 12) - 1)) k 10) - 1)) (k + 4) (w32 ((up σ k 12 ((σ k 12) - 1)) (k + 5) (w32 ((up σ k 12 ((σ k 12) - 1)) k 12)))) 0) (k + 3) (w32 ((up σ k 12 ((σ k 12) - 1)) (k + 5) (w32 ((up σ k 12 ((σ k 12) - 1)) k 12)))) ((-4))) (k + 1) (w32 ((up σ k 12 ((σ k 12) - 1)) (k + 6) (w32 ((up σ k 12 ((σ k 12) - 1)) k 12)))) (((up (up (up (up σ k 12 ((σ k 12) - 1)) k 10 (((up σ k 12 ((σ k 12) - 1)) k 10) - 1)) (k + 4) (w32 ((up σ k 12 ((σ k 12) - 1)) (k + 5) (w32 ((up σ k 12 ((σ k 12) - 1)) k 12)))) 0) (k + 3) (w32 ((up σ k 12 ((σ k 12) - 1)) (k + 5) (w32 ((up σ k 12 ((σ k 12) - 1)) k 12)))) ((-4))) (k + 1) (w32 ((up σ k 12 ((σ k 12) - 1)) (k + 6) (w32 ((up σ k 12 ((σ k 12) - 1)) k 12))))) - 1)) (k + 2) (w32 ((up σ k 12 ((σ k 12) - 1)) (k + 6) (w32 ((up σ k 12 ((σ k 12) - 1)) k 12)))) (((up (up (up (up (up σ k 12 ((σ k 12) - 1)) k 10 (((up σ k 12 ((σ k 12) - 1)) k 10) - 1)) (k + 4) (w32 ((up σ k 12 ((σ k 12) - 1)) (k + 5) (w32 ((up σ k 12 ((σ k 12) - 1)) k 12)))) 0) (k + 3) (w32 ((up σ k 12 ((σ k 12) - 1)) (k + 5) (w32 ((up σ k 12 ((σ k 12) - 1)) k 12)))) ((-4))) (k + 1) (w32 ((up σ k 12 ((σ k 12) - 1)) (k + 6) (w32 ((up σ k 12 ((σ k 12) - 1)) k 12)))) (((up (up (up (up σ k 12 ((σ k 12) - 1)) k 10 (((up σ k 12 ((σ k 12) - 1)) k 10) - 1)) (k + 4) (w32 ((up σ k 12 ((σ k 12) - 1)) (k + 5) (w32 ((up σ k 12 ((σ k 12) - 1)) k 12)))) 0) (k + 3) (w32 ((up σ k 12 ((σ k 12) - 1)) (k + 5) (w32 ((up σ k 12 ((σ k 12) - 1)) k 12)))) ((-4))) (k + 1) (w32 ((up σ k 12 ((σ k 12) - 1)) (k + 6) (w32 ((up σ k 12 ((σ k 12) - 1)) k 12))))) - 1)) (k + 2) (w32 ((up σ k 12 ((σ k 12) - 1)) (k + 6) (w32 ((up σ k 12 ((σ k 12) - 1)) k 12))))) - ((up (up (up (up (up σ k 12 ((σ k 12) - 1)) k 10 (((up σ k 12 ((σ k 12) - 1)) k 10) - 1)) (k + 4) (w32 ((up σ k 12 ((σ k 12) - 1)) (k + 5) (w32 ((up σ k 12 ((σ k 12) - 1)) k 12)))) 0) (k + 3) (w32 ((up σ k 12 ((σ k 12) - 1)) (k + 5) (w32 ((up σ k 12 ((σ k 12) - 1)) k 12)))) ((-4))) (k + 1) (w32 ((up σ k 12 ((σ k 12) - 1)) (k + 6) (w32 ((up σ k 12 ((σ k 12) - 1)) k 12)))) (((up (up (up (up σ k 12 ((σ k 12) - 1)) k 10 (((up σ k 12 ((σ k 12) - 1)) k 10) - 1)) (k + 4) (w32 ((up σ k 12 ((σ k 12) - 1)) (k + 5) (w32 ((up σ k 12 ((σ k 12) - 1)) k 12)))) 0) (k + 3) (w32 ((up σ k 12 ((σ k 12) - 1)) (k + 5) (w32 ((up σ k 12 ((σ k 12) - 1)) k 12)))) ((-4))) (k + 1) (w32 ((up σ k 12 ((σ k 12) - 1)) (k + 6) (w32 ((up σ k 12 ((σ k 12) - 1)) k 12))))) - 1)) (k + 7) (w32 ((up (up (up (up (up σ k 12 ((σ k 12) - 1)) k 10 (((up σ k 12 ((σ k 12) - 1)) k 10) - 1)) (k + 4) (w32 ((up σ k 12 ((σ k 12) - 1)) (k + 5) (w32 ((up σ k 12 ((σ k 12) - 1)) k 12)))) 0) (k + 3) (w32 ((up σ k 12 ((σ k 12) - 1)) (k + 5) (w32 ((up σ k 12 ((σ k 12) - 1)) k 12)))) ((-4))) (k + 1) (w32 ((up σ k 12 ((σ k 12) - 1)) (k + 6) (w32 ((up σ k 12 ((σ k 12) - 1)) k 12)))) (((up (up (up (up σ k 12 ((σ k 12) - 1)) k 10 (((up σ k 12 ((σ k 12) - 1)) k 10) - 1)) (k + 4) (w32 ((up σ k 12 ((σ k 12) - 1)) (k + 5) (w32 ((up σ k 12 ((σ k 12) - 1)) k 12)))) 0) (k + 3) (w32 ((up σ k 12 ((σ k 12) - 1)) (k + 5) (w32 ((up σ k 12 ((σ k 12) - 1)) k 12)))) ((-4))) (k + 1) (w32 ((up σ k 12 ((σ k 12) - 1)) (k + 6) (w32 ((up σ k 12 ((σ k 12) - 1)) k 12))))) - 1)) k 12))))) k 12) < 18) ((gX7_takeBackDrop (up (up (up (up (up (up σ k 12 ((σ k 12) - 1)) k 10 (((up σ k 12 ((σ k 12) - 1)) k 10) - 1)) (k + 4) (w32 ((up σ k 12 ((σ k 12) - 1)) (k + 5) (w32 ((up σ k 12 ((σ k 12) - 1)) k 12)))) 0) (k + 3) (w32 ((up σ k 12 ((σ k 12) - 1)) (k + 5) (w32 ((up σ k 12 ((σ k 12) - 1)) k 12)))) ((-4))) (k + 1) (w32 ((up σ k 12 ((σ k 12) - 1)) (k + 6) (w32 ((up σ k 12 ((σ k 12) - 1)) k 12)))) (((up (up (up (up σ k 12 ((σ k 12) - 1)) k 10 (((up σ k 12 ((σ k 12) - 1)) k 10) - 1)) (k + 4) (w32 ((up σ k 12 ((σ k 12) - 1)) (k + 5) (w32 ((up σ k 12 ((σ k 12) - 1)) k 12)))) 0) (k + 3) (w32 ((up σ k 12 ((σ k 12) - 1)) (k + 5) (w32 ((up σ k 12 ((σ k 12) - 1)) k 12)))) ((-4))) (k + 1) (w32 ((up σ k 12 ((σ k 12) - 1)) (k + 6) (w32 ((up σ k 12 ((σ k 12) - 1)) k 12))))) - 1)) (k + 2) (w32 ((up σ k 12 ((σ k 12) - 1)) (k + 6) (w32 ((up σ k 12 ((σ k 12) - 1)) k 12)))) (((up (up (up (up (up σ k 12 ((σ k 12) - 1)) k 10 (((up σ k 12 ((σ k 12) - 1)) k 10) - 1)) (k + 4) (w32 ((up σ k 12 ((σ k 12) - 1)) (k + 5) (w32 ((up σ k 12 ((σ k 12) - 1)) k 12)))) 0) (k + 3) (w32 ((up σ k 12 ((σ k 12) - 1)) (k + 5) (w32 ((up σ k 12 ((σ k 12) - 1)) k 12)))) ((-4))) (k + 1) (w32 ((up σ k 12 ((σ k 12) - 1)) (k + 6) (w32 ((up σ k 12 ((σ k 12) - 1)) k 12)))) (((up (up (up (up σ k 12 ((σ k 12) - 1)) k 10 (((up σ k 12 ((σ k 12) - 1)) k 10) - 1)) (k + 4) (w32 ((up σ k 12 ((σ k 12) - 1)) (k + 5) (w32 ((up σ k 12 ((σ k 12) - 1)) k 12)))) 0) (k + 3) (w32 ((up σ k 12 ((σ k 12) - 1)) (k + 5) (w32 ((up σ k 12 ((σ k 12) - 1)) k 12)))) ((-4))) (k + 1) (w32 ((up σ k 12 ((σ k 12) - 1)) (k + 6) (w32 ((up σ k 12 ((σ k 12) - 1)) k 12))))) - 1)) (k + 2) (w32 ((up σ k 12 ((σ k 12) - 1)) (k + 6) (w32 ((up σ k 12 ((σ k 12) - 1)) k 12))))) - ((up (up (up (up (up σ k 12 ((σ k 12) - 1)) k 10 (((up σ k 12 ((σ k 12) - 1)) k 10) - 1)) (k + 4) (w32 ((up σ k 12 ((σ k 12) - 1)) (k + 5) (w32 ((up σ k 12 ((σ k 12) - 1)) k 12)))) 0) (k + 3) (w32 ((up σ k 12 ((σ k 12) - 1)) (k + 5) (w32 ((up σ k 12 ((σ k 12) - 1)) k 12)))) ((-4))) (k + 1) (w32 ((up σ k 12 ((σ k 12) - 1)) (k + 6) (w32 ((up σ k 12 ((σ k 12) - 1)) k 12)))) (((up (up (up (up σ k 12 ((σ k 12) - 1)) k 10 (((up σ k 12 ((σ k 12) - 1)) k 10) - 1)) (k + 4) (w32 ((up σ k 12 ((σ k 12) - 1)) (k + 5) (w32 ((up σ k 12 ((σ k 12) - 1)) k 12)))) 0) (k + 3) (w32 ((up σ k 12 ((σ k 12) - 1)) (k + 5) (w32 ((up σ k 12 ((σ k 12) - 1)) k 12)))) ((-4))) (k + 1) (w32 ((up σ k 12 ((σ k 12) - 1)) (k + 6) (w32 ((up σ k 12 ((σ k 12) - 1)) k 12))))) - 1)) (k + 7) (w32 ((up (up (up (up (up σ k 12 ((σ k 12) - 1)) k 10 (((up σ k 12 ((σ k 12) - 1)) k 10) - 1)) (k + 4) (w32 ((up σ k 12 ((σ k 12) - 1)) (k + 5) (w32 ((up σ k 12 ((σ k 12) - 1)) k 12)))) 0) (k + 3) (w32 ((up σ k 12 ((σ k 12) - 1)) (k + 5) (w32 ((up σ k 12 ((σ k 12) - 1)) k 12)))) ((-4))) (k + 1) (w32 ((up σ k 12 ((σ k 12) - 1)) (k + 6) (w32 ((up σ k 12 ((σ k 12) - 1)) k 12)))) (((up (up (up (up σ k 12 ((σ k 12) - 1)) k 10 (((up σ k 12 ((σ k 12) - 1)) k 10) - 1)) (k + 4) (w32 ((up σ k 12 ((σ k 12) - 1)) (k + 5) (w32 ((up σ k 12 ((σ k 12) - 1)) k 12)))) 0) (k + 3) (w32 ((up σ k 12 ((σ k 12) - 1)) (k + 5) (w32 ((up σ k 12 ((σ k 12) - 1)) k 12)))) ((-4))) (k + 1) (w32 ((up σ k 12 ((σ k 12) - 1)) (k + 6) (w32 ((up σ k 12 ((σ k 12) - 1)) k 12))))) - 1)) k 12))))) k ((up (up (up (up (up (up σ k 12 ((σ k 12) - 1)) k 10 (((up σ k 12 ((σ k 12) - 1)) k 10) - 1)) (k + 4) (w32 ((up σ k 12 ((σ k 12) - 1)) (k + 5) (w32 ((up σ k 12 ((σ k 12) - 1)) k 12)))) 0) (k + 3) (w32 ((up σ k 12 ((σ k 12) - 1)) (k + 5) (w32 ((up σ k 12 ((σ k 12) - 1)) k 12)))) ((-4))) (k + 1) (w32 ((up σ k 12 ((σ k 12) - 1)) (k + 6) (w32 ((up σ k 12 ((σ k 12) - 1)) k 12)))) (((up (up (up (up σ k 12 ((σ k 12) - 1)) k 10 (((up σ k 12 ((σ k 12) - 1)) k 10) - 1)) (k + 4) (w32 ((up σ k 12 ((σ k 12) - 1)) (k + 5) (w32 ((up σ k 12 ((σ k 12) - 1)) k 12)))) 0) (k + 3) (w32 ((up σ k 12 ((σ k 12) - 1)) (k + 5) (w32 ((up σ k 12 ((σ k 12) - 1)) k 12)))) ((-4))) (k + 1) (w32 ((up σ k 12 ((σ k 12) - 1)) (k + 6) (w32 ((up σ k 12 ((σ k 12) - 1)) k 12))))) - 1)) (k + 2) (w32 ((up σ k 12 ((σ k 12) - 1)) (k + 6) (w32 ((up σ k 12 ((σ k 12) - 1)) k 12)))) (((up (up (up (up (up σ k 12 ((σ k 12) - 1)) k 10 (((up σ k 12 ((σ k 12) - 1)) k 10) - 1)) (k + 4) (w32 ((up σ k 12 ((σ k 12) - 1)) (k + 5) (w32 ((up σ k 12 ((σ k 12) - 1)) k 12)))) 0) (k + 3) (w32 ((up σ k 12 ((σ k 12) - 1)) (k + 5) (w32 ((up σ k 12 ((σ k 12) - 1)) k 12)))) ((-4))) (k + 1) (w32 ((up σ k 12 ((σ k 12) - 1)) (k + 6) (w32 ((up σ k 12 ((σ k 12) - 1)) k 12)))) (((up (up (up (up σ k 12 ((σ k 12) - 1)) k 10 (((up σ k 12 ((σ k 12) - 1)) k 10) - 1)) (k + 4) (w32 ((up σ k 12 ((σ k 12) - 1)) (k + 5) (w32 ((up σ k 12 ((σ k 12) - 1)) k 12)))) 0) (k + 3) (w32 ((up σ k 12 ((σ k 12) - 1)) (k + 5) (w32 ((up σ k 12 ((σ k 12) - 1)) k 12)))) ((-4))) (k + 1) (w32 ((up σ k 12 ((σ k 12) - 1)) (k + 6) (w32 ((up σ k 12 ((σ k 12) - 1)) k 12))))) - 1)) (k + 2) (w32 ((up σ k 12 ((σ k 12) - 1)) (k + 6) (w32 ((up σ k 12 ((σ k 12) - 1)) k 12))))) - ((up (up (up (up (up σ k 12 ((σ k 12) - 1)) k 10 (((up σ k 12 ((σ k 12) - 1)) k 10) - 1)) (k + 4) (w32 ((up σ k 12 ((σ k 12) - 1)) (k + 5) (w32 ((up σ k 12 ((σ k 12) - 1)) k 12)))) 0) (k + 3) (w32 ((up σ k 12 ((σ k 12) - 1)) (k + 5) (w32 ((up σ k 12 ((σ k 12) - 1)) k 12)))) ((-4))) (k + 1) (w32 ((up σ k 12 ((σ k 12) - 1)) (k + 6) (w32 ((up σ k 12 ((σ k 12) - 1)) k 12)))) (((up (up (up (up σ k 12 ((σ k 12) - 1)) k 10 (((up σ k 12 ((σ k 12) - 1)) k 10) - 1)) (k + 4) (w32 ((up σ k 12 ((σ k 12) - 1)) (k + 5) (w32 ((up σ k 12 ((σ k 12) - 1)) k 12)))) 0) (k + 3) (w32 ((up σ k 12 ((σ k 12) - 1)) (k + 5) (w32 ((up σ k 12 ((σ k 12) - 1)) k 12)))) ((-4))) (k + 1) (w32 ((up σ k 12 ((σ k 12) - 1)) (k + 6) (w32 ((up σ k 12 ((σ k 12) - 1)) k 12))))) - 1)) (k + 7) (w32 ((up (up (up (up (up σ k 12 ((σ k 12) - 1)) k 10 (((up σ k 12 ((σ k 12) - 1)) k 10) - 1)) (k + 4) (w32 ((up σ k 12 ((σ k 12) - 1)) (k + 5) (w32 ((up σ k 12 ((σ k 12) - 1)) k 12)))) 0) (k + 3) (w32 ((up σ k 12 ((σ k 12) - 1)) (k + 5) (w32 ((up σ k 12 ((σ k 12) - 1)) k 12)))) ((-4))) (k + 1) (w32 ((up σ k 12 ((σ k 12) - 1)) (k + 6) (w32 ((up σ k 12 ((σ k 12) - 1)) k 12)))) (((up (up (up (up σ k 12 ((σ k 12) - 1)) k 10 (((up σ k 12 ((σ k 12) - 1)) k 10) - 1)) (k + 4) (w32 ((up σ k 12 ((σ k 12) - 1)) (k + 5) (w32 ((up σ k 12 ((σ k 12) - 1)) k 12)))) 0) (k + 3) (w32 ((up σ k 12 ((σ k 12) - 1)) (k + 5) (w32 ((up σ k 12 ((σ k 12) - 1)) k 12)))) ((-4))) (k + 1) (w32 ((up σ k 12 ((σ k 12) - 1)) (k + 6) (w32 ((up σ k 12 ((σ k 12) - 1)) k 12))))) - 1)) k 12))))) (k + 8) (w32 ((up (up (up (up (up (up σ k 12 ((σ k 12) - 1)) k 10 (((up σ k 12 ((σ k 12) - 1)) k 10) - 1)) (k + 4) (w32 ((up σ k 12 ((σ k 12) - 1)) (k + 5) (w32 ((up σ k 12 ((σ k 12) - 1)) k 12)))) 0) (k + 3) (w32 ((up σ k 12 ((σ k 12) - 1)) (k + 5) (w32 ((up σ k 12 ((σ k 12) - 1)) k 12)))) ((-4))) (k + 1) (w32 ((up σ k 12 ((σ k 12) - 1)) (k + 6) (w32 ((up σ k 12 ((σ k 12) - 1)) k 12)))) (((up (up (up (up σ k 12 ((σ k 12) - 1)) k 10 (((up σ k 12 ((σ k 12) - 1)) k 10) - 1)) (k + 4) (w32 ((up σ k 12 ((σ k 12) - 1)) (k + 5) (w32 ((up σ k 12 ((σ k 12) - 1)) k 12)))) 0) (k + 3) (w32 ((up σ k 12 ((σ k 12) - 1)) (k + 5) (w32 ((up σ k 12 ((σ k 12) - 1)) k 12)))) ((-4))) (k + 1) (w32 ((up σ k 12 ((σ k 12) - 1)) (k + 6) (w32 ((up σ k 12 ((σ k 12) - 1)) k 12))))) - 1)) (k + 2) (w32 ((up σ k 12 ((σ k 12) - 1)) (k + 6) (w32 ((up σ k 12 ((σ k 12) - 1)) k 12)))) (((up (up (up (up (up σ k 12 ((σ k 12) - 1)) k 10 (((up σ k 12 ((σ k 12) - 1)) k 10) - 1)) (k + 4) (w32 ((up σ k 12 ((σ k 12) - 1)) (k + 5) (w32 ((up σ k 12 ((σ k 12) - 1)) k 12)))) 0) (k + 3) (w32 ((up σ k 12 ((σ k 12) - 1)) (k + 5) (w32 ((up σ k 12 ((σ k 12) - 1)) k 12)))) ((-4))) (k + 1) (w32 ((up σ k 12 ((σ k 12) - 1)) (k + 6) (w32 ((up σ k 12 ((σ k 12) - 1)) k 12)))) (((up (up (up (up σ k 12 ((σ k 12) - 1)) k 10 (((up σ k 12 ((σ k 12) - 1)) k 10) - 1)) (k + 4) (w32 ((up σ k 12 ((σ k 12) - 1)) (k + 5) (w32 ((up σ k 12 ((σ k 12) - 1)) k 12)))) 0) (k + 3) (w32 ((up σ k 12 ((σ k 12) - 1)) (k + 5) (w32 ((up σ k 12 ((σ k 12) - 1)) k 12)))) ((-4))) (k + 1) (w32 ((up σ k 12 ((σ k 12) - 1)) (k + 6) (w32 ((up σ k 12 ((σ k 12) - 1)) k 12))))) - 1)) (k + 2) (w32 ((up σ k 12 ((σ k 12) - 1)) (k + 6) (w32 ((up σ k 12 ((σ k 12) - 1)) k 12))))) - ((up (up (up (up (up σ k 12 ((σ k 12) - 1)) k 10 (((up σ k 12 ((σ k 12) - 1)) k 10) - 1)) (k + 4) (w32 ((up σ k 12 ((σ k 12) - 1)) (k + 5) (w32 ((up σ k 12 ((σ k 12) - 1)) k 12)))) 0) (k + 3) (w32 ((up σ k 12 ((σ k 12) - 1)) (k + 5) (w32 ((up σ k 12 ((σ k 12) - 1)) k 12)))) ((-4))) (k + 1) (w32 ((up σ k 12 ((σ k 12) - 1)) (k + 6) (w32 ((up σ k 12 ((σ k 12) - 1)) k 12)))) (((up (up (up (up σ k 12 ((σ k 12) - 1)) k 10 (((up σ k 12 ((σ k 12) - 1)) k 10) - 1)) (k + 4) (w32 ((up σ k 12 ((σ k 12) - 1)) (k + 5) (w32 ((up σ k 12 ((σ k 12) - 1)) k 12)))) 0) (k + 3) (w32 ((up σ k 12 ((σ k 12) - 1)) (k + 5) (w32 ((up σ k 12 ((σ k 12) - 1)) k 12)))) ((-4))) (k + 1) (w32 ((up σ k 12 ((σ k 12) - 1)) (k + 6) (w32 ((up σ k 12 ((σ k 12) - 1)) k 12))))) - 1)) (k + 7) (w32 ((up (up (up (up (up σ k 12 ((σ k 12) - 1)) k 10 (((up σ k 12 ((σ k 12) - 1)) k 10) - 1)) (k + 4) (w32 ((up σ k 12 ((σ k 12) - 1)) (k + 5) (w32 ((up σ k 12 ((σ k 12) - 1)) k 12)))) 0) (k + 3) (w32 ((up σ k 12 ((σ k 12) - 1)) (k + 5) (w32 ((up σ k 12 ((σ k 12) - 1)) k 12)))) ((-4))) (k + 1) (w32 ((up σ k 12 ((σ k 12) - 1)) (k + 6) (w32 ((up σ k 12 ((σ k 12) - 1)) k 12)))) (((up (up (up (up σ k 12 ((σ k 12) - 1)) k 10 (((up σ k 12 ((σ k 12) - 1)) k 10) - 1)) (k + 4) (w32 ((up σ k 12 ((σ k 12) - 1)) (k + 5) (w32 ((up σ k 12 ((σ k 12) - 1)) k 12)))) 0) (k + 3) (w32 ((up σ k 12 ((σ k 12) - 1)) (k + 5) (w32 ((up σ k 12 ((σ k 12) - 1)) k 12)))) ((-4))) (k + 1) (w32 ((up σ k 12 ((σ k 12) - 1)) (k + 6) (w32 ((up σ k 12 ((σ k 12) - 1)) k 12))))) - 1)) k 12))))) k 12))) ((up σ k 12 ((σ k 12) - 1)) (k + 6) (w32 ((up σ k 12 ((σ k 12) - 1)) k 12)))).bind fun r1 => some r1)))))))) else gd (0 ≤ w32 ((up σ k 12 ((σ k 12) - 1)) (k + 5) (w32 ((up σ k 12 ((σ k 12) - 1)) k 12))) ∧ w32 ((up σ k 12 ((σ k 12) - 1)) (k + 5) (w32 ((up σ k 12 ((σ k 12) - 1)) k 12))) < 9) (gd (0 ≤ w32 ((up σ k 12 ((σ k 12) - 1)) (k + 6) (w32 ((up σ k 12 ((σ k 12) - 1)) k 12))) ∧ w32 ((up σ k 12 ((σ k 12) - 1)) (k + 6) (w32 ((up σ k 12 ((σ k 12) - 1)) k 12))) < 6) (gd (0 ≤ w32 ((up σ k 12 ((σ k 12) - 1)) (k + 6) (w32 ((up σ k 12 ((σ k 12) - 1)) k 12))) ∧ w32 ((up σ k 12 ((σ k 12) - 1)) (k + 6) (w32 ((up σ k 12 ((σ k 12) - 1)) k 12))) < 6) (some (up (up (up σ k 12 ((σ k 12) - 1)) (k + 3) (w32 ((up σ k 12 ((σ k 12) - 1)) (k + 5) (w32 ((up σ k 12 ((σ k 12) - 1)) k 12)))) ((up σ k 12 ((σ k 12) - 1)) (k + 6) (w32 ((up σ k 12 ((σ k 12) - 1)) k 12)))) (k + 1) (w32 ((up σ k 12 ((σ k 12) - 1)) (k + 6) (w32 ((up σ k 12 ((σ k 12) - 1)) k 12)))) (((up (up σ k 12 ((σ k 12) - 1)) (k + 3) (w32 ((up σ k 12 ((σ k 12) - 1)) (k + 5) (w32 ((up σ k 12 ((σ k 12) - 1)) k 12)))) ((up σ k 12 ((σ k 12) - 1)) (k + 6) (w32 ((up σ k 12 ((σ k 12) - 1)) k 12)))) (k + 1) (w32 ((up σ k 12 ((σ k 12) - 1)) (k + 6) (w32 ((up σ k 12 ((σ k 12) - 1)) k 12))))) + 1)))))))) else some σ
def rmX7_takeBack : Room := { frames := 1, cells := 0, slots := 0, locals := 22 }
set_option maxRecDepth 100000 in
set_option maxHeartbeats 4000000 in
theorem tX7_takeBack (l : Launch) (G : GG) (σ : St) (k : Int) (hk : isK k (0, 7)) : Ctr l G yX7_takeBack cX7_takeBack 3 none rmX7_takeBack [vr G k] (w0 σ) vzV wzV (gX7_takeBack σ k) := by
  refine ctr_of (by decide) (Nat.le_of_ble_eq_true rfl) mwX7_takeBack.1 (fun X hl hR C R hnm => ?_)
  subst hl
  refine z_lv (lv' := [(0, vr G k)]) [0] rfl ?_
  show ZZ X G 3 (QM X G vzV wzV (0, 0)) (0, 0) (if w32 (σ k 12) > 0 then gd (0 ≤ w32 ((up σ k 12 ((σ k 12) - 1)) k 12) ∧ w32 ((up σ k 12 ((σ k 12) - 1)) k 12) < 18) (gd (0 ≤ w32 ((up σ k 12 ((σ k 12) - 1)) k 12) ∧ w32 ((up σ k 12 ((σ k 12) - 1)) k 12) < 18) (gd (0 ≤ w32 ((up σ k 12 ((σ k 12) - 1)) k 12) ∧ w32 ((up σ k 12 ((σ k 12) - 1)) k 12) < 18) (if w32 ((up σ k 12 ((σ k 12) - 1)) (k + 9) (w32 ((up σ k 12 ((σ k 12) - 1)) k 12))) = 0 then gd (0 ≤ w32 ((up σ k 12 ((σ k 12) - 1)) (k + 5) (w32 ((up σ k 12 ((σ k 12) - 1)) k 12))) ∧ w32 ((up σ k 12 ((σ k 12) - 1)) (k + 5) (w32 ((up σ k 12 ((σ k 12) - 1)) k 12))) < 9) (if w32 ((up σ k 12 ((σ k 12) - 1)) (k + 6) (w32 ((up σ k 12 ((σ k 12) - 1)) k 12))) = (-4) then some (up (up (up σ k 12 ((σ k 12) - 1)) k 10 (((up σ k 12 ((σ k 12) - 1)) k 10) - 1)) (k + 4) (w32 ((up σ k 12 ((σ k 12) - 1)) (k + 5) (w32 ((up σ k 12 ((σ k 12) - 1)) k 12)))) 0) else gd (0 ≤ w32 ((up σ k 12 ((σ k 12) - 1)) (k + 5) (w32 ((up σ k 12 ((σ k 12) - 1)) k 12))) ∧ w32 ((up σ k 12 ((σ k 12) - 1)) (k + 5) (w32 ((up σ k 12 ((σ k 12) - 1)) k 12))) < 9) (gd (0 ≤ w32 ((up σ k 12 ((σ k 12) - 1)) (k + 6) (w32 ((up σ k 12 ((σ k 12) - 1)) k 12))) ∧ w32 ((up σ k 12 ((σ k 12) - 1)) (k + 6) (w32 ((up σ k 12 ((σ k 12) - 1)) k 12))) < 6) (gd (0 ≤ w32 ((up σ k 12 ((σ k 12) - 1)) (k + 6) (w32 ((up σ k 12 ((σ k 12) - 1)) k 12))) ∧ w32 ((up σ k 12 ((σ k 12) - 1)) (k + 6) (w32 ((up σ k 12 ((σ k 12) - 1)) k 12))) < 6) (gd (0 ≤ w32 ((up σ k 12 ((σ k 12) - 1)) (k + 6) (w32 ((up σ k 12 ((σ k 12) - 1)) k 12))) ∧ w32 ((up σ k 12 ((σ k 12) - 1)) (k + 6) (w32 ((up σ k 12 ((σ k 12) - 1)) k 12))) < 6) (gd (0 ≤ w32 ((up (up (up (up (up σ k 12 ((σ k 12) - 1)) k 10 (((up σ k 12 ((σ k 12) - 1)) k 10) - 1)) (k + 4) (w32 ((up σ k 12 ((σ k 12) - 1)) (k + 5) (w32 ((up σ k 12 ((σ k 12) - 1)) k 12)))) 0) (k + 3) (w32 ((up σ k 12 ((σ k 12) - 1)) (k + 5) (w32 ((up σ k 12 ((σ k 12) - 1)) k 12)))) ((-4))) (k + 1) (w32 ((up σ k 12 ((σ k 12) - 1)) (k + 6) (w32 ((up σ k 12 ((σ k 12) - 1)) k 12)))) (((up (up (up (up σ k 12 ((σ k 12) - 1)) k 10 (((up σ k 12 ((σ k 12) - 1)) k 10) - 1)) (k + 4) (w32 ((up σ k 12 ((σ k 12) - 1)) (k + 5) (w32 ((up σ k 12 ((σ k 12) - 1)) k 12)))) 0) (k + 3) (w32 ((up σ k 12 ((σ k 12) - 1)) (k + 5) (w32 ((up σ k 12 ((σ k 12) - 1)) k 12)))) ((-4))) (k + 1) (w32 ((up σ k 12 ((σ k 12) - 1)) (k + 6) (w32 ((up σ k 12 ((σ k 12) - 1)) k 12))))) - 1)) k 12) ∧ w32 ((up (up (up (up (up σ k 12 ((σ k 12) - 1)) k 10 (((up σ k 12 ((σ k 12) - 1)) k 10) - 1)) (k + 4) (w32 ((up σ k 12 ((σ k 12) - 1)) (k + 5) (w32 ((up σ k 12 ((σ k 12) - 1)) k 12)))) 0) (k + 3) (w32 ((up σ k 12 ((σ k 12) - 1)) (k + 5) (w32 ((up σ k 12 ((σ k 12) - 1)) k 12)))) ((-4))) (k + 1) (w32 ((up σ k 12 ((σ k 12) - 1)) (k + 6) (w32 ((up σ k 12 ((σ k 12) - 1)) k 12)))) (((up (up (up (up σ k 12 ((σ k 12) - 1)) k 10 (((up σ k 12 ((σ k 12) - 1)) k 10) - 1)) (k + 4) (w32 ((up σ k 12 ((σ k 12) - 1)) (k + 5) (w32 ((up σ k 12 ((σ k 12) - 1)) k 12)))) 0) (k + 3) (w32 ((up σ k 12 ((σ k 12) - 1)) (k + 5) (w32 ((up σ k 12 ((σ k 12) - 1)) k 12)))) ((-4))) (k + 1) (w32 ((up σ k 12 ((σ k 12) - 1)) (k + 6) (w32 ((up σ k 12 ((σ k 12) - 1)) k 12))))) - 1)) k 12) < 18) (gd (0 ≤ w32 ((up σ k 12 ((σ k 12) - 1)) (k + 6) (w32 ((up σ k 12 ((σ k 12) - 1)) k 12))) ∧ w32 ((up σ k 12 ((σ k 12) - 1)) (k + 6) (w32 ((up σ k 12 ((σ k 12) - 1)) k 12))) < 6) (gd (0 ≤ w32 ((up (up (up (up (up (up σ k 12 ((σ k 12) - 1)) k 10 (((up σ k 12 ((σ k 12) - 1)) k 10) - 1)) (k + 4) (w32 ((up σ k 12 ((σ k 12) - 1)) (k + 5) (w32 ((up σ k 12 ((σ k 12) - 1)) k 12)))) 0) (k + 3) (w32 ((up σ k 12 ((σ k 12) - 1)) (k + 5) (w32 ((up σ k 12 ((σ k 12) - 1)) k 12)))) ((-4))) (k + 1) (w32 ((up σ k 12 ((σ k 12) - 1)) (k + 6) (w32 ((up σ k 12 ((σ k 12) - 1)) k 12)))) (((up (up (up (up σ k 12 ((σ k 12) - 1)) k 10 (((up σ k 12 ((σ k 12) - 1)) k 10) - 1)) (k + 4) (w32 ((up σ k 12 ((σ k 12) - 1)) (k + 5) (w32 ((up σ k 12 ((σ k 12) - 1)) k 12)))) 0) (k + 3) (w32 ((up σ k 12 ((σ k 12) - 1)) (k + 5) (w32 ((up σ k 12 ((σ k 12) - 1)) k 12)))) ((-4))) (k + 1) (w32 ((up σ k 12 ((σ k 12) - 1)) (k + 6) (w32 ((up σ k 12 ((σ k 12) - 1)) k 12))))) - 1)) (k + 2) (w32 ((up σ k 12 ((σ k 12) - 1)) (k + 6) (w32 ((up σ k 12 ((σ k 12) - 1)) k 12)))) (((up (up (up (up (up σ k 12 ((σ k 12) - 1)) k 10 (((up σ k 12 ((σ k 12) - 1)) k 10) - 1)) (k + 4) (w32 ((up σ k 12 ((σ k 12) - 1)) (k + 5) (w32 ((up σ k 12 ((σ k 12) - 1)) k 12)))) 0) (k + 3) (w32 ((up σ k 12 ((σ k 12) - 1)) (k + 5) (w32 ((up σ k 12 ((σ k 12) - 1)) k 12)))) ((-4))) (k + 1) (w32 ((up σ k 12 ((σ k 12) - 1)) (k + 6) (w32 ((up σ k 12 ((σ k 12) - 1)) k 12)))) (((up (up (up (up σ k 12 ((σ k 12) - 1)) k 10 (((up σ k 12 ((σ k 12) - 1)) k 10) - 1)) (k + 4) (w32 ((up σ k 12 ((σ k 12) - 1)) (k + 5) (w32 ((up σ k 12 ((σ k 12) - 1)) k 12)))) 0) (k + 3) (w32 ((up σ k 12 ((σ k 12) - 1)) (k + 5) (w32 ((up σ k 12 ((σ k 12) - 1)) k 12)))) ((-4))) (k + 1) (w32 ((up σ k 12 ((σ k 12) - 1)) (k + 6) (w32 ((up σ k 12 ((σ k 12) - 1)) k 12))))) - 1)) (k + 2) (w32 ((up σ k 12 ((σ k 12) - 1)) (k + 6) (w32 ((up σ k 12 ((σ k 12) - 1)) k 12))))) - ((up (up (up (up (up σ k 12 ((σ k 12) - 1)) k 10 (((up σ k 12 ((σ k 12) - 1)) k 10) - 1)) (k + 4) (w32 ((up σ k 12 ((σ k 12) - 1)) (k + 5) (w32 ((up σ k 12 ((σ k 12) - 1)) k 12)))) 0) (k + 3) (w32 ((up σ k 12 ((σ k 12) - 1)) (k + 5) (w32 ((up σ k 12 ((σ k 12) - 1)) k 12)))) ((-4))) (k + 1) (w32 ((up σ k 12 ((σ k 12) - 1)) (k + 6) (w32 ((up σ k 12 ((σ k 12) - 1)) k 12)))) (((up (up (up (up σ k 12 ((σ k 12) - 1)) k 10 (((up σ k 12 ((σ k 12) - 1)) k 10) - 1)) (k + 4) (w32 ((up σ k 12 ((σ k 12) - 1)) (k + 5) (w32 ((up σ k 12 ((σ k 12) - 1)) k 12)))) 0) (k + 3) (w32 ((up σ k 12 ((σ k 12) - 1)) (k + 5) (w32 ((up σ k 12 ((σ k 12) - 1)) k 12)))) ((-4))) (k + 1) (w32 ((up σ k 12 ((σ k 12) - 1)) (k + 6) (w32 ((up σ k 12 ((σ k 12) - 1)) k 12))))) - 1)) (k + 7) (w32 ((up (up (up (up (up σ k 12 ((σ k 12) - 1)) k 10 (((up σ k 12 ((σ k 12) - 1)) k 10) - 1)) (k + 4) (w32 ((up σ k 12 ((σ k 12) - 1)) (k + 5) (w32 ((up σ k 12 ((σ k 12) - 1)) k 12)))) 0) (k + 3) (w32 ((up σ k 12 ((σ k 12) - 1)) (k + 5) (w32 ((up σ k 12 ((σ k 12) - 1)) k 12)))) ((-4))) (k + 1) (w32 ((up σ k 12 ((σ k 12) - 1)) (k + 6) (w32 ((up σ k 12 ((σ k 12) - 1)) k 12)))) (((up (up (up (up σ k 12 ((σ k 12) - 1)) k 10 (((up σ k 12 ((σ k 12) - 1)) k 10) - 1)) (k + 4) (w32 ((up σ k 12 ((σ k 12) - 1)) (k + 5) (w32 ((up σ k 12 ((σ k 12) - 1)) k 12)))) 0) (k + 3) (w32 ((up σ k 12 ((σ k 12) - 1)) (k + 5) (w32 ((up σ k 12 ((σ k 12) - 1)) k 12)))) ((-4))) (k + 1) (w32 ((up σ k 12 ((σ k 12) - 1)) (k + 6) (w32 ((up σ k 12 ((σ k 12) - 1)) k 12))))) - 1)) k 12))))) k 12) ∧ w32 ((up (up (up (up (up (up σ k 12 ((σ k 12) - 1)) k 10 (((up σ k 12 ((σ k 12) - 1)) k 10) - 1)) (k + 4) (w32 ((up σ k 12 ((σ k 12) - 1)) (k + 5) (w32 ((up σ k 12 ((σ k 12) - 1)) k 12)))) 0) (k + 3) (w32 ((up σ k 12 ((σ k 12) - 1)) (k + 5) (w32 ((up σ k 12 ((σ k 12) - 1)) k 12)))) ((-4))) (k + 1) (w32 ((up σ k 12 ((σ k 12) - 1)) (k + 6) (w32 ((up σ k 12 ((σ k 12) - 1)) k 12)))) (((up (up (up (up σ k 12 ((σ k 12) - 1)) k 10 (((up σ k 12 ((σ k 12) - 1)) k 10) - 1)) (k + 4) (w32 ((up σ k 12 ((σ k 12) - 1)) (k + 5) (w32 ((up σ k 12 ((σ k 12) - 1)) k 12)))) 0) (k + 3) (w32 ((up σ k 12 ((σ k 12) - 1)) (k + 5) (w32 ((up σ k 12 ((σ k 12) - 1)) k 12)))) ((-4))) (k + 1) (w32 ((up σ k 12 ((σ k 12) - 1)) (k + 6) (w32 ((up σ k 12 ((σ k 12) - 1)) k 12))))) - 1)) (k + 2) (w32 ((up σ k 12 ((σ k 12) - 1)) (k + 6) (w32 ((up σ k 12 ((σ k 12) - 1)) k 12)))) (((up (up (up (up (up σ k 12 ((σ k 12) - 1)) k 10 (((up σ k 12 ((σ k 12) - 1)) k 10) - 1)) (k + 4) (w32 ((up σ k 12 ((σ k 12) - 1)) (k + 5) (w32 ((up σ k 12 ((σ k 12) - 1)) k 12)))) 0) (k + 3) (w32 ((up σ k 12 ((σ k 12) - 1)) (k + 5) (w32 ((up σ k 12 ((σ k 12) - 1)) k 12)))) ((-4))) (k + 1) (w32 ((up σ k 12 ((σ k 12) - 1)) (k + 6) (w32 ((up σ k 12 ((σ k 12) - 1)) k 12)))) (((up (up (up (up σ k 12 ((σ k 12) - 1)) k 10 (((up σ k 12 ((σ k 12) - 1)) k 10) - 1)) (k + 4) (w32 ((up σ k 12 ((σ k 12) - 1)) (k + 5) (w32 ((up σ k 12 ((σ k 12) - 1)) k 12)))) 0) (k + 3) (w32 ((up σ k 12 ((σ k 12) - 1)) (k + 5) (w32 ((up σ k 12 ((σ k 12) - 1)) k 12)))) ((-4))) (k + 1) (w32 ((up σ k 12 ((σ k 12) - 1)) (k + 6) (w32 ((up σ k 12 ((σ k 12) - 1)) k 12))))) - 1)) (k + 2) (w32 ((up σ k 12 ((σ k 12) - 1)) (k + 6) (w32 ((up σ k 12 ((σ k 12) - 1)) k 12))))) - ((up (up (up (up (up σ k 12 ((σ k 12) - 1)) k 10 (((up σ k 12 ((σ k 12) - 1)) k 10) - 1)) (k + 4) (w32 ((up σ k 12 ((σ k 12) - 1)) (k + 5) (w32 ((up σ k 12 ((σ k 12) - 1)) k 12)))) 0) (k + 3) (w32 ((up σ k 12 ((σ k 12) - 1)) (k + 5) (w32 ((up σ k 12 ((σ k 12) - 1)) k 12)))) ((-4))) (k + 1) (w32 ((up σ k 12 ((σ k 12) - 1)) (k + 6) (w32 ((up σ k 12 ((σ k 12) - 1)) k 12)))) (((up (up (up (up σ k 12 ((σ k 12) - 1)) k 10 (((up σ k 12 ((σ k 12) - 1)) k 10) - 1)) (k + 4) (w32 ((up σ k 12 ((σ k 12) - 1)) (k + 5) (w32 ((up σ k 12 ((σ k 12) - 1)) k 12)))) 0) (k + 3) (w32 ((up σ k 12 ((σ k 12) - 1)) (k + 5) (w32 ((up σ k 12 ((σ k 12) - 1)) k 12)))) ((-4))) (k + 1) (w32 ((up σ k 12 ((σ k 12) - 1)) (k + 6) (w32 ((up σ k 12 ((σ k 12) - 1)) k 12))))) - 1)) (k + 7) (w32 ((up (up (up (up (up σ k 12 ((σ k 12) - 1)) k 10 (((up σ k 12 ((σ k 12) - 1)) k 10) - 1)) (k + 4) (w32 ((up σ k 12 ((σ k 12) - 1)) (k + 5) (w32 ((up σ k 12 ((σ k 12) - 1)) k 12)))) 0) (k + 3) (w32 ((up σ k 12 ((σ k 12) - 1)) (k + 5) (w32 ((up σ k 12 ((σ k 12) - 1)) k 12)))) ((-4))) (k + 1) (w32 ((up σ k 12 ((σ k 12) - 1)) (k + 6) (w32 ((up σ k 12 ((σ k 12) - 1)) k 12)))) (((up (up (up (up σ k 12 ((σ k 12) - 1)) k 10 (((up σ k 12 ((σ k 12) - 1)) k 10) - 1)) (k + 4) (w32 ((up σ k 12 ((σ k 12) - 1)) (k + 5) (w32 ((up σ k 12 ((σ k 12) - 1)) k 12)))) 0) (k + 3) (w32 ((up σ k 12 ((σ k 12) - 1)) (k + 5) (w32 ((up σ k 12 ((σ k 12) - 1)) k 12)))) ((-4))) (k + 1) (w32 ((up σ k 12 ((σ k 12) - 1)) (k + 6) (w32 ((up σ k 12 ((σ k 12) - 1)) k 12))))) - 1)) k 12))))) k 12) < 18) ((gX7_takeBackDrop (up (up (up (up (up (up σ k 12 ((σ k 12) - 1)) k 10 (((up σ k 12 ((σ k 12) - 1)) k 10) - 1)) (k + 4) (w32 ((up σ k 12 ((σ k 12) - 1)) (k + 5) (w32 ((up σ k 12 ((σ k 12) - 1)) k 12)))) 0) (k + 3) (w32 ((up σ k 12 ((σ k 12) - 1)) (k + 5) (w32 ((up σ k 12 ((σ k 12) - 1)) k 12)))) ((-4))) (k + 1) (w32 ((up σ k 12 ((σ k 12) - 1)) (k + 6) (w32 ((up σ k 12 ((σ k 12) - 1)) k 12)))) (((up (up (up (up σ k 12 ((σ k 12) - 1)) k 10 (((up σ k 12 ((σ k 12) - 1)) k 10) - 1)) (k + 4) (w32 ((up σ k 12 ((σ k 12) - 1)) (k + 5) (w32 ((up σ k 12 ((σ k 12) - 1)) k 12)))) 0) (k + 3) (w32 ((up σ k 12 ((σ k 12) - 1)) (k + 5) (w32 ((up σ k 12 ((σ k 12) - 1)) k 12)))) ((-4))) (k + 1) (w32 ((up σ k 12 ((σ k 12) - 1)) (k + 6) (w32 ((up σ k 12 ((σ k 12) - 1)) k 12))))) - 1)) (k + 2) (w32 ((up σ k 12 ((σ k 12) - 1)) (k + 6) (w32 ((up σ k 12 ((σ k 12) - 1)) k 12)))) (((up (up (up (up (up σ k 12 ((σ k 12) - 1)) k 10 (((up σ k 12 ((σ k 12) - 1)) k 10) - 1)) (k + 4) (w32 ((up σ k 12 ((σ k 12) - 1)) (k + 5) (w32 ((up σ k 12 ((σ k 12) - 1)) k 12)))) 0) (k + 3) (w32 ((up σ k 12 ((σ k 12) - 1)) (k + 5) (w32 ((up σ k 12 ((σ k 12) - 1)) k 12)))) ((-4))) (k + 1) (w32 ((up σ k 12 ((σ k 12) - 1)) (k + 6) (w32 ((up σ k 12 ((σ k 12) - 1)) k 12)))) (((up (up (up (up σ k 12 ((σ k 12) - 1)) k 10 (((up σ k 12 ((σ k 12) - 1)) k 10) - 1)) (k + 4) (w32 ((up σ k 12 ((σ k 12) - 1)) (k + 5) (w32 ((up σ k 12 ((σ k 12) - 1)) k 12)))) 0) (k + 3) (w32 ((up σ k 12 ((σ k 12) - 1)) (k + 5) (w32 ((up σ k 12 ((σ k 12) - 1)) k 12)))) ((-4))) (k + 1) (w32 ((up σ k 12 ((σ k 12) - 1)) (k + 6) (w32 ((up σ k 12 ((σ k 12) - 1)) k 12))))) - 1)) (k + 2) (w32 ((up σ k 12 ((σ k 12) - 1)) (k + 6) (w32 ((up σ k 12 ((σ k 12) - 1)) k 12))))) - ((up (up (up (up (up σ k 12 ((σ k 12) - 1)) k 10 (((up σ k 12 ((σ k 12) - 1)) k 10) - 1)) (k + 4) (w32 ((up σ k 12 ((σ k 12) - 1)) (k + 5) (w32 ((up σ k 12 ((σ k 12) - 1)) k 12)))) 0) (k + 3) (w32 ((up σ k 12 ((σ k 12) - 1)) (k + 5) (w32 ((up σ k 12 ((σ k 12) - 1)) k 12)))) ((-4))) (k + 1) (w32 ((up σ k 12 ((σ k 12) - 1)) (k + 6) (w32 ((up σ k 12 ((σ k 12) - 1)) k 12)))) (((up (up (up (up σ k 12 ((σ k 12) - 1)) k 10 (((up σ k 12 ((σ k 12) - 1)) k 10) - 1)) (k + 4) (w32 ((up σ k 12 ((σ k 12) - 1)) (k + 5) (w32 ((up σ k 12 ((σ k 12) - 1)) k 12)))) 0) (k + 3) (w32 ((up σ k 12 ((σ k 12) - 1)) (k + 5) (w32 ((up σ k 12 ((σ k 12) - 1)) k 12)))) ((-4))) (k + 1) (w32 ((up σ k 12 ((σ k 12) - 1)) (k + 6) (w32 ((up σ k 12 ((σ k 12) - 1)) k 12))))) - 1)) (k + 7) (w32 ((up (up (up (up (up σ k 12 ((σ k 12) - 1)) k 10 (((up σ k 12 ((σ k 12) - 1)) k 10) - 1)) (k + 4) (w32 ((up σ k 12 ((σ k 12) - 1)) (k + 5) (w32 ((up σ k 12 ((σ k 12) - 1)) k 12)))) 0) (k + 3) (w32 ((up σ k 12 ((σ k 12) - 1)) (k + 5) (w32 ((up σ k 12 ((σ k 12) - 1)) k 12)))) ((-4))) (k + 1) (w32 ((up σ k 12 ((σ k 12) - 1)) (k + 6) (w32 ((up σ k 12 ((σ k 12) - 1)) k 12)))) (((up (up (up (up σ k 12 ((σ k 12) - 1)) k 10 (((up σ k 12 ((σ k 12) - 1)) k 10) - 1)) (k + 4) (w32 ((up σ k 12 ((σ k 12) - 1)) (k + 5) (w32 ((up σ k 12 ((σ k 12) - 1)) k 12)))) 0) (k + 3) (w32 ((up σ k 12 ((σ k 12) - 1)) (k + 5) (w32 ((up σ k 12 ((σ k 12) - 1)) k 12)))) ((-4))) (k + 1) (w32 ((up σ k 12 ((σ k 12) - 1)) (k + 6) (w32 ((up σ k 12 ((σ k 12) - 1)) k 12))))) - 1)) k 12))))) k ((up (up (up (up (up (up σ k 12 ((σ k 12) - 1)) k 10 (((up σ k 12 ((σ k 12) - 1)) k 10) - 1)) (k + 4) (w32 ((up σ k 12 ((σ k 12) - 1)) (k + 5) (w32 ((up σ k 12 ((σ k 12) - 1)) k 12)))) 0) (k + 3) (w32 ((up σ k 12 ((σ k 12) - 1)) (k + 5) (w32 ((up σ k 12 ((σ k 12) - 1)) k 12)))) ((-4))) (k + 1) (w32 ((up σ k 12 ((σ k 12) - 1)) (k + 6) (w32 ((up σ k 12 ((σ k 12) - 1)) k 12)))) (((up (up (up (up σ k 12 ((σ k 12) - 1)) k 10 (((up σ k 12 ((σ k 12) - 1)) k 10) - 1)) (k + 4) (w32 ((up σ k 12 ((σ k 12) - 1)) (k + 5) (w32 ((up σ k 12 ((σ k 12) - 1)) k 12)))) 0) (k + 3) (w32 ((up σ k 12 ((σ k 12) - 1)) (k + 5) (w32 ((up σ k 12 ((σ k 12) - 1)) k 12)))) ((-4))) (k + 1) (w32 ((up σ k 12 ((σ k 12) - 1)) (k + 6) (w32 ((up σ k 12 ((σ k 12) - 1)) k 12))))) - 1)) (k + 2) (w32 ((up σ k 12 ((σ k 12) - 1)) (k + 6) (w32 ((up σ k 12 ((σ k 12) - 1)) k 12)))) (((up (up (up (up (up σ k 12 ((σ k 12) - 1)) k 10 (((up σ k 12 ((σ k 12) - 1)) k 10) - 1)) (k + 4) (w32 ((up σ k 12 ((σ k 12) - 1)) (k + 5) (w32 ((up σ k 12 ((σ k 12) - 1)) k 12)))) 0) (k + 3) (w32 ((up σ k 12 ((σ k 12) - 1)) (k + 5) (w32 ((up σ k 12 ((σ k 12) - 1)) k 12)))) ((-4))) (k + 1) (w32 ((up σ k 12 ((σ k 12) - 1)) (k + 6) (w32 ((up σ k 12 ((σ k 12) - 1)) k 12)))) (((up (up (up (up σ k 12 ((σ k 12) - 1)) k 10 (((up σ k 12 ((σ k 12) - 1)) k 10) - 1)) (k + 4) (w32 ((up σ k 12 ((σ k 12) - 1)) (k + 5) (w32 ((up σ k 12 ((σ k 12) - 1)) k 12)))) 0) (k + 3) (w32 ((up σ k 12 ((σ k 12) - 1)) (k + 5) (w32 ((up σ k 12 ((σ k 12) - 1)) k 12)))) ((-4))) (k + 1) (w32 ((up σ k 12 ((σ k 12) - 1)) (k + 6) (w32 ((up σ k 12 ((σ k 12) - 1)) k 12))))) - 1)) (k + 2) (w32 ((up σ k 12 ((σ k 12) - 1)) (k + 6) (w32 ((up σ k 12 ((σ k 12) - 1)) k 12))))) - ((up (up (up (up (up σ k 12 ((σ k 12) - 1)) k 10 (((up σ k 12 ((σ k 12) - 1)) k 10) - 1)) (k + 4) (w32 ((up σ k 12 ((σ k 12) - 1)) (k + 5) (w32 ((up σ k 12 ((σ k 12) - 1)) k 12)))) 0) (k + 3) (w32 ((up σ k 12 ((σ k 12) - 1)) (k + 5) (w32 ((up σ k 12 ((σ k 12) - 1)) k 12)))) ((-4))) (k + 1) (w32 ((up σ k 12 ((σ k 12) - 1)) (k + 6) (w32 ((up σ k 12 ((σ k 12) - 1)) k 12)))) (((up (up (up (up σ k 12 ((σ k 12) - 1)) k 10 (((up σ k 12 ((σ k 12) - 1)) k 10) - 1)) (k + 4) (w32 ((up σ k 12 ((σ k 12) - 1)) (k + 5) (w32 ((up σ k 12 ((σ k 12) - 1)) k 12)))) 0) (k + 3) (w32 ((up σ k 12 ((σ k 12) - 1)) (k + 5) (w32 ((up σ k 12 ((σ k 12) - 1)) k 12)))) ((-4))) (k + 1) (w32 ((up σ k 12 ((σ k 12) - 1)) (k + 6) (w32 ((up σ k 12 ((σ k 12) - 1)) k 12))))) - 1)) (k + 7) (w32 ((up (up (up (up (up σ k 12 ((σ k 12) - 1)) k 10 (((up σ k 12 ((σ k 12) - 1)) k 10) - 1)) (k + 4) (w32 ((up σ k 12 ((σ k 12) - 1)) (k + 5) (w32 ((up σ k 12 ((σ k 12) - 1)) k 12)))) 0) (k + 3) (w32 ((up σ k 12 ((σ k 12) - 1)) (k + 5) (w32 ((up σ k 12 ((σ k 12) - 1)) k 12)))) ((-4))) (k + 1) (w32 ((up σ k 12 ((σ k 12) - 1)) (k + 6) (w32 ((up σ k 12 ((σ k 12) - 1)) k 12)))) (((up (up (up (up σ k 12 ((σ k 12) - 1)) k 10 (((up σ k 12 ((σ k 12) - 1)) k 10) - 1)) (k + 4) (w32 ((up σ k 12 ((σ k 12) - 1)) (k + 5) (w32 ((up σ k 12 ((σ k 12) - 1)) k 12)))) 0) (k + 3) (w32 ((up σ k 12 ((σ k 12) - 1)) (k + 5) (w32 ((up σ k 12 ((σ k 12) - 1)) k 12)))) ((-4))) (k + 1) (w32 ((up σ k 12 ((σ k 12) - 1)) (k + 6) (w32 ((up σ k 12 ((σ k 12) - 1)) k 12))))) - 1)) k 12))))) (k + 8) (w32 ((up (up (up (up (up (up σ k 12 ((σ k 12) - 1)) k 10 (((up σ k 12 ((σ k 12) - 1)) k 10) - 1)) (k + 4) (w32 ((up σ k 12 ((σ k 12) - 1)) (k + 5) (w32 ((up σ k 12 ((σ k 12) - 1)) k 12)))) 0) (k + 3) (w32 ((up σ k 12 ((σ k 12) - 1)) (k + 5) (w32 ((up σ k 12 ((σ k 12) - 1)) k 12)))) ((-4))) (k + 1) (w32 ((up σ k 12 ((σ k 12) - 1)) (k + 6) (w32 ((up σ k 12 ((σ k 12) - 1)) k 12)))) (((up (up (up (up σ k 12 ((σ k 12) - 1)) k 10 (((up σ k 12 ((σ k 12) - 1)) k 10) - 1)) (k + 4) (w32 ((up σ k 12 ((σ k 12) - 1)) (k + 5) (w32 ((up σ k 12 ((σ k 12) - 1)) k 12)))) 0) (k + 3) (w32 ((up σ k 12 ((σ k 12) - 1)) (k + 5) (w32 ((up σ k 12 ((σ k 12) - 1)) k 12)))) ((-4))) (k + 1) (w32 ((up σ k 12 ((σ k 12) - 1)) (k + 6) (w32 ((up σ k 12 ((σ k 12) - 1)) k 12))))) - 1)) (k + 2) (w32 ((up σ k 12 ((σ k 12) - 1)) (k + 6) (w32 ((up σ k 12 ((σ k 12) - 1)) k 12)))) (((up (up (up (up (up σ k 12 ((σ k 12) - 1)) k 10 (((up σ k 12 ((σ k 12) - 1)) k 10) - 1)) (k + 4) (w32 ((up σ k 12 ((σ k 12) - 1)) (k + 5) (w32 ((up σ k 12 ((σ k 12) - 1)) k 12)))) 0) (k + 3) (w32 ((up σ k 12 ((σ k 12) - 1)) (k + 5) (w32 ((up σ k 12 ((σ k 12) - 1)) k 12)))) ((-4))) (k + 1) (w32 ((up σ k 12 ((σ k 12) - 1)) (k + 6) (w32 ((up σ k 12 ((σ k 12) - 1)) k 12)))) (((up (up (up (up σ k 12 ((σ k 12) - 1)) k 10 (((up σ k 12 ((σ k 12) - 1)) k 10) - 1)) (k + 4) (w32 ((up σ k 12 ((σ k 12) - 1)) (k + 5) (w32 ((up σ k 12 ((σ k 12) - 1)) k 12)))) 0) (k + 3) (w32 ((up σ k 12 ((σ k 12) - 1)) (k + 5) (w32 ((up σ k 12 ((σ k 12) - 1)) k 12)))) ((-4))) (k + 1) (w32 ((up σ k 12 ((σ k 12) - 1)) (k + 6) (w32 ((up σ k 12 ((σ k 12) - 1)) k 12))))) - 1)) (k + 2) (w32 ((up σ k 12 ((σ k 12) - 1)) (k + 6) (w32 ((up σ k 12 ((σ k 12) - 1)) k 12))))) - ((up (up (up (up (up σ k 12 ((σ k 12) - 1)) k 10 (((up σ k 12 ((σ k 12) - 1)) k 10) - 1)) (k + 4) (w32 ((up σ k 12 ((σ k 12) - 1)) (k + 5) (w32 ((up σ k 12 ((σ k 12) - 1)) k 12)))) 0) (k + 3) (w32 ((up σ k 12 ((σ k 12) - 1)) (k + 5) (w32 ((up σ k 12 ((σ k 12) - 1)) k 12)))) ((-4))) (k + 1) (w32 ((up σ k 12 ((σ k 12) - 1)) (k + 6) (w32 ((up σ k 12 ((σ k 12) - 1)) k 12)))) (((up (up (up (up σ k 12 ((σ k 12) - 1)) k 10 (((up σ k 12 ((σ k 12) - 1)) k 10) - 1)) (k + 4) (w32 ((up σ k 12 ((σ k 12) - 1)) (k + 5) (w32 ((up σ k 12 ((σ k 12) - 1)) k 12)))) 0) (k + 3) (w32 ((up σ k 12 ((σ k 12) - 1)) (k + 5) (w32 ((up σ k 12 ((σ k 12) - 1)) k 12)))) ((-4))) (k + 1) (w32 ((up σ k 12 ((σ k 12) - 1)) (k + 6) (w32 ((up σ k 12 ((σ k 12) - 1)) k 12))))) - 1)) (k + 7) (w32 ((up (up (up (up (up σ k 12 ((σ k 12) - 1)) k 10 (((up σ k 12 ((σ k 12) - 1)) k 10) - 1)) (k + 4) (w32 ((up σ k 12 ((σ k 12) - 1)) (k + 5) (w32 ((up σ k 12 ((σ k 12) - 1)) k 12)))) 0) (k + 3) (w32 ((up σ k 12 ((σ k 12) - 1)) (k + 5) (w32 ((up σ k 12 ((σ k 12) - 1)) k 12)))) ((-4))) (k + 1) (w32 ((up σ k 12 ((σ k 12) - 1)) (k + 6) (w32 ((up σ k 12 ((σ k 12) - 1)) k 12)))) (((up (up (up (up σ k 12 ((σ k 12) - 1)) k 10 (((up σ k 12 ((σ k 12) - 1)) k 10) - 1)) (k + 4) (w32 ((up σ k 12 ((σ k 12) - 1)) (k + 5) (w32 ((up σ k 12 ((σ k 12) - 1)) k 12)))) 0) (k + 3) (w32 ((up σ k 12 ((σ k 12) - 1)) (k + 5) (w32 ((up σ k 12 ((σ k 12) - 1)) k 12)))) ((-4))) (k + 1) (w32 ((up σ k 12 ((σ k 12) - 1)) (k + 6) (w32 ((up σ k 12 ((σ k 12) - 1)) k 12))))) - 1)) k 12))))) k 12))) ((up σ k 12 ((σ k 12) - 1)) (k + 6) (w32 ((up σ k 12 ((σ k 12) - 1)) k 12)))).bind fun r1 => some r1)))))))) else gd (0 ≤ w32 ((up σ k 12 ((σ k 12) - 1)) (k + 5) (w32 ((up σ k 12 ((σ k 12) - 1)) k 12))) ∧ w32 ((up σ k 12 ((σ k 12) - 1)) (k + 5) (w32 ((up σ k 12 ((σ k 12) - 1)) k 12))) < 9) (gd (0 ≤ w32 ((up σ k 12 ((σ k 12) - 1)) (k + 6) (w32 ((up σ k 12 ((σ k 12) - 1)) k 12))) ∧ w32 ((up σ k 12 ((σ k 12) - 1)) (k + 6) (w32 ((up σ k 12 ((σ k 12) - 1)) k 12))) < 6) (gd (0 ≤ w32 ((up σ k 12 ((σ k 12) - 1)) (k + 6) (w32 ((up σ k 12 ((σ k 12) - 1)) k 12))) ∧ w32 ((up σ k 12 ((σ k 12) - 1)) (k + 6) (w32 ((up σ k 12 ((σ k 12) - 1)) k 12))) < 6) (some (up (up (up σ k 12 ((σ k 12) - 1)) (k + 3) (w32 ((up σ k 12 ((σ k 12) - 1)) (k + 5) (w32 ((up σ k 12 ((σ k 12) - 1)) k 12)))) ((up σ k 12 ((σ k 12) - 1)) (k + 6) (w32 ((up σ k 12 ((σ k 12) - 1)) k 12)))) (k + 1) (w32 ((up σ k 12 ((σ k 12) - 1)) (k + 6) (w32 ((up σ k 12 ((σ k 12) - 1)) k 12)))) (((up (up σ k 12 ((σ k 12) - 1)) (k + 3) (w32 ((up σ k 12 ((σ k 12) - 1)) (k + 5) (w32 ((up σ k 12 ((σ k 12) - 1)) k 12)))) ((up σ k 12 ((σ k 12) - 1)) (k + 6) (w32 ((up σ k 12 ((σ k 12) - 1)) k 12)))) (k + 1) (w32 ((up σ k 12 ((σ k 12) - 1)) (k + 6) (w32 ((up σ k 12 ((σ k 12) - 1)) k 12))))) + 1)))))))) else some σ) (w0 σ) 0 [(0, vr G k)] []
  refine z_aload_n C 0 rfl 0 rfl dX7_takeBack_0 1 rfl ?_
  refine y_getI C fX7_57 hk dX7_takeBack_1 4 rfl ?_
  refine z_if_gt C dX7_takeBack_4 8 (by decide) 7 rfl rfl (fun _ => ?_) (fun _ => ?_)
  · refine z_aload_n C 0 rfl 0 rfl dX7_takeBack_8 9 rfl ?_
    refine z_dup C rfl dX7_takeBack_9 10 rfl ?_
    refine y_getI C fX7_57 hk dX7_takeBack_10 13 rfl ?_
    refine z_iconst C dX7_takeBack_13 14 rfl ?_
    refine z_isub C dX7_takeBack_14 15 rfl ?_
    refine y_putI C fX7_57 hk ⟨rfl, rfl⟩ dX7_takeBack_15 18 rfl ?_
    refine z_aload_n C 0 rfl 0 rfl dX7_takeBack_18 19 rfl ?_
    refine y_getR C fX7_24 hk (lay_7_5 hk) dX7_takeBack_19 22 rfl ?_
    refine z_aload_n C 0 rfl 0 rfl dX7_takeBack_22 23 rfl ?_
    refine y_getI C fX7_57 hk dX7_takeBack_23 26 rfl ?_
    refine y_iald C ((lay_7_5 hk).2) rfl dX7_takeBack_26 27 rfl rfl (fun _ => ?_)
    refine z_istore_n (lv' := [(1, vi ((up σ k 12 ((σ k 12) - 1)) (k + 5) (w32 ((up σ k 12 ((σ k 12) - 1)) k 12)))), (0, vr G k)]) C 1 rfl (by decide) dX7_takeBack_27 28 rfl rfl ?_
    refine z_aload_n C 0 rfl 1 rfl dX7_takeBack_28 29 rfl ?_
    refine y_getR C fX7_27 hk (lay_7_6 hk) dX7_takeBack_29 32 rfl ?_
    refine z_aload_n C 0 rfl 1 rfl dX7_takeBack_32 33 rfl ?_
    refine y_getI C fX7_57 hk dX7_takeBack_33 36 rfl ?_
    refine y_iald C ((lay_7_6 hk).2) rfl dX7_takeBack_36 37 rfl rfl (fun _ => ?_)
    refine z_istore_n (lv' := [(2, vi ((up σ k 12 ((σ k 12) - 1)) (k + 6) (w32 ((up σ k 12 ((σ k 12) - 1)) k 12)))), (1, vi ((up σ k 12 ((σ k 12) - 1)) (k + 5) (w32 ((up σ k 12 ((σ k 12) - 1)) k 12)))), (0, vr G k)]) C 2 rfl (by decide) dX7_takeBack_37 38 rfl rfl ?_
    refine z_aload_n C 0 rfl 2 rfl dX7_takeBack_38 39 rfl ?_
    refine y_getR C fX7_36 hk (lay_7_9 hk) dX7_takeBack_39 42 rfl ?_
    refine z_aload_n C 0 rfl 2 rfl dX7_takeBack_42 43 rfl ?_
    refine y_getI C fX7_57 hk dX7_takeBack_43 46 rfl ?_
    refine y_zald C ((lay_7_9 hk).2) rfl dX7_takeBack_46 47 rfl rfl (fun _ => ?_)
    refine z_if_eq C dX7_takeBack_47 68 (by decide) 50 rfl rfl (fun _ => ?_) (fun _ => ?_)
    · refine z_aload_n C 0 rfl 2 rfl dX7_takeBack_68 69 rfl ?_
      refine z_dup C rfl dX7_takeBack_69 70 rfl ?_
      refine y_getI C fX7_50 hk dX7_takeBack_70 73 rfl ?_
      refine z_iconst C dX7_takeBack_73 74 rfl ?_
      refine z_isub C dX7_takeBack_74 75 rfl ?_
      refine y_putI C fX7_50 hk ⟨rfl, rfl⟩ dX7_takeBack_75 78 rfl ?_
      refine z_aload_n C 0 rfl 2 rfl dX7_takeBack_78 79 rfl ?_
      refine y_getR C fX7_21 hk (lay_7_4 hk) dX7_takeBack_79 82 rfl ?_
      refine z_iload_n C 1 rfl 1 rfl dX7_takeBack_82 83 rfl ?_
      refine z_iconst C dX7_takeBack_83 84 rfl ?_
      refine y_iast C ((lay_7_4 hk).2) rfl dX7_takeBack_84 85 rfl rfl (fun _ => ?_)
      refine z_iload_n C 2 rfl 0 rfl dX7_takeBack_85 86 rfl ?_
      refine z_bipush C (by decide) dX7_takeBack_86 88 rfl ?_
      refine z_icmp_eq C dX7_takeBack_88 141 (by decide) 91 rfl rfl (w32_id (a := (-4)) (by decide)) (fun _ => ?_) (fun _ => ?_)
      · exact z_vret C R rfl rfl dX7_takeBack_141
      · refine z_aload_n C 0 rfl 2 rfl dX7_takeBack_91 92 rfl ?_
        refine y_getR C fX7_18 hk (lay_7_3 hk) dX7_takeBack_92 95 rfl ?_
        refine z_iload_n C 1 rfl 1 rfl dX7_takeBack_95 96 rfl ?_
        refine z_bipush C (by decide) dX7_takeBack_96 98 rfl ?_
        refine y_iast C ((lay_7_3 hk).2) rfl dX7_takeBack_98 99 rfl rfl (fun _ => ?_)
        refine z_aload_n C 0 rfl 2 rfl dX7_takeBack_99 100 rfl ?_
        refine y_getR C fX7_9 hk (lay_7_1 hk) dX7_takeBack_100 103 rfl ?_
        refine z_iload_n C 2 rfl 0 rfl dX7_takeBack_103 104 rfl ?_
        refine z_dup2 C rfl rfl dX7_takeBack_104 105 rfl ?_
        refine y_iald C ((lay_7_1 hk).2) rfl dX7_takeBack_105 106 rfl rfl (fun _ => ?_)
        refine z_iconst C dX7_takeBack_106 107 rfl ?_
        refine z_isub C dX7_takeBack_107 108 rfl ?_
        refine y_iast C ((lay_7_1 hk).2) rfl dX7_takeBack_108 109 rfl rfl (fun _ => ?_)
        refine z_aload_n C 0 rfl 2 rfl dX7_takeBack_109 110 rfl ?_
        refine y_getR C fX7_15 hk (lay_7_2 hk) dX7_takeBack_110 113 rfl ?_
        refine z_iload_n C 2 rfl 0 rfl dX7_takeBack_113 114 rfl ?_
        refine z_dup2 C rfl rfl dX7_takeBack_114 115 rfl ?_
        refine y_iald C ((lay_7_2 hk).2) rfl dX7_takeBack_115 116 rfl rfl (fun _ => ?_)
        refine z_aload_n C 0 rfl 2 rfl dX7_takeBack_116 117 rfl ?_
        refine y_getR C fX7_30 hk (lay_7_7 hk) dX7_takeBack_117 120 rfl ?_
        refine z_aload_n C 0 rfl 2 rfl dX7_takeBack_120 121 rfl ?_
        refine y_getI C fX7_57 hk dX7_takeBack_121 124 rfl ?_
        refine y_iald C ((lay_7_7 hk).2) rfl dX7_takeBack_124 125 rfl rfl (fun _ => ?_)
        refine z_isub C dX7_takeBack_125 126 rfl ?_
        refine y_iast C ((lay_7_2 hk).2) rfl dX7_takeBack_126 127 rfl rfl (fun _ => ?_)
        refine z_aload_n C 0 rfl 2 rfl dX7_takeBack_127 128 rfl ?_
        refine z_aload_n C 0 rfl 2 rfl dX7_takeBack_128 129 rfl ?_
        refine y_getR C fX7_33 hk (lay_7_8 hk) dX7_takeBack_129 132 rfl ?_
        refine z_aload_n C 0 rfl 2 rfl dX7_takeBack_132 133 rfl ?_
        refine y_getI C fX7_57 hk dX7_takeBack_133 136 rfl ?_
        refine y_iald C ((lay_7_8 hk).2) rfl dX7_takeBack_136 137 rfl rfl (fun _ => ?_)
        refine z_iload_n C 2 rfl 0 rfl dX7_takeBack_137 138 rfl ?_
        refine y_callVv C hR (tX7_takeBackDrop (mL X) G (up (up (up (up (up (up σ k 12 ((σ k 12) - 1)) k 10 (((up σ k 12 ((σ k 12) - 1)) k 10) - 1)) (k + 4) (w32 ((up σ k 12 ((σ k 12) - 1)) (k + 5) (w32 ((up σ k 12 ((σ k 12) - 1)) k 12)))) 0) (k + 3) (w32 ((up σ k 12 ((σ k 12) - 1)) (k + 5) (w32 ((up σ k 12 ((σ k 12) - 1)) k 12)))) ((-4))) (k + 1) (w32 ((up σ k 12 ((σ k 12) - 1)) (k + 6) (w32 ((up σ k 12 ((σ k 12) - 1)) k 12)))) (((up (up (up (up σ k 12 ((σ k 12) - 1)) k 10 (((up σ k 12 ((σ k 12) - 1)) k 10) - 1)) (k + 4) (w32 ((up σ k 12 ((σ k 12) - 1)) (k + 5) (w32 ((up σ k 12 ((σ k 12) - 1)) k 12)))) 0) (k + 3) (w32 ((up σ k 12 ((σ k 12) - 1)) (k + 5) (w32 ((up σ k 12 ((σ k 12) - 1)) k 12)))) ((-4))) (k + 1) (w32 ((up σ k 12 ((σ k 12) - 1)) (k + 6) (w32 ((up σ k 12 ((σ k 12) - 1)) k 12))))) - 1)) (k + 2) (w32 ((up σ k 12 ((σ k 12) - 1)) (k + 6) (w32 ((up σ k 12 ((σ k 12) - 1)) k 12)))) (((up (up (up (up (up σ k 12 ((σ k 12) - 1)) k 10 (((up σ k 12 ((σ k 12) - 1)) k 10) - 1)) (k + 4) (w32 ((up σ k 12 ((σ k 12) - 1)) (k + 5) (w32 ((up σ k 12 ((σ k 12) - 1)) k 12)))) 0) (k + 3) (w32 ((up σ k 12 ((σ k 12) - 1)) (k + 5) (w32 ((up σ k 12 ((σ k 12) - 1)) k 12)))) ((-4))) (k + 1) (w32 ((up σ k 12 ((σ k 12) - 1)) (k + 6) (w32 ((up σ k 12 ((σ k 12) - 1)) k 12)))) (((up (up (up (up σ k 12 ((σ k 12) - 1)) k 10 (((up σ k 12 ((σ k 12) - 1)) k 10) - 1)) (k + 4) (w32 ((up σ k 12 ((σ k 12) - 1)) (k + 5) (w32 ((up σ k 12 ((σ k 12) - 1)) k 12)))) 0) (k + 3) (w32 ((up σ k 12 ((σ k 12) - 1)) (k + 5) (w32 ((up σ k 12 ((σ k 12) - 1)) k 12)))) ((-4))) (k + 1) (w32 ((up σ k 12 ((σ k 12) - 1)) (k + 6) (w32 ((up σ k 12 ((σ k 12) - 1)) k 12))))) - 1)) (k + 2) (w32 ((up σ k 12 ((σ k 12) - 1)) (k + 6) (w32 ((up σ k 12 ((σ k 12) - 1)) k 12))))) - ((up (up (up (up (up σ k 12 ((σ k 12) - 1)) k 10 (((up σ k 12 ((σ k 12) - 1)) k 10) - 1)) (k + 4) (w32 ((up σ k 12 ((σ k 12) - 1)) (k + 5) (w32 ((up σ k 12 ((σ k 12) - 1)) k 12)))) 0) (k + 3) (w32 ((up σ k 12 ((σ k 12) - 1)) (k + 5) (w32 ((up σ k 12 ((σ k 12) - 1)) k 12)))) ((-4))) (k + 1) (w32 ((up σ k 12 ((σ k 12) - 1)) (k + 6) (w32 ((up σ k 12 ((σ k 12) - 1)) k 12)))) (((up (up (up (up σ k 12 ((σ k 12) - 1)) k 10 (((up σ k 12 ((σ k 12) - 1)) k 10) - 1)) (k + 4) (w32 ((up σ k 12 ((σ k 12) - 1)) (k + 5) (w32 ((up σ k 12 ((σ k 12) - 1)) k 12)))) 0) (k + 3) (w32 ((up σ k 12 ((σ k 12) - 1)) (k + 5) (w32 ((up σ k 12 ((σ k 12) - 1)) k 12)))) ((-4))) (k + 1) (w32 ((up σ k 12 ((σ k 12) - 1)) (k + 6) (w32 ((up σ k 12 ((σ k 12) - 1)) k 12))))) - 1)) (k + 7) (w32 ((up (up (up (up (up σ k 12 ((σ k 12) - 1)) k 10 (((up σ k 12 ((σ k 12) - 1)) k 10) - 1)) (k + 4) (w32 ((up σ k 12 ((σ k 12) - 1)) (k + 5) (w32 ((up σ k 12 ((σ k 12) - 1)) k 12)))) 0) (k + 3) (w32 ((up σ k 12 ((σ k 12) - 1)) (k + 5) (w32 ((up σ k 12 ((σ k 12) - 1)) k 12)))) ((-4))) (k + 1) (w32 ((up σ k 12 ((σ k 12) - 1)) (k + 6) (w32 ((up σ k 12 ((σ k 12) - 1)) k 12)))) (((up (up (up (up σ k 12 ((σ k 12) - 1)) k 10 (((up σ k 12 ((σ k 12) - 1)) k 10) - 1)) (k + 4) (w32 ((up σ k 12 ((σ k 12) - 1)) (k + 5) (w32 ((up σ k 12 ((σ k 12) - 1)) k 12)))) 0) (k + 3) (w32 ((up σ k 12 ((σ k 12) - 1)) (k + 5) (w32 ((up σ k 12 ((σ k 12) - 1)) k 12)))) ((-4))) (k + 1) (w32 ((up σ k 12 ((σ k 12) - 1)) (k + 6) (w32 ((up σ k 12 ((σ k 12) - 1)) k 12))))) - 1)) k 12))))) k ((up (up (up (up (up (up σ k 12 ((σ k 12) - 1)) k 10 (((up σ k 12 ((σ k 12) - 1)) k 10) - 1)) (k + 4) (w32 ((up σ k 12 ((σ k 12) - 1)) (k + 5) (w32 ((up σ k 12 ((σ k 12) - 1)) k 12)))) 0) (k + 3) (w32 ((up σ k 12 ((σ k 12) - 1)) (k + 5) (w32 ((up σ k 12 ((σ k 12) - 1)) k 12)))) ((-4))) (k + 1) (w32 ((up σ k 12 ((σ k 12) - 1)) (k + 6) (w32 ((up σ k 12 ((σ k 12) - 1)) k 12)))) (((up (up (up (up σ k 12 ((σ k 12) - 1)) k 10 (((up σ k 12 ((σ k 12) - 1)) k 10) - 1)) (k + 4) (w32 ((up σ k 12 ((σ k 12) - 1)) (k + 5) (w32 ((up σ k 12 ((σ k 12) - 1)) k 12)))) 0) (k + 3) (w32 ((up σ k 12 ((σ k 12) - 1)) (k + 5) (w32 ((up σ k 12 ((σ k 12) - 1)) k 12)))) ((-4))) (k + 1) (w32 ((up σ k 12 ((σ k 12) - 1)) (k + 6) (w32 ((up σ k 12 ((σ k 12) - 1)) k 12))))) - 1)) (k + 2) (w32 ((up σ k 12 ((σ k 12) - 1)) (k + 6) (w32 ((up σ k 12 ((σ k 12) - 1)) k 12)))) (((up (up (up (up (up σ k 12 ((σ k 12) - 1)) k 10 (((up σ k 12 ((σ k 12) - 1)) k 10) - 1)) (k + 4) (w32 ((up σ k 12 ((σ k 12) - 1)) (k + 5) (w32 ((up σ k 12 ((σ k 12) - 1)) k 12)))) 0) (k + 3) (w32 ((up σ k 12 ((σ k 12) - 1)) (k + 5) (w32 ((up σ k 12 ((σ k 12) - 1)) k 12)))) ((-4))) (k + 1) (w32 ((up σ k 12 ((σ k 12) - 1)) (k + 6) (w32 ((up σ k 12 ((σ k 12) - 1)) k 12)))) (((up (up (up (up σ k 12 ((σ k 12) - 1)) k 10 (((up σ k 12 ((σ k 12) - 1)) k 10) - 1)) (k + 4) (w32 ((up σ k 12 ((σ k 12) - 1)) (k + 5) (w32 ((up σ k 12 ((σ k 12) - 1)) k 12)))) 0) (k + 3) (w32 ((up σ k 12 ((σ k 12) - 1)) (k + 5) (w32 ((up σ k 12 ((σ k 12) - 1)) k 12)))) ((-4))) (k + 1) (w32 ((up σ k 12 ((σ k 12) - 1)) (k + 6) (w32 ((up σ k 12 ((σ k 12) - 1)) k 12))))) - 1)) (k + 2) (w32 ((up σ k 12 ((σ k 12) - 1)) (k + 6) (w32 ((up σ k 12 ((σ k 12) - 1)) k 12))))) - ((up (up (up (up (up σ k 12 ((σ k 12) - 1)) k 10 (((up σ k 12 ((σ k 12) - 1)) k 10) - 1)) (k + 4) (w32 ((up σ k 12 ((σ k 12) - 1)) (k + 5) (w32 ((up σ k 12 ((σ k 12) - 1)) k 12)))) 0) (k + 3) (w32 ((up σ k 12 ((σ k 12) - 1)) (k + 5) (w32 ((up σ k 12 ((σ k 12) - 1)) k 12)))) ((-4))) (k + 1) (w32 ((up σ k 12 ((σ k 12) - 1)) (k + 6) (w32 ((up σ k 12 ((σ k 12) - 1)) k 12)))) (((up (up (up (up σ k 12 ((σ k 12) - 1)) k 10 (((up σ k 12 ((σ k 12) - 1)) k 10) - 1)) (k + 4) (w32 ((up σ k 12 ((σ k 12) - 1)) (k + 5) (w32 ((up σ k 12 ((σ k 12) - 1)) k 12)))) 0) (k + 3) (w32 ((up σ k 12 ((σ k 12) - 1)) (k + 5) (w32 ((up σ k 12 ((σ k 12) - 1)) k 12)))) ((-4))) (k + 1) (w32 ((up σ k 12 ((σ k 12) - 1)) (k + 6) (w32 ((up σ k 12 ((σ k 12) - 1)) k 12))))) - 1)) (k + 7) (w32 ((up (up (up (up (up σ k 12 ((σ k 12) - 1)) k 10 (((up σ k 12 ((σ k 12) - 1)) k 10) - 1)) (k + 4) (w32 ((up σ k 12 ((σ k 12) - 1)) (k + 5) (w32 ((up σ k 12 ((σ k 12) - 1)) k 12)))) 0) (k + 3) (w32 ((up σ k 12 ((σ k 12) - 1)) (k + 5) (w32 ((up σ k 12 ((σ k 12) - 1)) k 12)))) ((-4))) (k + 1) (w32 ((up σ k 12 ((σ k 12) - 1)) (k + 6) (w32 ((up σ k 12 ((σ k 12) - 1)) k 12)))) (((up (up (up (up σ k 12 ((σ k 12) - 1)) k 10 (((up σ k 12 ((σ k 12) - 1)) k 10) - 1)) (k + 4) (w32 ((up σ k 12 ((σ k 12) - 1)) (k + 5) (w32 ((up σ k 12 ((σ k 12) - 1)) k 12)))) 0) (k + 3) (w32 ((up σ k 12 ((σ k 12) - 1)) (k + 5) (w32 ((up σ k 12 ((σ k 12) - 1)) k 12)))) ((-4))) (k + 1) (w32 ((up σ k 12 ((σ k 12) - 1)) (k + 6) (w32 ((up σ k 12 ((σ k 12) - 1)) k 12))))) - 1)) k 12))))) (k + 8) (w32 ((up (up (up (up (up (up σ k 12 ((σ k 12) - 1)) k 10 (((up σ k 12 ((σ k 12) - 1)) k 10) - 1)) (k + 4) (w32 ((up σ k 12 ((σ k 12) - 1)) (k + 5) (w32 ((up σ k 12 ((σ k 12) - 1)) k 12)))) 0) (k + 3) (w32 ((up σ k 12 ((σ k 12) - 1)) (k + 5) (w32 ((up σ k 12 ((σ k 12) - 1)) k 12)))) ((-4))) (k + 1) (w32 ((up σ k 12 ((σ k 12) - 1)) (k + 6) (w32 ((up σ k 12 ((σ k 12) - 1)) k 12)))) (((up (up (up (up σ k 12 ((σ k 12) - 1)) k 10 (((up σ k 12 ((σ k 12) - 1)) k 10) - 1)) (k + 4) (w32 ((up σ k 12 ((σ k 12) - 1)) (k + 5) (w32 ((up σ k 12 ((σ k 12) - 1)) k 12)))) 0) (k + 3) (w32 ((up σ k 12 ((σ k 12) - 1)) (k + 5) (w32 ((up σ k 12 ((σ k 12) - 1)) k 12)))) ((-4))) (k + 1) (w32 ((up σ k 12 ((σ k 12) - 1)) (k + 6) (w32 ((up σ k 12 ((σ k 12) - 1)) k 12))))) - 1)) (k + 2) (w32 ((up σ k 12 ((σ k 12) - 1)) (k + 6) (w32 ((up σ k 12 ((σ k 12) - 1)) k 12)))) (((up (up (up (up (up σ k 12 ((σ k 12) - 1)) k 10 (((up σ k 12 ((σ k 12) - 1)) k 10) - 1)) (k + 4) (w32 ((up σ k 12 ((σ k 12) - 1)) (k + 5) (w32 ((up σ k 12 ((σ k 12) - 1)) k 12)))) 0) (k + 3) (w32 ((up σ k 12 ((σ k 12) - 1)) (k + 5) (w32 ((up σ k 12 ((σ k 12) - 1)) k 12)))) ((-4))) (k + 1) (w32 ((up σ k 12 ((σ k 12) - 1)) (k + 6) (w32 ((up σ k 12 ((σ k 12) - 1)) k 12)))) (((up (up (up (up σ k 12 ((σ k 12) - 1)) k 10 (((up σ k 12 ((σ k 12) - 1)) k 10) - 1)) (k + 4) (w32 ((up σ k 12 ((σ k 12) - 1)) (k + 5) (w32 ((up σ k 12 ((σ k 12) - 1)) k 12)))) 0) (k + 3) (w32 ((up σ k 12 ((σ k 12) - 1)) (k + 5) (w32 ((up σ k 12 ((σ k 12) - 1)) k 12)))) ((-4))) (k + 1) (w32 ((up σ k 12 ((σ k 12) - 1)) (k + 6) (w32 ((up σ k 12 ((σ k 12) - 1)) k 12))))) - 1)) (k + 2) (w32 ((up σ k 12 ((σ k 12) - 1)) (k + 6) (w32 ((up σ k 12 ((σ k 12) - 1)) k 12))))) - ((up (up (up (up (up σ k 12 ((σ k 12) - 1)) k 10 (((up σ k 12 ((σ k 12) - 1)) k 10) - 1)) (k + 4) (w32 ((up σ k 12 ((σ k 12) - 1)) (k + 5) (w32 ((up σ k 12 ((σ k 12) - 1)) k 12)))) 0) (k + 3) (w32 ((up σ k 12 ((σ k 12) - 1)) (k + 5) (w32 ((up σ k 12 ((σ k 12) - 1)) k 12)))) ((-4))) (k + 1) (w32 ((up σ k 12 ((σ k 12) - 1)) (k + 6) (w32 ((up σ k 12 ((σ k 12) - 1)) k 12)))) (((up (up (up (up σ k 12 ((σ k 12) - 1)) k 10 (((up σ k 12 ((σ k 12) - 1)) k 10) - 1)) (k + 4) (w32 ((up σ k 12 ((σ k 12) - 1)) (k + 5) (w32 ((up σ k 12 ((σ k 12) - 1)) k 12)))) 0) (k + 3) (w32 ((up σ k 12 ((σ k 12) - 1)) (k + 5) (w32 ((up σ k 12 ((σ k 12) - 1)) k 12)))) ((-4))) (k + 1) (w32 ((up σ k 12 ((σ k 12) - 1)) (k + 6) (w32 ((up σ k 12 ((σ k 12) - 1)) k 12))))) - 1)) (k + 7) (w32 ((up (up (up (up (up σ k 12 ((σ k 12) - 1)) k 10 (((up σ k 12 ((σ k 12) - 1)) k 10) - 1)) (k + 4) (w32 ((up σ k 12 ((σ k 12) - 1)) (k + 5) (w32 ((up σ k 12 ((σ k 12) - 1)) k 12)))) 0) (k + 3) (w32 ((up σ k 12 ((σ k 12) - 1)) (k + 5) (w32 ((up σ k 12 ((σ k 12) - 1)) k 12)))) ((-4))) (k + 1) (w32 ((up σ k 12 ((σ k 12) - 1)) (k + 6) (w32 ((up σ k 12 ((σ k 12) - 1)) k 12)))) (((up (up (up (up σ k 12 ((σ k 12) - 1)) k 10 (((up σ k 12 ((σ k 12) - 1)) k 10) - 1)) (k + 4) (w32 ((up σ k 12 ((σ k 12) - 1)) (k + 5) (w32 ((up σ k 12 ((σ k 12) - 1)) k 12)))) 0) (k + 3) (w32 ((up σ k 12 ((σ k 12) - 1)) (k + 5) (w32 ((up σ k 12 ((σ k 12) - 1)) k 12)))) ((-4))) (k + 1) (w32 ((up σ k 12 ((σ k 12) - 1)) (k + 6) (w32 ((up σ k 12 ((σ k 12) - 1)) k 12))))) - 1)) k 12))))) k 12))) ((up σ k 12 ((σ k 12) - 1)) (k + 6) (w32 ((up σ k 12 ((σ k 12) - 1)) k 12))) hk) ⟨mwX7_takeBackDrop, mvX7_takeBackDrop, lkX7_160⟩ hk rfl rfl (Nat.le_of_ble_eq_true rfl) (by unfold rmOK; decide) dX7_takeBack_138 141 rfl (fun r1 _ => ?_)
        exact z_vret C R rfl rfl dX7_takeBack_141
    · refine z_aload_n C 0 rfl 2 rfl dX7_takeBack_50 51 rfl ?_
      refine y_getR C fX7_18 hk (lay_7_3 hk) dX7_takeBack_51 54 rfl ?_
      refine z_iload_n C 1 rfl 1 rfl dX7_takeBack_54 55 rfl ?_
      refine z_iload_n C 2 rfl 0 rfl dX7_takeBack_55 56 rfl ?_
      refine y_iast C ((lay_7_3 hk).2) rfl dX7_takeBack_56 57 rfl rfl (fun _ => ?_)
      refine z_aload_n C 0 rfl 2 rfl dX7_takeBack_57 58 rfl ?_
      refine y_getR C fX7_9 hk (lay_7_1 hk) dX7_takeBack_58 61 rfl ?_
      refine z_iload_n C 2 rfl 0 rfl dX7_takeBack_61 62 rfl ?_
      refine z_dup2 C rfl rfl dX7_takeBack_62 63 rfl ?_
      refine y_iald C ((lay_7_1 hk).2) rfl dX7_takeBack_63 64 rfl rfl (fun _ => ?_)
      refine z_iconst C dX7_takeBack_64 65 rfl ?_
      refine z_iadd C dX7_takeBack_65 66 rfl ?_
      refine y_iast C ((lay_7_1 hk).2) rfl dX7_takeBack_66 67 rfl rfl (fun _ => ?_)
      exact z_vret C R rfl rfl dX7_takeBack_67
  · exact z_vret C R rfl rfl dX7_takeBack_7
-- goAway
def gX7_goAway (σ : St) (k : Int) (x1 : Int) : Option (Int × St) := gd (0 ≤ w32 x1 ∧ w32 x1 < 9) (gd (0 ≤ w32 x1 ∧ w32 x1 < 9) (gd (0 ≤ w32 (σ (k + 3) (w32 x1)) ∧ w32 (σ (k + 3) (w32 x1)) < 6) (gd (0 ≤ w32 (σ (k + 3) (w32 x1)) ∧ w32 (σ (k + 3) (w32 x1)) < 6) ((gX7_note (up (up σ (k + 3) (w32 x1) ((-4))) (k + 1) (w32 (σ (k + 3) (w32 x1))) (((up σ (k + 3) (w32 x1) ((-4))) (k + 1) (w32 (σ (k + 3) (w32 x1)))) - 1)) k x1 (σ (k + 3) (w32 x1)) 0 ((-4)) 1).bind fun r1 => some (σ (k + 3) (w32 x1), r1)))))
def rmX7_goAway : Room := { frames := 1, cells := 0, slots := 0, locals := 25 }
set_option maxRecDepth 100000 in
set_option maxHeartbeats 4000000 in
theorem tX7_goAway (l : Launch) (G : GG) (σ : St) (k : Int) (x1 : Int) (hk : isK k (0, 7)) : Ctr l G yX7_goAway cX7_goAway 3 (some .int) rmX7_goAway [vr G k, vi x1] (w0 σ) vzIw wzW (gX7_goAway σ k x1) := by
  refine ctr_of (by decide) (Nat.le_of_ble_eq_true rfl) mwX7_goAway.1 (fun X hl hR C R hnm => ?_)
  subst hl
  refine z_lv (lv' := [(0, vr G k), (1, vi x1)]) [0, 1] rfl ?_
  show ZZ X G 3 (QM X G vzIw wzW (0, 0)) (0, 0) (gd (0 ≤ w32 x1 ∧ w32 x1 < 9) (gd (0 ≤ w32 x1 ∧ w32 x1 < 9) (gd (0 ≤ w32 (σ (k + 3) (w32 x1)) ∧ w32 (σ (k + 3) (w32 x1)) < 6) (gd (0 ≤ w32 (σ (k + 3) (w32 x1)) ∧ w32 (σ (k + 3) (w32 x1)) < 6) ((gX7_note (up (up σ (k + 3) (w32 x1) ((-4))) (k + 1) (w32 (σ (k + 3) (w32 x1))) (((up σ (k + 3) (w32 x1) ((-4))) (k + 1) (w32 (σ (k + 3) (w32 x1)))) - 1)) k x1 (σ (k + 3) (w32 x1)) 0 ((-4)) 1).bind fun r1 => some (σ (k + 3) (w32 x1), r1)))))) (w0 σ) 0 [(0, vr G k), (1, vi x1)] []
  refine z_aload_n C 0 rfl 0 rfl dX7_goAway_0 1 rfl ?_
  refine y_getR C fX7_18 hk (lay_7_3 hk) dX7_goAway_1 4 rfl ?_
  refine z_iload_n C 1 rfl 1 rfl dX7_goAway_4 5 rfl ?_
  refine y_iald C ((lay_7_3 hk).2) rfl dX7_goAway_5 6 rfl rfl (fun _ => ?_)
  refine z_istore_n (lv' := [(2, vi (σ (k + 3) (w32 x1))), (0, vr G k), (1, vi x1)]) C 2 rfl (by decide) dX7_goAway_6 7 rfl rfl ?_
  refine z_aload_n C 0 rfl 1 rfl dX7_goAway_7 8 rfl ?_
  refine y_getR C fX7_18 hk (lay_7_3 hk) dX7_goAway_8 11 rfl ?_
  refine z_iload_n C 1 rfl 2 rfl dX7_goAway_11 12 rfl ?_
  refine z_bipush C (by decide) dX7_goAway_12 14 rfl ?_
  refine y_iast C ((lay_7_3 hk).2) rfl dX7_goAway_14 15 rfl rfl (fun _ => ?_)
  refine z_aload_n C 0 rfl 1 rfl dX7_goAway_15 16 rfl ?_
  refine y_getR C fX7_9 hk (lay_7_1 hk) dX7_goAway_16 19 rfl ?_
  refine z_iload_n C 2 rfl 0 rfl dX7_goAway_19 20 rfl ?_
  refine z_dup2 C rfl rfl dX7_goAway_20 21 rfl ?_
  refine y_iald C ((lay_7_1 hk).2) rfl dX7_goAway_21 22 rfl rfl (fun _ => ?_)
  refine z_iconst C dX7_goAway_22 23 rfl ?_
  refine z_isub C dX7_goAway_23 24 rfl ?_
  refine y_iast C ((lay_7_1 hk).2) rfl dX7_goAway_24 25 rfl rfl (fun _ => ?_)
  refine z_aload_n C 0 rfl 1 rfl dX7_goAway_25 26 rfl ?_
  refine z_iload_n C 1 rfl 2 rfl dX7_goAway_26 27 rfl ?_
  refine z_iload_n C 2 rfl 0 rfl dX7_goAway_27 28 rfl ?_
  refine z_iconst C dX7_goAway_28 29 rfl ?_
  refine z_bipush C (by decide) dX7_goAway_29 31 rfl ?_
  refine z_iconst C dX7_goAway_31 32 rfl ?_
  refine y_callVv C hR (tX7_note (mL X) G (up (up σ (k + 3) (w32 x1) ((-4))) (k + 1) (w32 (σ (k + 3) (w32 x1))) (((up σ (k + 3) (w32 x1) ((-4))) (k + 1) (w32 (σ (k + 3) (w32 x1)))) - 1)) k x1 (σ (k + 3) (w32 x1)) 0 ((-4)) 1 hk) ⟨mwX7_note, mvX7_note, lkX7_156⟩ hk rfl rfl (Nat.le_of_ble_eq_true rfl) (by unfold rmOK; decide) dX7_goAway_32 35 rfl (fun r1 _ => ?_)
  refine z_iload_n C 2 rfl 0 rfl dX7_goAway_35 36 rfl ?_
  exact z_iret C R rfl rfl dX7_goAway_36
