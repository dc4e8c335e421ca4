-- isIn
def gX10_isIn (σ : St) (x0 : Int) (x1 : Int) (x2 : Int) : Option (Int) := if w32 x0 < w32 x1 then some 0 else if w32 x0 > w32 x2 then some 0 else some 1
def rmX10_isIn : Room := { frames := 0, cells := 0, slots := 0, locals := 0 }
set_option maxRecDepth 100000 in
set_option maxHeartbeats 4000000 in
theorem tX10_isIn (l : Launch) (G : GG) (σ : St) (x0 : Int) (x1 : Int) (x2 : Int) : Ctr l G yX10_isIn cX10_isIn 3 (some .boolean) rmX10_isIn [vi x0, vi x1, vi x2] (w0 σ) vzI (wzR σ) (gX10_isIn σ x0 x1 x2) := by
  refine ctr_of (by decide) (Nat.le_of_ble_eq_true rfl) mwX10_isIn.1 (fun X hl hR C R hnm => ?_)
  subst hl
  refine z_lv (lv' := [(0, vi x0), (1, vi x1), (2, vi x2)]) [0, 1, 2] rfl ?_
  show ZZ X G 3 (QM X G vzI (wzR σ) (0, 0)) (0, 0) (if w32 x0 < w32 x1 then some 0 else if w32 x0 > w32 x2 then some 0 else some 1) (w0 σ) 0 [(0, vi x0), (1, vi x1), (2, vi x2)] []
  refine z_iload_n C 0 rfl 0 rfl dX10_isIn_0 1 rfl ?_
  refine z_iload_n C 1 rfl 1 rfl dX10_isIn_1 2 rfl ?_
  refine z_icmp_lt C dX10_isIn_2 14 (by decide) 5 rfl rfl rfl (fun _ => ?_) (fun _ => ?_)
  · refine z_iconst C dX10_isIn_14 15 rfl ?_
    exact z_zret C R nz0 rfl rfl dX10_isIn_15
  · refine z_iload_n C 0 rfl 0 rfl dX10_isIn_5 6 rfl ?_
    refine z_iload_n C 2 rfl 2 rfl dX10_isIn_6 7 rfl ?_
    refine z_icmp_gt C dX10_isIn_7 14 (by decide) 10 rfl rfl rfl (fun _ => ?_) (fun _ => ?_)
    · refine z_iconst C dX10_isIn_14 15 rfl ?_
      exact z_zret C R nz0 rfl rfl dX10_isIn_15
    · refine z_iconst C dX10_isIn_10 11 rfl ?_
      refine z_goto C dX10_isIn_11 15 (by decide) ?_
      exact z_zret C R nz1 rfl rfl dX10_isIn_15
-- post
def gX10_post (F : Nat) (σ : St) (x1 : Int) (x2 : Int) (x3 : Int) : Option (Int × St) := (gX10_isIn σ x1 1 3).bind fun r1 => if w32 r1 = 0 then some ((-1), σ) else (gX10_isIn σ x2 0 99).bind fun r2 => if w32 r2 = 0 then some ((-1), σ) else (gX10_isIn σ x3 1 999).bind fun r3 => if w32 r3 ≠ 0 then if w32 (σ 7 10) ≤ 0 then if w32 (σ 1 5) ≥ 6 then some ((-3), σ) else (gX0_allRooms F σ 1).bind fun r4 => if w32 (r4 + x1) ≤ 10 then (gX0_addPost σ 1 x1 x2 x3).bind fun r5 => some (r5.1, r5.2) else some ((-3), σ) else some ((-2), σ) else some ((-1), σ)
def rmX10_post : Room := { frames := 1, cells := 0, slots := 0, locals := 23 }
set_option maxRecDepth 100000 in
set_option maxHeartbeats 4000000 in
theorem tX10_post (l : Launch) (G : GG) (F : Nat) (σ : St) (x1 : Int) (x2 : Int) (x3 : Int) : Ctr l G yX10_post cX10_post 4 (some .int) rmX10_post [vr G 0, vi x1, vi x2, vi x3] (w0 σ) vzIw wzW (gX10_post F σ x1 x2 x3) := by
  refine ctr_of (by decide) (Nat.le_of_ble_eq_true rfl) mwX10_post.1 (fun X hl hR C R hnm => ?_)
  subst hl
  refine z_lv (lv' := [(0, vr G 0), (1, vi x1), (2, vi x2), (3, vi x3)]) [0, 1, 2, 3] rfl ?_
  show ZZ X G 4 (QM X G vzIw wzW (0, 0)) (0, 0) ((gX10_isIn σ x1 1 3).bind fun r1 => if w32 r1 = 0 then some ((-1), σ) else (gX10_isIn σ x2 0 99).bind fun r2 => if w32 r2 = 0 then some ((-1), σ) else (gX10_isIn σ x3 1 999).bind fun r3 => if w32 r3 ≠ 0 then if w32 (σ 7 10) ≤ 0 then if w32 (σ 1 5) ≥ 6 then some ((-3), σ) else (gX0_allRooms F σ 1).bind fun r4 => if w32 (r4 + x1) ≤ 10 then (gX0_addPost σ 1 x1 x2 x3).bind fun r5 => some (r5.1, r5.2) else some ((-3), σ) else some ((-2), σ) else some ((-1), σ)) (w0 σ) 0 [(0, vr G 0), (1, vi x1), (2, vi x2), (3, vi x3)] []
  refine z_iload_n C 1 rfl 1 rfl dX10_post_0 1 rfl ?_
  refine z_iconst C dX10_post_1 2 rfl ?_
  refine z_iconst C dX10_post_2 3 rfl ?_
  refine y_callSI C hR (tX10_isIn (mL X) G σ x1 1 3) ⟨mwX10_isIn, msX10_isIn, lkX10_76⟩ rfl rfl (Nat.le_of_ble_eq_true rfl) (by unfold rmOK; decide) dX10_post_3 6 rfl (fun r1 _ => ?_)
  refine z_if_eq C dX10_post_6 30 (by decide) 9 rfl rfl (fun _ => ?_) (fun _ => ?_)
  · refine z_iconst C dX10_post_30 31 rfl ?_
    exact z_iret C R rfl rfl dX10_post_31
  · refine z_iload_n C 2 rfl 2 rfl dX10_post_9 10 rfl ?_
    refine z_iconst C dX10_post_10 11 rfl ?_
    refine z_bipush C (by decide) dX10_post_11 13 rfl ?_
    refine y_callSI C hR (tX10_isIn (mL X) G σ x2 0 99) ⟨mwX10_isIn, msX10_isIn, lkX10_76⟩ rfl rfl (Nat.le_of_ble_eq_true rfl) (by unfold rmOK; decide) dX10_post_13 16 rfl (fun r2 _ => ?_)
    refine z_if_eq C dX10_post_16 30 (by decide) 19 rfl rfl (fun _ => ?_) (fun _ => ?_)
    · refine z_iconst C dX10_post_30 31 rfl ?_
      exact z_iret C R rfl rfl dX10_post_31
    · refine z_iload_n C 3 rfl 3 rfl dX10_post_19 20 rfl ?_
      refine z_iconst C dX10_post_20 21 rfl ?_
      refine z_sipush C (by decide) dX10_post_21 24 rfl ?_
      refine y_callSI C hR (tX10_isIn (mL X) G σ x3 1 999) ⟨mwX10_isIn, msX10_isIn, lkX10_76⟩ rfl rfl (Nat.le_of_ble_eq_true rfl) (by unfold rmOK; decide) dX10_post_24 27 rfl (fun r3 _ => ?_)
      refine z_if_ne C dX10_post_27 32 (by decide) 30 rfl rfl (fun _ => ?_) (fun _ => ?_)
      · refine z_aload_n C 0 rfl 0 rfl dX10_post_32 33 rfl ?_
        refine y_getR C fX10_21 one_10 lay_10_1 dX10_post_33 36 rfl ?_
        refine y_getI C fX10_80 lay_10_1.2 dX10_post_36 39 rfl ?_
        refine z_if_le C dX10_post_39 45 (by decide) 42 rfl rfl (fun _ => ?_) (fun _ => ?_)
        · refine z_aload_n C 0 rfl 0 rfl dX10_post_45 46 rfl ?_
          refine y_getR C fX10_10 one_10 lay_10_0 dX10_post_46 49 rfl ?_
          refine y_getI C fX10_84 lay_10_0.2 dX10_post_49 52 rfl ?_
          refine z_bipush C (by decide) dX10_post_52 54 rfl ?_
          refine z_icmp_ge C dX10_post_54 71 (by decide) 57 rfl rfl (w32_id (a := 6) (by decide)) (fun _ => ?_) (fun _ => ?_)
          · refine z_bipush C (by decide) dX10_post_71 73 rfl ?_
            exact z_iret C R rfl rfl dX10_post_73
          · refine z_aload_n C 0 rfl 0 rfl dX10_post_57 58 rfl ?_
            refine y_getR C fX10_10 one_10 lay_10_0 dX10_post_58 61 rfl ?_
            refine y_callVI C hR (tX0_allRooms (mL X) G F σ 1 lay_10_0.2) ⟨mwX0_allRooms, mvX0_allRooms, lkX10_87⟩ lay_10_0.2 rfl rfl (Nat.le_of_ble_eq_true rfl) (by unfold rmOK; decide) dX10_post_61 64 rfl (fun r4 _ => ?_)
            refine z_iload_n C 1 rfl 1 rfl dX10_post_64 65 rfl ?_
            refine z_iadd C dX10_post_65 66 rfl ?_
            refine z_bipush C (by decide) dX10_post_66 68 rfl ?_
            refine z_icmp_le C dX10_post_68 74 (by decide) 71 rfl rfl (w32_id (a := 10) (by decide)) (fun _ => ?_) (fun _ => ?_)
            · refine z_aload_n C 0 rfl 0 rfl dX10_post_74 75 rfl ?_
              refine y_getR C fX10_10 one_10 lay_10_0 dX10_post_75 78 rfl ?_
              refine z_iload_n C 1 rfl 1 rfl dX10_post_78 79 rfl ?_
              refine z_iload_n C 2 rfl 2 rfl dX10_post_79 80 rfl ?_
              refine z_iload_n C 3 rfl 3 rfl dX10_post_80 81 rfl ?_
              refine y_callVIw C hR (tX0_addPost (mL X) G σ 1 x1 x2 x3 lay_10_0.2) ⟨mwX0_addPost, mvX0_addPost, lkX10_91⟩ lay_10_0.2 rfl rfl (Nat.le_of_ble_eq_true rfl) (by unfold rmOK; decide) dX10_post_81 84 rfl (fun r5 _ => ?_)
              exact z_iret C R rfl rfl dX10_post_84
            · refine z_bipush C (by decide) dX10_post_71 73 rfl ?_
              exact z_iret C R rfl rfl dX10_post_73
        · refine z_bipush C (by decide) dX10_post_42 44 rfl ?_
          exact z_iret C R rfl rfl dX10_post_44
      · refine z_iconst C dX10_post_30 31 rfl ?_
        exact z_iret C R rfl rfl dX10_post_31
-- guest
def gX10_guest (σ : St) : Option (Int × St) := if w32 (σ 1 6) < 9 then (gX0_addGuest σ 1).bind fun r1 => some (r1.1, r1.2) else some ((-3), σ)
def rmX10_guest : Room := { frames := 1, cells := 0, slots := 0, locals := 20 }
set_option maxRecDepth 100000 in
set_option maxHeartbeats 4000000 in
theorem tX10_guest (l : Launch) (G : GG) (σ : St) : Ctr l G yX10_guest cX10_guest 1 (some .int) rmX10_guest [vr G 0] (w0 σ) vzIw wzW (gX10_guest σ) := by
  refine ctr_of (by decide) (Nat.le_of_ble_eq_true rfl) mwX10_guest.1 (fun X hl hR C R hnm => ?_)
  subst hl
  refine z_lv (lv' := [(0, vr G 0)]) [0] rfl ?_
  show ZZ X G 1 (QM X G vzIw wzW (0, 0)) (0, 0) (if w32 (σ 1 6) < 9 then (gX0_addGuest σ 1).bind fun r1 => some (r1.1, r1.2) else some ((-3), σ)) (w0 σ) 0 [(0, vr G 0)] []
  refine z_aload_n C 0 rfl 0 rfl dX10_guest_0 1 rfl ?_
  refine y_getR C fX10_10 one_10 lay_10_0 dX10_guest_1 4 rfl ?_
  refine y_getI C fX10_95 lay_10_0.2 dX10_guest_4 7 rfl ?_
  refine z_bipush C (by decide) dX10_guest_7 9 rfl ?_
  refine z_icmp_lt C dX10_guest_9 17 (by decide) 12 rfl rfl (w32_id (a := 9) (by decide)) (fun _ => ?_) (fun _ => ?_)
  · refine z_aload_n C 0 rfl 0 rfl dX10_guest_17 18 rfl ?_
    refine y_getR C fX10_10 one_10 lay_10_0 dX10_guest_18 21 rfl ?_
    refine y_callVIw C hR (tX0_addGuest (mL X) G σ 1 lay_10_0.2) ⟨mwX0_addGuest, mvX0_addGuest, lkX10_98⟩ lay_10_0.2 rfl rfl (Nat.le_of_ble_eq_true rfl) (by unfold rmOK; decide) dX10_guest_21 24 rfl (fun r1 _ => ?_)
    exact z_iret C R rfl rfl dX10_guest_24
  · refine z_bipush C (by decide) dX10_guest_12 14 rfl ?_
    refine z_goto C dX10_guest_14 24 (by decide) ?_
    exact z_iret C R rfl rfl dX10_guest_24
-- isGuest
def gX10_isGuest (σ : St) (x1 : Int) : Option (Int) := if w32 x1 < 0 then some 0 else if w32 x1 ≥ w32 (σ 1 6) then some 0 else some 1
def rmX10_isGuest : Room := { frames := 0, cells := 0, slots := 0, locals := 0 }
set_option maxRecDepth 100000 in
set_option maxHeartbeats 4000000 in
theorem tX10_isGuest (l : Launch) (G : GG) (σ : St) (x1 : Int) : Ctr l G yX10_isGuest cX10_isGuest 2 (some .boolean) rmX10_isGuest [vr G 0, vi x1] (w0 σ) vzI (wzR σ) (gX10_isGuest σ x1) := by
  refine ctr_of (by decide) (Nat.le_of_ble_eq_true rfl) mwX10_isGuest.1 (fun X hl hR C R hnm => ?_)
  subst hl
  refine z_lv (lv' := [(0, vr G 0), (1, vi x1)]) [0, 1] rfl ?_
  show ZZ X G 2 (QM X G vzI (wzR σ) (0, 0)) (0, 0) (if w32 x1 < 0 then some 0 else if w32 x1 ≥ w32 (σ 1 6) then some 0 else some 1) (w0 σ) 0 [(0, vr G 0), (1, vi x1)] []
  refine z_iload_n C 1 rfl 1 rfl dX10_isGuest_0 1 rfl ?_
  refine z_if_lt C dX10_isGuest_1 19 (by decide) 4 rfl rfl (fun _ => ?_) (fun _ => ?_)
  · refine z_iconst C dX10_isGuest_19 20 rfl ?_
    exact z_zret C R nz0 rfl rfl dX10_isGuest_20
  · refine z_iload_n C 1 rfl 1 rfl dX10_isGuest_4 5 rfl ?_
    refine z_aload_n C 0 rfl 0 rfl dX10_isGuest_5 6 rfl ?_
    refine y_getR C fX10_10 one_10 lay_10_0 dX10_isGuest_6 9 rfl ?_
    refine y_getI C fX10_95 lay_10_0.2 dX10_isGuest_9 12 rfl ?_
    refine z_icmp_ge C dX10_isGuest_12 19 (by decide) 15 rfl rfl rfl (fun _ => ?_) (fun _ => ?_)
    · refine z_iconst C dX10_isGuest_19 20 rfl ?_
      exact z_zret C R nz0 rfl rfl dX10_isGuest_20
    · refine z_iconst C dX10_isGuest_15 16 rfl ?_
      refine z_goto C dX10_isGuest_16 20 (by decide) ?_
      exact z_zret C R nz1 rfl rfl dX10_isGuest_20
-- isPost
def gX10_isPost (σ : St) (x1 : Int) : Option (Int) := if w32 x1 < 0 then some 0 else if w32 x1 ≥ w32 (σ 1 5) then some 0 else some 1
def rmX10_isPost : Room := { frames := 0, cells := 0, slots := 0, locals := 0 }
set_option maxRecDepth 100000 in
set_option maxHeartbeats 4000000 in
theorem tX10_isPost (l : Launch) (G : GG) (σ : St) (x1 : Int) : Ctr l G yX10_isPost cX10_isPost 2 (some .boolean) rmX10_isPost [vr G 0, vi x1] (w0 σ) vzI (wzR σ) (gX10_isPost σ x1) := by
  refine ctr_of (by decide) (Nat.le_of_ble_eq_true rfl) mwX10_isPost.1 (fun X hl hR C R hnm => ?_)
  subst hl
  refine z_lv (lv' := [(0, vr G 0), (1, vi x1)]) [0, 1] rfl ?_
  show ZZ X G 2 (QM X G vzI (wzR σ) (0, 0)) (0, 0) (if w32 x1 < 0 then some 0 else if w32 x1 ≥ w32 (σ 1 5) then some 0 else some 1) (w0 σ) 0 [(0, vr G 0), (1, vi x1)] []
  refine z_iload_n C 1 rfl 1 rfl dX10_isPost_0 1 rfl ?_
  refine z_if_lt C dX10_isPost_1 19 (by decide) 4 rfl rfl (fun _ => ?_) (fun _ => ?_)
  · refine z_iconst C dX10_isPost_19 20 rfl ?_
    exact z_zret C R nz0 rfl rfl dX10_isPost_20
  · refine z_iload_n C 1 rfl 1 rfl dX10_isPost_4 5 rfl ?_
    refine z_aload_n C 0 rfl 0 rfl dX10_isPost_5 6 rfl ?_
    refine y_getR C fX10_10 one_10 lay_10_0 dX10_isPost_6 9 rfl ?_
    refine y_getI C fX10_84 lay_10_0.2 dX10_isPost_9 12 rfl ?_
    refine z_icmp_ge C dX10_isPost_12 19 (by decide) 15 rfl rfl rfl (fun _ => ?_) (fun _ => ?_)
    · refine z_iconst C dX10_isPost_19 20 rfl ?_
      exact z_zret C R nz0 rfl rfl dX10_isPost_20
    · refine z_iconst C dX10_isPost_15 16 rfl ?_
      refine z_goto C dX10_isPost_16 20 (by decide) ?_
      exact z_zret C R nz1 rfl rfl dX10_isPost_20
-- worth
def gX10_worth (σ : St) (x1 : Int) (x2 : Int) (x3 : Int) : Option (Int × St) := (gX10_isGuest σ x1).bind fun r1 => if w32 r1 = 0 then some ((-1), σ) else (gX10_isPost σ x2).bind fun r2 => if w32 r2 = 0 then some ((-1), σ) else (gX10_isIn σ x3 0 99).bind fun r3 => if w32 r3 ≠ 0 then (gX7_hasCome σ 7 x1).bind fun r4 => if w32 r4 = 0 then (gX0_worthAt σ 1 x1 x2).bind fun r5 => (gX0_putWorth σ 1 x1 x2 x3).bind fun r6 => some (r5, r6) else some ((-2), σ) else some ((-1), σ)
def rmX10_worth : Room := { frames := 1, cells := 0, slots := 0, locals := 23 }
set_option maxRecDepth 100000 in
set_option maxHeartbeats 4000000 in
theorem tX10_worth (l : Launch) (G : GG) (σ : St) (x1 : Int) (x2 : Int) (x3 : Int) : Ctr l G yX10_worth cX10_worth 5 (some .int) rmX10_worth [vr G 0, vi x1, vi x2, vi x3] (w0 σ) vzIw wzW (gX10_worth σ x1 x2 x3) := by
  refine ctr_of (by decide) (Nat.le_of_ble_eq_true rfl) mwX10_worth.1 (fun X hl hR C R hnm => ?_)
  subst hl
  refine z_lv (lv' := [(0, vr G 0), (1, vi x1), (2, vi x2), (3, vi x3)]) [0, 1, 2, 3] rfl ?_
  show ZZ X G 5 (QM X G vzIw wzW (0, 0)) (0, 0) ((gX10_isGuest σ x1).bind fun r1 => if w32 r1 = 0 then some ((-1), σ) else (gX10_isPost σ x2).bind fun r2 => if w32 r2 = 0 then some ((-1), σ) else (gX10_isIn σ x3 0 99).bind fun r3 => if w32 r3 ≠ 0 then (gX7_hasCome σ 7 x1).bind fun r4 => if w32 r4 = 0 then (gX0_worthAt σ 1 x1 x2).bind fun r5 => (gX0_putWorth σ 1 x1 x2 x3).bind fun r6 => some (r5, r6) else some ((-2), σ) else some ((-1), σ)) (w0 σ) 0 [(0, vr G 0), (1, vi x1), (2, vi x2), (3, vi x3)] []
  refine z_aload_n C 0 rfl 0 rfl dX10_worth_0 1 rfl ?_
  refine z_iload_n C 1 rfl 1 rfl dX10_worth_1 2 rfl ?_
  refine y_callVI C hR (tX10_isGuest (mL X) G σ x1) ⟨mwX10_isGuest, mvX10_isGuest, lkX10_101⟩ one_10 rfl rfl (Nat.le_of_ble_eq_true rfl) (by unfold rmOK; decide) dX10_worth_2 5 rfl (fun r1 _ => ?_)
  refine z_if_eq C dX10_worth_5 26 (by decide) 8 rfl rfl (fun _ => ?_) (fun _ => ?_)
  · refine z_iconst C dX10_worth_26 27 rfl ?_
    exact z_iret C R rfl rfl dX10_worth_27
  · refine z_aload_n C 0 rfl 0 rfl dX10_worth_8 9 rfl ?_
    refine z_iload_n C 2 rfl 2 rfl dX10_worth_9 10 rfl ?_
    refine y_callVI C hR (tX10_isPost (mL X) G σ x2) ⟨mwX10_isPost, mvX10_isPost, lkX10_105⟩ one_10 rfl rfl (Nat.le_of_ble_eq_true rfl) (by unfold rmOK; decide) dX10_worth_10 13 rfl (fun r2 _ => ?_)
    refine z_if_eq C dX10_worth_13 26 (by decide) 16 rfl rfl (fun _ => ?_) (fun _ => ?_)
    · refine z_iconst C dX10_worth_26 27 rfl ?_
      exact z_iret C R rfl rfl dX10_worth_27
    · refine z_iload_n C 3 rfl 3 rfl dX10_worth_16 17 rfl ?_
      refine z_iconst C dX10_worth_17 18 rfl ?_
      refine z_bipush C (by decide) dX10_worth_18 20 rfl ?_
      refine y_callSI C hR (tX10_isIn (mL X) G σ x3 0 99) ⟨mwX10_isIn, msX10_isIn, lkX10_76⟩ rfl rfl (Nat.le_of_ble_eq_true rfl) (by unfold rmOK; decide) dX10_worth_20 23 rfl (fun r3 _ => ?_)
      refine z_if_ne C dX10_worth_23 28 (by decide) 26 rfl rfl (fun _ => ?_) (fun _ => ?_)
      · refine z_aload_n C 0 rfl 0 rfl dX10_worth_28 29 rfl ?_
        refine y_getR C fX10_21 one_10 lay_10_1 dX10_worth_29 32 rfl ?_
        refine z_iload_n C 1 rfl 1 rfl dX10_worth_32 33 rfl ?_
        refine y_callVI C hR (tX7_hasCome (mL X) G σ 7 x1 lay_10_1.2) ⟨mwX7_hasCome, mvX7_hasCome, lkX10_108⟩ lay_10_1.2 rfl rfl (Nat.le_of_ble_eq_true rfl) (by unfold rmOK; decide) dX10_worth_33 36 rfl (fun r4 _ => ?_)
        refine z_if_eq C dX10_worth_36 42 (by decide) 39 rfl rfl (fun _ => ?_) (fun _ => ?_)
        · refine z_aload_n C 0 rfl 0 rfl dX10_worth_42 43 rfl ?_
          refine y_getR C fX10_10 one_10 lay_10_0 dX10_worth_43 46 rfl ?_
          refine z_iload_n C 1 rfl 1 rfl dX10_worth_46 47 rfl ?_
          refine z_iload_n C 2 rfl 2 rfl dX10_worth_47 48 rfl ?_
          refine y_callVI C hR (tX0_worthAt (mL X) G σ 1 x1 x2 lay_10_0.2) ⟨mwX0_worthAt, mvX0_worthAt, lkX10_111⟩ lay_10_0.2 rfl rfl (Nat.le_of_ble_eq_true rfl) (by unfold rmOK; decide) dX10_worth_48 51 rfl (fun r5 _ => ?_)
          refine z_istore (lv' := [(4, vi r5), (0, vr G 0), (1, vi x1), (2, vi x2), (3, vi x3)]) C (by decide) dX10_worth_51 53 rfl rfl ?_
          refine z_aload_n C 0 rfl 1 rfl dX10_worth_53 54 rfl ?_
          refine y_getR C fX10_10 one_10 lay_10_0 dX10_worth_54 57 rfl ?_
          refine z_iload_n C 1 rfl 2 rfl dX10_worth_57 58 rfl ?_
          refine z_iload_n C 2 rfl 3 rfl dX10_worth_58 59 rfl ?_
          refine z_iload_n C 3 rfl 4 rfl dX10_worth_59 60 rfl ?_
          refine y_callVv C hR (tX0_putWorth (mL X) G σ 1 x1 x2 x3 lay_10_0.2) ⟨mwX0_putWorth, mvX0_putWorth, lkX10_115⟩ lay_10_0.2 rfl rfl (Nat.le_of_ble_eq_true rfl) (by unfold rmOK; decide) dX10_worth_60 63 rfl (fun r6 _ => ?_)
          refine z_iload C 0 rfl dX10_worth_63 65 rfl ?_
          exact z_iret C R rfl rfl dX10_worth_65
        · refine z_bipush C (by decide) dX10_worth_39 41 rfl ?_
          exact z_iret C R rfl rfl dX10_worth_41
      · refine z_iconst C dX10_worth_26 27 rfl ?_
        exact z_iret C R rfl rfl dX10_worth_27
-- chance
def gX10_chance (σ : St) (x1 : Int) (x2 : Int) : Option (Int × St) := (gX10_isGuest σ x1).bind fun r1 => if w32 r1 = 0 then some ((-1), σ) else (gX10_isIn σ x2 0 9).bind fun r2 => if w32 r2 ≠ 0 then gd (0 ≤ w32 x1 ∧ w32 x1 < 9) ((gX0_putChance σ 1 x1 x2).bind fun r3 => some (σ (1 + 4) (w32 x1), r3)) else some ((-1), σ)
def rmX10_chance : Room := { frames := 1, cells := 0, slots := 0, locals := 22 }
set_option maxRecDepth 100000 in
set_option maxHeartbeats 4000000 in
theorem tX10_chance (l : Launch) (G : GG) (σ : St) (x1 : Int) (x2 : Int) : Ctr l G yX10_chance cX10_chance 4 (some .int) rmX10_chance [vr G 0, vi x1, vi x2] (w0 σ) vzIw wzW (gX10_chance σ x1 x2) := by
  refine ctr_of (by decide) (Nat.le_of_ble_eq_true rfl) mwX10_chance.1 (fun X hl hR C R hnm => ?_)
  subst hl
  refine z_lv (lv' := [(0, vr G 0), (1, vi x1), (2, vi x2)]) [0, 1, 2] rfl ?_
  show ZZ X G 4 (QM X G vzIw wzW (0, 0)) (0, 0) ((gX10_isGuest σ x1).bind fun r1 => if w32 r1 = 0 then some ((-1), σ) else (gX10_isIn σ x2 0 9).bind fun r2 => if w32 r2 ≠ 0 then gd (0 ≤ w32 x1 ∧ w32 x1 < 9) ((gX0_putChance σ 1 x1 x2).bind fun r3 => some (σ (1 + 4) (w32 x1), r3)) else some ((-1), σ)) (w0 σ) 0 [(0, vr G 0), (1, vi x1), (2, vi x2)] []
  refine z_aload_n C 0 rfl 0 rfl dX10_chance_0 1 rfl ?_
  refine z_iload_n C 1 rfl 1 rfl dX10_chance_1 2 rfl ?_
  refine y_callVI C hR (tX10_isGuest (mL X) G σ x1) ⟨mwX10_isGuest, mvX10_isGuest, lkX10_101⟩ one_10 rfl rfl (Nat.le_of_ble_eq_true rfl) (by unfold rmOK; decide) dX10_chance_2 5 rfl (fun r1 _ => ?_)
  refine z_if_eq C dX10_chance_5 18 (by decide) 8 rfl rfl (fun _ => ?_) (fun _ => ?_)
  · refine z_iconst C dX10_chance_18 19 rfl ?_
    exact z_iret C R rfl rfl dX10_chance_19
  · refine z_iload_n C 2 rfl 2 rfl dX10_chance_8 9 rfl ?_
    refine z_iconst C dX10_chance_9 10 rfl ?_
    refine z_bipush C (by decide) dX10_chance_10 12 rfl ?_
    refine y_callSI C hR (tX10_isIn (mL X) G σ x2 0 9) ⟨mwX10_isIn, msX10_isIn, lkX10_76⟩ rfl rfl (Nat.le_of_ble_eq_true rfl) (by unfold rmOK; decide) dX10_chance_12 15 rfl (fun r2 _ => ?_)
    refine z_if_ne C dX10_chance_15 20 (by decide) 18 rfl rfl (fun _ => ?_) (fun _ => ?_)
    · refine z_aload_n C 0 rfl 0 rfl dX10_chance_20 21 rfl ?_
      refine y_getR C fX10_10 one_10 lay_10_0 dX10_chance_21 24 rfl ?_
      refine y_getR C fX10_119 lay_10_0.2 (lay_0_3 lay_10_0.2) dX10_chance_24 27 rfl ?_
      refine z_iload_n C 1 rfl 1 rfl dX10_chance_27 28 rfl ?_
      refine y_iald C ((lay_0_3 lay_10_0.2).2) rfl dX10_chance_28 29 rfl rfl (fun _ => ?_)
      refine z_istore_n (lv' := [(3, vi (σ (1 + 4) (w32 x1))), (0, vr G 0), (1, vi x1), (2, vi x2)]) C 3 rfl (by decide) dX10_chance_29 30 rfl rfl ?_
      refine z_aload_n C 0 rfl 1 rfl dX10_chance_30 31 rfl ?_
      refine y_getR C fX10_10 one_10 lay_10_0 dX10_chance_31 34 rfl ?_
      refine z_iload_n C 1 rfl 2 rfl dX10_chance_34 35 rfl ?_
      refine z_iload_n C 2 rfl 3 rfl dX10_chance_35 36 rfl ?_
      refine y_callVv C hR (tX0_putChance (mL X) G σ 1 x1 x2 lay_10_0.2) ⟨mwX0_putChance, mvX0_putChance, lkX10_122⟩ lay_10_0.2 rfl rfl (Nat.le_of_ble_eq_true rfl) (by unfold rmOK; decide) dX10_chance_36 39 rfl (fun r3 _ => ?_)
      refine z_iload_n C 3 rfl 0 rfl dX10_chance_39 40 rfl ?_
      exact z_iret C R rfl rfl dX10_chance_40
    · refine z_iconst C dX10_chance_18 19 rfl ?_
      exact z_iret C R rfl rfl dX10_chance_19
-- rank
def gX10_rank (σ : St) (x1 : Int) (x2 : Int) : Option (Int × St) := (gX10_isPost σ x1).bind fun r1 => if w32 r1 = 0 then some ((-1), σ) else (gX10_isIn σ x2 0 99).bind fun r2 => if w32 r2 ≠ 0 then if w32 (σ 7 10) ≤ 0 then gd (0 ≤ w32 x1 ∧ w32 x1 < 6) ((gX0_putRank σ 1 x1 x2).bind fun r3 => some (σ (1 + 2) (w32 x1), r3)) else some ((-2), σ) else some ((-1), σ)
def rmX10_rank : Room := { frames := 1, cells := 0, slots := 0, locals := 22 }
set_option maxRecDepth 100000 in
set_option maxHeartbeats 4000000 in
theorem tX10_rank (l : Launch) (G : GG) (σ : St) (x1 : Int) (x2 : Int) : Ctr l G yX10_rank cX10_rank 4 (some .int) rmX10_rank [vr G 0, vi x1, vi x2] (w0 σ) vzIw wzW (gX10_rank σ x1 x2) := by
  refine ctr_of (by decide) (Nat.le_of_ble_eq_true rfl) mwX10_rank.1 (fun X hl hR C R hnm => ?_)
  subst hl
  refine z_lv (lv' := [(0, vr G 0), (1, vi x1), (2, vi x2)]) [0, 1, 2] rfl ?_
  show ZZ X G 4 (QM X G vzIw wzW (0, 0)) (0, 0) ((gX10_isPost σ x1).bind fun r1 => if w32 r1 = 0 then some ((-1), σ) else (gX10_isIn σ x2 0 99).bind fun r2 => if w32 r2 ≠ 0 then if w32 (σ 7 10) ≤ 0 then gd (0 ≤ w32 x1 ∧ w32 x1 < 6) ((gX0_putRank σ 1 x1 x2).bind fun r3 => some (σ (1 + 2) (w32 x1), r3)) else some ((-2), σ) else some ((-1), σ)) (w0 σ) 0 [(0, vr G 0), (1, vi x1), (2, vi x2)] []
  refine z_aload_n C 0 rfl 0 rfl dX10_rank_0 1 rfl ?_
  refine z_iload_n C 1 rfl 1 rfl dX10_rank_1 2 rfl ?_
  refine y_callVI C hR (tX10_isPost (mL X) G σ x1) ⟨mwX10_isPost, mvX10_isPost, lkX10_105⟩ one_10 rfl rfl (Nat.le_of_ble_eq_true rfl) (by unfold rmOK; decide) dX10_rank_2 5 rfl (fun r1 _ => ?_)
  refine z_if_eq C dX10_rank_5 18 (by decide) 8 rfl rfl (fun _ => ?_) (fun _ => ?_)
  · refine z_iconst C dX10_rank_18 19 rfl ?_
    exact z_iret C R rfl rfl dX10_rank_19
  · refine z_iload_n C 2 rfl 2 rfl dX10_rank_8 9 rfl ?_
    refine z_iconst C dX10_rank_9 10 rfl ?_
    refine z_bipush C (by decide) dX10_rank_10 12 rfl ?_
    refine y_callSI C hR (tX10_isIn (mL X) G σ x2 0 99) ⟨mwX10_isIn, msX10_isIn, lkX10_76⟩ rfl rfl (Nat.le_of_ble_eq_true rfl) (by unfold rmOK; decide) dX10_rank_12 15 rfl (fun r2 _ => ?_)
    refine z_if_ne C dX10_rank_15 20 (by decide) 18 rfl rfl (fun _ => ?_) (fun _ => ?_)
    · refine z_aload_n C 0 rfl 0 rfl dX10_rank_20 21 rfl ?_
      refine y_getR C fX10_21 one_10 lay_10_1 dX10_rank_21 24 rfl ?_
      refine y_getI C fX10_80 lay_10_1.2 dX10_rank_24 27 rfl ?_
      refine z_if_le C dX10_rank_27 33 (by decide) 30 rfl rfl (fun _ => ?_) (fun _ => ?_)
      · refine z_aload_n C 0 rfl 0 rfl dX10_rank_33 34 rfl ?_
        refine y_getR C fX10_10 one_10 lay_10_0 dX10_rank_34 37 rfl ?_
        refine y_getR C fX10_126 lay_10_0.2 (lay_0_1 lay_10_0.2) dX10_rank_37 40 rfl ?_
        refine z_iload_n C 1 rfl 1 rfl dX10_rank_40 41 rfl ?_
        refine y_iald C ((lay_0_1 lay_10_0.2).2) rfl dX10_rank_41 42 rfl rfl (fun _ => ?_)
        refine z_istore_n (lv' := [(3, vi (σ (1 + 2) (w32 x1))), (0, vr G 0), (1, vi x1), (2, vi x2)]) C 3 rfl (by decide) dX10_rank_42 43 rfl rfl ?_
        refine z_aload_n C 0 rfl 1 rfl dX10_rank_43 44 rfl ?_
        refine y_getR C fX10_10 one_10 lay_10_0 dX10_rank_44 47 rfl ?_
        refine z_iload_n C 1 rfl 2 rfl dX10_rank_47 48 rfl ?_
        refine z_iload_n C 2 rfl 3 rfl dX10_rank_48 49 rfl ?_
        refine y_callVv C hR (tX0_putRank (mL X) G σ 1 x1 x2 lay_10_0.2) ⟨mwX0_putRank, mvX0_putRank, lkX10_129⟩ lay_10_0.2 rfl rfl (Nat.le_of_ble_eq_true rfl) (by unfold rmOK; decide) dX10_rank_49 52 rfl (fun r3 _ => ?_)
        refine z_iload_n C 3 rfl 0 rfl dX10_rank_52 53 rfl ?_
        exact z_iret C R rfl rfl dX10_rank_53
      · refine z_bipush C (by decide) dX10_rank_30 32 rfl ?_
        exact z_iret C R rfl rfl dX10_rank_32
    · refine z_iconst C dX10_rank_18 19 rfl ?_
      exact z_iret C R rfl rfl dX10_rank_19
-- told
def gX10_told (F : Nat) (σ : St) (x1 : Int) (x2 : Int) : Option (Int) := (gX10_isPost σ x1).bind fun r1 => if w32 r1 ≠ 0 then if w32 x2 = 0 then gd (0 ≤ w32 x1 ∧ w32 x1 < 6) (some (σ (1 + 1) (w32 x1))) else if w32 x2 = 1 then gd (0 ≤ w32 x1 ∧ w32 x1 < 6) (some (σ (1 + 2) (w32 x1))) else if w32 x2 = 2 then gd (0 ≤ w32 x1 ∧ w32 x1 < 6) (some (σ (1 + 3) (w32 x1))) else if w32 x2 = 3 then (gX7_freeAt σ 7 x1).bind fun r2 => some r2 else if w32 x2 = 4 then gd (0 ≤ w32 x1 ∧ w32 x1 < 6) (some (σ (7 + 2) (w32 x1))) else if w32 x2 = 5 then (gX7_heldBits F σ 7 x1).bind fun r3 => some r3 else if w32 x2 = 6 then (gX0_linksOf F σ 1 x1).bind fun r4 => some r4 else some ((-1)) else some ((-1))
def rmX10_told : Room := { frames := 2, cells := 0, slots := 0, locals := 45 }
set_option maxRecDepth 100000 in
set_option maxHeartbeats 4000000 in
theorem tX10_told (l : Launch) (G : GG) (F : Nat) (σ : St) (x1 : Int) (x2 : Int) : Ctr l G yX10_told cX10_told 3 (some .int) rmX10_told [vr G 0, vi x1, vi x2] (w0 σ) vzI (wzR σ) (gX10_told F σ x1 x2) := by
  refine ctr_of (by decide) (Nat.le_of_ble_eq_true rfl) mwX10_told.1 (fun X hl hR C R hnm => ?_)
  subst hl
  refine z_lv (lv' := [(0, vr G 0), (1, vi x1), (2, vi x2)]) [0, 1, 2] rfl ?_
  show ZZ X G 3 (QM X G vzI (wzR σ) (0, 0)) (0, 0) ((gX10_isPost σ x1).bind fun r1 => if w32 r1 ≠ 0 then if w32 x2 = 0 then gd (0 ≤ w32 x1 ∧ w32 x1 < 6) (some (σ (1 + 1) (w32 x1))) else if w32 x2 = 1 then gd (0 ≤ w32 x1 ∧ w32 x1 < 6) (some (σ (1 + 2) (w32 x1))) else if w32 x2 = 2 then gd (0 ≤ w32 x1 ∧ w32 x1 < 6) (some (σ (1 + 3) (w32 x1))) else if w32 x2 = 3 then (gX7_freeAt σ 7 x1).bind fun r2 => some r2 else if w32 x2 = 4 then gd (0 ≤ w32 x1 ∧ w32 x1 < 6) (some (σ (7 + 2) (w32 x1))) else if w32 x2 = 5 then (gX7_heldBits F σ 7 x1).bind fun r3 => some r3 else if w32 x2 = 6 then (gX0_linksOf F σ 1 x1).bind fun r4 => some r4 else some ((-1)) else some ((-1))) (w0 σ) 0 [(0, vr G 0), (1, vi x1), (2, vi x2)] []
  refine z_aload_n C 0 rfl 0 rfl dX10_told_0 1 rfl ?_
  refine z_iload_n C 1 rfl 1 rfl dX10_told_1 2 rfl ?_
  refine y_callVI C hR (tX10_isPost (mL X) G σ x1) ⟨mwX10_isPost, mvX10_isPost, lkX10_105⟩ one_10 rfl rfl (Nat.le_of_ble_eq_true rfl) (by unfold rmOK; decide) dX10_told_2 5 rfl (fun r1 _ => ?_)
  refine z_if_ne C dX10_told_5 10 (by decide) 8 rfl rfl (fun _ => ?_) (fun _ => ?_)
  · refine z_iload_n C 2 rfl 2 rfl dX10_told_10 11 rfl ?_
    refine z_ite (fun hq0 => ?_) (fun hn0 => ?_)
    · refine z_tin C dX10_told_11 (v := 0) (hq0) (by decide) rfl 52 (by decide) ?_
      refine z_aload_n C 0 rfl 0 rfl dX10_told_52 53 rfl ?_
      refine y_getR C fX10_10 one_10 lay_10_0 dX10_told_53 56 rfl ?_
      refine y_getR C fX10_132 lay_10_0.2 (lay_0_0 lay_10_0.2) dX10_told_56 59 rfl ?_
      refine z_iload_n C 1 rfl 1 rfl dX10_told_59 60 rfl ?_
      refine y_iald C ((lay_0_0 lay_10_0.2).2) rfl dX10_told_60 61 rfl rfl (fun _ => ?_)
      exact z_iret C R rfl rfl dX10_told_61
    refine z_ite (fun hq1 => ?_) (fun hn1 => ?_)
    · refine z_tin C dX10_told_11 (v := 1) (hq1) (by decide) rfl 62 (by decide) ?_
      refine z_aload_n C 0 rfl 0 rfl dX10_told_62 63 rfl ?_
      refine y_getR C fX10_10 one_10 lay_10_0 dX10_told_63 66 rfl ?_
      refine y_getR C fX10_126 lay_10_0.2 (lay_0_1 lay_10_0.2) dX10_told_66 69 rfl ?_
      refine z_iload_n C 1 rfl 1 rfl dX10_told_69 70 rfl ?_
      refine y_iald C ((lay_0_1 lay_10_0.2).2) rfl dX10_told_70 71 rfl rfl (fun _ => ?_)
      exact z_iret C R rfl rfl dX10_told_71
    refine z_ite (fun hq2 => ?_) (fun hn2 => ?_)
    · refine z_tin C dX10_told_11 (v := 2) (hq2) (by decide) rfl 72 (by decide) ?_
      refine z_aload_n C 0 rfl 0 rfl dX10_told_72 73 rfl ?_
      refine y_getR C fX10_10 one_10 lay_10_0 dX10_told_73 76 rfl ?_
      refine y_getR C fX10_135 lay_10_0.2 (lay_0_2 lay_10_0.2) dX10_told_76 79 rfl ?_
      refine z_iload_n C 1 rfl 1 rfl dX10_told_79 80 rfl ?_
      refine y_iald C ((lay_0_2 lay_10_0.2).2) rfl dX10_told_80 81 rfl rfl (fun _ => ?_)
      exact z_iret C R rfl rfl dX10_told_81
    refine z_ite (fun hq3 => ?_) (fun hn3 => ?_)
    · refine z_tin C dX10_told_11 (v := 3) (hq3) (by decide) rfl 82 (by decide) ?_
      refine z_aload_n C 0 rfl 0 rfl dX10_told_82 83 rfl ?_
      refine y_getR C fX10_21 one_10 lay_10_1 dX10_told_83 86 rfl ?_
      refine z_iload_n C 1 rfl 1 rfl dX10_told_86 87 rfl ?_
      refine y_callVI C hR (tX7_freeAt (mL X) G σ 7 x1 lay_10_1.2) ⟨mwX7_freeAt, mvX7_freeAt, lkX10_138⟩ lay_10_1.2 rfl rfl (Nat.le_of_ble_eq_true rfl) (by unfold rmOK; decide) dX10_told_87 90 rfl (fun r2 _ => ?_)
      exact z_iret C R rfl rfl dX10_told_90
    refine z_ite (fun hq4 => ?_) (fun hn4 => ?_)
    · refine z_tin C dX10_told_11 (v := 4) (hq4) (by decide) rfl 91 (by decide) ?_
      refine z_aload_n C 0 rfl 0 rfl dX10_told_91 92 rfl ?_
      refine y_getR C fX10_21 one_10 lay_10_1 dX10_told_92 95 rfl ?_
      refine y_getR C fX10_142 lay_10_1.2 (lay_7_2 lay_10_1.2) dX10_told_95 98 rfl ?_
      refine z_iload_n C 1 rfl 1 rfl dX10_told_98 99 rfl ?_
      refine y_iald C ((lay_7_2 lay_10_1.2).2) rfl dX10_told_99 100 rfl rfl (fun _ => ?_)
      exact z_iret C R rfl rfl dX10_told_100
    refine z_ite (fun hq5 => ?_) (fun hn5 => ?_)
    · refine z_tin C dX10_told_11 (v := 5) (hq5) (by decide) rfl 101 (by decide) ?_
      refine z_aload_n C 0 rfl 0 rfl dX10_told_101 102 rfl ?_
      refine y_getR C fX10_21 one_10 lay_10_1 dX10_told_102 105 rfl ?_
      refine z_iload_n C 1 rfl 1 rfl dX10_told_105 106 rfl ?_
      refine y_callVI C hR (tX7_heldBits (mL X) G F σ 7 x1 lay_10_1.2) ⟨mwX7_heldBits, mvX7_heldBits, lkX10_145⟩ lay_10_1.2 rfl rfl (Nat.le_of_ble_eq_true rfl) (by unfold rmOK; decide) dX10_told_106 109 rfl (fun r3 _ => ?_)
      exact z_iret C R rfl rfl dX10_told_109
    refine z_ite (fun hq6 => ?_) (fun hn6 => ?_)
    · refine z_tin C dX10_told_11 (v := 6) (hq6) (by decide) rfl 110 (by decide) ?_
      refine z_aload_n C 0 rfl 0 rfl dX10_told_110 111 rfl ?_
      refine y_getR C fX10_10 one_10 lay_10_0 dX10_told_111 114 rfl ?_
      refine z_iload_n C 1 rfl 1 rfl dX10_told_114 115 rfl ?_
      refine y_callVI C hR (tX0_linksOf (mL X) G F σ 1 x1 lay_10_0.2) ⟨mwX0_linksOf, mvX0_linksOf, lkX10_148⟩ lay_10_0.2 rfl rfl (Nat.le_of_ble_eq_true rfl) (by unfold rmOK; decide) dX10_told_115 118 rfl (fun r4 _ => ?_)
      exact z_iret C R rfl rfl dX10_told_118
    refine z_tout C dX10_told_11 (by omega) 119 (by decide) ?_
    refine z_iconst C dX10_told_119 120 rfl ?_
    exact z_iret C R rfl rfl dX10_told_120
  · refine z_iconst C dX10_told_8 9 rfl ?_
    exact z_iret C R rfl rfl dX10_told_9
-- feed
def gX10_feed (F : Nat) (σ : St) (x1 : Int) : Option (Int × St) := if w32 ((σ 57 0) + 8) ≤ 160 then (gX8_addEight F σ x1).bind fun r1 => some (r1 57 0, r1) else some ((-3), σ)
def rmX10_feed : Room := { frames := 1, cells := 0, slots := 0, locals := 23 }
set_option maxRecDepth 100000 in
set_option maxHeartbeats 4000000 in
theorem tX10_feed (l : Launch) (G : GG) (F : Nat) (σ : St) (x1 : Int) : Ctr l G yX10_feed cX10_feed 3 (some .int) rmX10_feed [vr G 0, vl x1] (w0 σ) vzIw wzW (gX10_feed F σ x1) := by
  refine ctr_of (by decide) (Nat.le_of_ble_eq_true rfl) mwX10_feed.1 (fun X hl hR C R hnm => ?_)
  subst hl
  refine z_lv (lv' := [(0, vr G 0), (1, vl x1)]) [0, 1] rfl ?_
  show ZZ X G 3 (QM X G vzIw wzW (0, 0)) (0, 0) (if w32 ((σ 57 0) + 8) ≤ 160 then (gX8_addEight F σ x1).bind fun r1 => some (r1 57 0, r1) else some ((-3), σ)) (w0 σ) 0 [(0, vr G 0), (1, vl x1)] []
  refine z_aload_n C 0 rfl 0 rfl dX10_feed_0 1 rfl ?_
  refine y_getR C fX10_51 one_10 lay_10_7 dX10_feed_1 4 rfl ?_
  refine y_getI C fX10_151 lay_10_7.2 dX10_feed_4 7 rfl ?_
  refine z_bipush C (by decide) dX10_feed_7 9 rfl ?_
  refine z_iadd C dX10_feed_9 10 rfl ?_
  refine z_sipush C (by decide) dX10_feed_10 13 rfl ?_
  refine z_icmp_le C dX10_feed_13 19 (by decide) 16 rfl rfl (w32_id (a := 160) (by decide)) (fun _ => ?_) (fun _ => ?_)
  · refine z_aload_n C 0 rfl 0 rfl dX10_feed_19 20 rfl ?_
    refine y_getR C fX10_51 one_10 lay_10_7 dX10_feed_20 23 rfl ?_
    refine z_lload_n C 1 rfl 1 rfl dX10_feed_23 24 rfl ?_
    refine y_callVv C hR (tX8_addEight (mL X) G F σ x1) ⟨mwX8_addEight, mvX8_addEight, lkX10_154⟩ lay_10_7.2 rfl rfl (Nat.le_of_ble_eq_true rfl) (by unfold rmOK; decide) dX10_feed_24 27 rfl (fun r1 _ => ?_)
    refine z_aload_n C 0 rfl 0 rfl dX10_feed_27 28 rfl ?_
    refine y_getR C fX10_51 one_10 lay_10_7 dX10_feed_28 31 rfl ?_
    refine y_getI C fX10_151 lay_10_7.2 dX10_feed_31 34 rfl ?_
    exact z_iret C R rfl rfl dX10_feed_34
  · refine z_bipush C (by decide) dX10_feed_16 18 rfl ?_
    exact z_iret C R rfl rfl dX10_feed_18
-- end
def gX10_end (σ : St) (x1 : Int) : Option (Int × St) := (gX10_isIn σ x1 0 (σ 57 0)).bind fun r1 => if w32 r1 ≠ 0 then some (σ 57 0, up σ 57 0 x1) else some ((-1), σ)
def rmX10_end : Room := { frames := 1, cells := 0, slots := 0, locals := 22 }
set_option maxRecDepth 100000 in
set_option maxHeartbeats 4000000 in
theorem tX10_end (l : Launch) (G : GG) (σ : St) (x1 : Int) : Ctr l G yX10_end cX10_end 3 (some .int) rmX10_end [vr G 0, vi x1] (w0 σ) vzIw wzW (gX10_end σ x1) := by
  refine ctr_of (by decide) (Nat.le_of_ble_eq_true rfl) mwX10_end.1 (fun X hl hR C R hnm => ?_)
  subst hl
  refine z_lv (lv' := [(0, vr G 0), (1, vi x1)]) [0, 1] rfl ?_
  show ZZ X G 3 (QM X G vzIw wzW (0, 0)) (0, 0) ((gX10_isIn σ x1 0 (σ 57 0)).bind fun r1 => if w32 r1 ≠ 0 then some (σ 57 0, up σ 57 0 x1) else some ((-1), σ)) (w0 σ) 0 [(0, vr G 0), (1, vi x1)] []
  refine z_iload_n C 1 rfl 1 rfl dX10_end_0 1 rfl ?_
  refine z_iconst C dX10_end_1 2 rfl ?_
  refine z_aload_n C 0 rfl 0 rfl dX10_end_2 3 rfl ?_
  refine y_getR C fX10_51 one_10 lay_10_7 dX10_end_3 6 rfl ?_
  refine y_getI C fX10_151 lay_10_7.2 dX10_end_6 9 rfl ?_
  refine y_callSI C hR (tX10_isIn (mL X) G σ x1 0 (σ 57 0)) ⟨mwX10_isIn, msX10_isIn, lkX10_76⟩ rfl rfl (Nat.le_of_ble_eq_true rfl) (by unfold rmOK; decide) dX10_end_9 12 rfl (fun r1 _ => ?_)
  refine z_if_ne C dX10_end_12 17 (by decide) 15 rfl rfl (fun _ => ?_) (fun _ => ?_)
  · refine z_aload_n C 0 rfl 0 rfl dX10_end_17 18 rfl ?_
    refine y_getR C fX10_51 one_10 lay_10_7 dX10_end_18 21 rfl ?_
    refine y_getI C fX10_151 lay_10_7.2 dX10_end_21 24 rfl ?_
    refine z_istore_n (lv' := [(2, vi (σ 57 0)), (0, vr G 0), (1, vi x1)]) C 2 rfl (by decide) dX10_end_24 25 rfl rfl ?_
    refine z_aload_n C 0 rfl 1 rfl dX10_end_25 26 rfl ?_
    refine y_getR C fX10_51 one_10 lay_10_7 dX10_end_26 29 rfl ?_
    refine z_iload_n C 1 rfl 2 rfl dX10_end_29 30 rfl ?_
    refine y_putI C fX10_151 lay_10_7.2 ⟨rfl, rfl⟩ dX10_end_30 33 rfl ?_
    refine z_iload_n C 2 rfl 0 rfl dX10_end_33 34 rfl ?_
    exact z_iret C R rfl rfl dX10_end_34
  · refine z_iconst C dX10_end_15 16 rfl ?_
    exact z_iret C R rfl rfl dX10_end_16
-- rule
def gX10_rule (F : Nat) (σ : St) : Option (Int × St) := if w32 (σ 0 12) < 6 then gd (0 ≤ w32 (σ 0 12) ∧ w32 (σ 0 12) < 6) ((gX8_readInto F σ (63 + 12 * (w32 (σ 0 12)))).bind fun r2 => if w32 ((up (up r2 57 0 0) 0 13 ((up r2 57 0 0) 57 1)) 0 13) = 0 then some (((up (up (up r2 57 0 0) 0 13 ((up r2 57 0 0) 57 1)) 0 12 (((up (up r2 57 0 0) 0 13 ((up r2 57 0 0) 57 1)) 0 12) + 1)) 0 12) - 1, up (up (up r2 57 0 0) 0 13 ((up r2 57 0 0) 57 1)) 0 12 (((up (up r2 57 0 0) 0 13 ((up r2 57 0 0) 57 1)) 0 12) + 1)) else some (((-10)) - ((up (up r2 57 0 0) 0 13 ((up r2 57 0 0) 57 1)) 57 2), up (up r2 57 0 0) 0 13 ((up r2 57 0 0) 57 1))) else some ((-3), σ)
def rmX10_rule : Room := { frames := 14, cells := 0, slots := 0, locals := 532 }
set_option maxRecDepth 100000 in
set_option maxHeartbeats 4000000 in
theorem tX10_rule (l : Launch) (G : GG) (F : Nat) (σ : St) : Ctr l G yX10_rule cX10_rule 1 (some .int) rmX10_rule [vr G 0] (w0 σ) vzIw wzW (gX10_rule F σ) := by
  refine ctr_of (by decide) (Nat.le_of_ble_eq_true rfl) mwX10_rule.1 (fun X hl hR C R hnm => ?_)
  subst hl
  refine z_lv (lv' := [(0, vr G 0)]) [0] rfl ?_
  show ZZ X G 1 (QM X G vzIw wzW (0, 0)) (0, 0) (if w32 (σ 0 12) < 6 then gd (0 ≤ w32 (σ 0 12) ∧ w32 (σ 0 12) < 6) ((gX8_readInto F σ (63 + 12 * (w32 (σ 0 12)))).bind fun r2 => if w32 ((up (up r2 57 0 0) 0 13 ((up r2 57 0 0) 57 1)) 0 13) = 0 then some (((up (up (up r2 57 0 0) 0 13 ((up r2 57 0 0) 57 1)) 0 12 (((up (up r2 57 0 0) 0 13 ((up r2 57 0 0) 57 1)) 0 12) + 1)) 0 12) - 1, up (up (up r2 57 0 0) 0 13 ((up r2 57 0 0) 57 1)) 0 12 (((up (up r2 57 0 0) 0 13 ((up r2 57 0 0) 57 1)) 0 12) + 1)) else some (((-10)) - ((up (up r2 57 0 0) 0 13 ((up r2 57 0 0) 57 1)) 57 2), up (up r2 57 0 0) 0 13 ((up r2 57 0 0) 57 1))) else some ((-3), σ)) (w0 σ) 0 [(0, vr G 0)] []
  refine z_aload_n C 0 rfl 0 rfl dX10_rule_0 1 rfl ?_
  refine y_getI C fX10_158 one_10 dX10_rule_1 4 rfl ?_
  refine z_bipush C (by decide) dX10_rule_4 6 rfl ?_
  refine z_icmp_lt C dX10_rule_6 12 (by decide) 9 rfl rfl (w32_id (a := 6) (by decide)) (fun _ => ?_) (fun _ => ?_)
  · refine z_aload_n C 0 rfl 0 rfl dX10_rule_12 13 rfl ?_
    refine y_getR C fX10_51 one_10 lay_10_7 dX10_rule_13 16 rfl ?_
    refine z_aload_n C 0 rfl 0 rfl dX10_rule_16 17 rfl ?_
    refine y_getR C fX10_57 one_10 lay_10_8 dX10_rule_17 20 rfl ?_
    refine z_aload_n C 0 rfl 0 rfl dX10_rule_20 21 rfl ?_
    refine y_getI C fX10_158 one_10 dX10_rule_21 24 rfl ?_
    refine y_aald (t := 0) C lay_10_8.2 (by decide) rfl dX10_rule_24 25 rfl rfl (fun r => 63 + 12 * r) (fun h => lay_rules h) (fun hb1 => ?_)
    refine y_callVv C hR (tX8_readInto (mL X) G F σ (63 + 12 * (w32 (σ 0 12))) ((lay_rules hb1).2)) ⟨mwX8_readInto, mvX8_readInto, lkX10_161⟩ lay_10_7.2 rfl rfl (Nat.le_of_ble_eq_true rfl) (by unfold rmOK; decide) dX10_rule_25 28 rfl (fun r2 _ => ?_)
    refine z_aload_n C 0 rfl 0 rfl dX10_rule_28 29 rfl ?_
    refine y_getR C fX10_51 one_10 lay_10_7 dX10_rule_29 32 rfl ?_
    refine z_iconst C dX10_rule_32 33 rfl ?_
    refine y_putI C fX10_151 lay_10_7.2 ⟨rfl, rfl⟩ dX10_rule_33 36 rfl ?_
    refine z_aload_n C 0 rfl 0 rfl dX10_rule_36 37 rfl ?_
    refine z_aload_n C 0 rfl 0 rfl dX10_rule_37 38 rfl ?_
    refine y_getR C fX10_51 one_10 lay_10_7 dX10_rule_38 41 rfl ?_
    refine y_getI C fX10_165 lay_10_7.2 dX10_rule_41 44 rfl ?_
    refine y_putI C fX10_168 one_10 ⟨rfl, rfl⟩ dX10_rule_44 47 rfl ?_
    refine z_aload_n C 0 rfl 0 rfl dX10_rule_47 48 rfl ?_
    refine y_getI C fX10_168 one_10 dX10_rule_48 51 rfl ?_
    refine z_if_eq C dX10_rule_51 65 (by decide) 54 rfl rfl (fun _ => ?_) (fun _ => ?_)
    · refine z_aload_n C 0 rfl 0 rfl dX10_rule_65 66 rfl ?_
      refine z_dup C rfl dX10_rule_66 67 rfl ?_
      refine y_getI C fX10_158 one_10 dX10_rule_67 70 rfl ?_
      refine z_iconst C dX10_rule_70 71 rfl ?_
      refine z_iadd C dX10_rule_71 72 rfl ?_
      refine y_putI C fX10_158 one_10 ⟨rfl, rfl⟩ dX10_rule_72 75 rfl ?_
      refine z_aload_n C 0 rfl 0 rfl dX10_rule_75 76 rfl ?_
      refine y_getI C fX10_158 one_10 dX10_rule_76 79 rfl ?_
      refine z_iconst C dX10_rule_79 80 rfl ?_
      refine z_isub C dX10_rule_80 81 rfl ?_
      exact z_iret C R rfl rfl dX10_rule_81
    · refine z_bipush C (by decide) dX10_rule_54 56 rfl ?_
      refine z_aload_n C 0 rfl 0 rfl dX10_rule_56 57 rfl ?_
      refine y_getR C fX10_51 one_10 lay_10_7 dX10_rule_57 60 rfl ?_
      refine y_getI C fX10_171 lay_10_7.2 dX10_rule_60 63 rfl ?_
      refine z_isub C dX10_rule_63 64 rfl ?_
      exact z_iret C R rfl rfl dX10_rule_64
  · refine z_bipush C (by decide) dX10_rule_9 11 rfl ?_
    exact z_iret C R rfl rfl dX10_rule_11
-- fault
def gX10_fault (σ : St) : Option (Int) := some (σ 0 13)
def rmX10_fault : Room := { frames := 0, cells := 0, slots := 0, locals := 0 }
set_option maxRecDepth 100000 in
set_option maxHeartbeats 4000000 in
theorem tX10_fault (l : Launch) (G : GG) (σ : St) : Ctr l G yX10_fault cX10_fault 1 (some .int) rmX10_fault [vr G 0] (w0 σ) vzI (wzR σ) (gX10_fault σ) := by
  refine ctr_of (by decide) (Nat.le_of_ble_eq_true rfl) mwX10_fault.1 (fun X hl hR C R hnm => ?_)
  subst hl
  refine z_lv (lv' := [(0, vr G 0)]) [0] rfl ?_
  show ZZ X G 1 (QM X G vzI (wzR σ) (0, 0)) (0, 0) (some (σ 0 13)) (w0 σ) 0 [(0, vr G 0)] []
  refine z_aload_n C 0 rfl 0 rfl dX10_fault_0 1 rfl ?_
  refine y_getI C fX10_168 one_10 dX10_fault_1 4 rfl ?_
  exact z_iret C R rfl rfl dX10_fault_4
-- isRule
def gX10_isRule (σ : St) (x1 : Int) : Option (Int) := if w32 x1 < 0 then some 0 else if w32 x1 ≥ w32 (σ 0 12) then some 0 else some 1
def rmX10_isRule : Room := { frames := 0, cells := 0, slots := 0, locals := 0 }
set_option maxRecDepth 100000 in
set_option maxHeartbeats 4000000 in
theorem tX10_isRule (l : Launch) (G : GG) (σ : St) (x1 : Int) : Ctr l G yX10_isRule cX10_isRule 2 (some .boolean) rmX10_isRule [vr G 0, vi x1] (w0 σ) vzI (wzR σ) (gX10_isRule σ x1) := by
  refine ctr_of (by decide) (Nat.le_of_ble_eq_true rfl) mwX10_isRule.1 (fun X hl hR C R hnm => ?_)
  subst hl
  refine z_lv (lv' := [(0, vr G 0), (1, vi x1)]) [0, 1] rfl ?_
  show ZZ X G 2 (QM X G vzI (wzR σ) (0, 0)) (0, 0) (if w32 x1 < 0 then some 0 else if w32 x1 ≥ w32 (σ 0 12) then some 0 else some 1) (w0 σ) 0 [(0, vr G 0), (1, vi x1)] []
  refine z_iload_n C 1 rfl 1 rfl dX10_isRule_0 1 rfl ?_
  refine z_if_lt C dX10_isRule_1 16 (by decide) 4 rfl rfl (fun _ => ?_) (fun _ => ?_)
  · refine z_iconst C dX10_isRule_16 17 rfl ?_
    exact z_zret C R nz0 rfl rfl dX10_isRule_17
  · refine z_iload_n C 1 rfl 1 rfl dX10_isRule_4 5 rfl ?_
    refine z_aload_n C 0 rfl 0 rfl dX10_isRule_5 6 rfl ?_
    refine y_getI C fX10_158 one_10 dX10_isRule_6 9 rfl ?_
    refine z_icmp_ge C dX10_isRule_9 16 (by decide) 12 rfl rfl rfl (fun _ => ?_) (fun _ => ?_)
    · refine z_iconst C dX10_isRule_16 17 rfl ?_
      exact z_zret C R nz0 rfl rfl dX10_isRule_17
    · refine z_iconst C dX10_isRule_12 13 rfl ?_
      refine z_goto C dX10_isRule_13 17 (by decide) ?_
      exact z_zret C R nz1 rfl rfl dX10_isRule_17
-- isEach
def gX10_isEach (σ : St) (x0 : Int) (x1 : Int) : Option (Int) := if w32 x0 < 10 then some 0 else if w32 (x0 - 10) ≥ w32 x1 then some 0 else some 1
def rmX10_isEach : Room := { frames := 0, cells := 0, slots := 0, locals := 0 }
set_option maxRecDepth 100000 in
set_option maxHeartbeats 4000000 in
theorem tX10_isEach (l : Launch) (G : GG) (σ : St) (x0 : Int) (x1 : Int) : Ctr l G yX10_isEach cX10_isEach 2 (some .boolean) rmX10_isEach [vi x0, vi x1] (w0 σ) vzI (wzR σ) (gX10_isEach σ x0 x1) := by
  refine ctr_of (by decide) (Nat.le_of_ble_eq_true rfl) mwX10_isEach.1 (fun X hl hR C R hnm => ?_)
  subst hl
  refine z_lv (lv' := [(0, vi x0), (1, vi x1)]) [0, 1] rfl ?_
  show ZZ X G 2 (QM X G vzI (wzR σ) (0, 0)) (0, 0) (if w32 x0 < 10 then some 0 else if w32 (x0 - 10) ≥ w32 x1 then some 0 else some 1) (w0 σ) 0 [(0, vi x0), (1, vi x1)] []
  refine z_iload_n C 0 rfl 0 rfl dX10_isEach_0 1 rfl ?_
  refine z_bipush C (by decide) dX10_isEach_1 3 rfl ?_
  refine z_icmp_lt C dX10_isEach_3 18 (by decide) 6 rfl rfl (w32_id (a := 10) (by decide)) (fun _ => ?_) (fun _ => ?_)
  · refine z_iconst C dX10_isEach_18 19 rfl ?_
    exact z_zret C R nz0 rfl rfl dX10_isEach_19
  · refine z_iload_n C 0 rfl 0 rfl dX10_isEach_6 7 rfl ?_
    refine z_bipush C (by decide) dX10_isEach_7 9 rfl ?_
    refine z_isub C dX10_isEach_9 10 rfl ?_
    refine z_iload_n C 1 rfl 1 rfl dX10_isEach_10 11 rfl ?_
    refine z_icmp_ge C dX10_isEach_11 18 (by decide) 14 rfl rfl rfl (fun _ => ?_) (fun _ => ?_)
    · refine z_iconst C dX10_isEach_18 19 rfl ?_
      exact z_zret C R nz0 rfl rfl dX10_isEach_19
    · refine z_iconst C dX10_isEach_14 15 rfl ?_
      refine z_goto C dX10_isEach_15 19 (by decide) ?_
      exact z_zret C R nz1 rfl rfl dX10_isEach_19
-- ruleOf
def gX10_ruleOf (σ : St) (x1 : Int) (x2 : Int) : Option (Int) := (gX10_isRule σ x1).bind fun r1 => if w32 r1 ≠ 0 then gd (0 ≤ w32 x1 ∧ w32 x1 < 6) ((gX10_isEach σ x2 (σ (63 + 12 * (w32 x1)) 8)).bind fun r3 => if w32 r3 = 0 then if w32 x2 = 0 then some (σ (63 + 12 * (w32 x1)) 8) else if w32 x2 = 1 then some (σ (63 + 12 * (w32 x1)) 9) else if w32 x2 = 2 then if w32 (σ (63 + 12 * (w32 x1)) 10) = 0 then some 0 else some 1 else some ((-1)) else gd (0 ≤ w32 (x2 - 10) ∧ w32 (x2 - 10) < 6) (gd (0 ≤ w32 (x2 - 10) ∧ w32 (x2 - 10) < 6) (if w32 (σ ((63 + 12 * (w32 x1)) + 2) (w32 (x2 - 10))) = 0 then some ((σ ((63 + 12 * (w32 x1)) + 1) (w32 (x2 - 10))) + 0) else some ((σ ((63 + 12 * (w32 x1)) + 1) (w32 (x2 - 10))) + 10)))) else some ((-1))
def rmX10_ruleOf : Room := { frames := 1, cells := 0, slots := 0, locals := 21 }
set_option maxRecDepth 100000 in
set_option maxHeartbeats 4000000 in
theorem tX10_ruleOf (l : Launch) (G : GG) (σ : St) (x1 : Int) (x2 : Int) : Ctr l G yX10_ruleOf cX10_ruleOf 5 (some .int) rmX10_ruleOf [vr G 0, vi x1, vi x2] (w0 σ) vzI (wzR σ) (gX10_ruleOf σ x1 x2) := by
  refine ctr_of (by decide) (Nat.le_of_ble_eq_true rfl) mwX10_ruleOf.1 (fun X hl hR C R hnm => ?_)
  subst hl
  refine z_lv (lv' := [(0, vr G 0), (1, vi x1), (2, vi x2)]) [0, 1, 2] rfl ?_
  show ZZ X G 5 (QM X G vzI (wzR σ) (0, 0)) (0, 0) ((gX10_isRule σ x1).bind fun r1 => if w32 r1 ≠ 0 then gd (0 ≤ w32 x1 ∧ w32 x1 < 6) ((gX10_isEach σ x2 (σ (63 + 12 * (w32 x1)) 8)).bind fun r3 => if w32 r3 = 0 then if w32 x2 = 0 then some (σ (63 + 12 * (w32 x1)) 8) else if w32 x2 = 1 then some (σ (63 + 12 * (w32 x1)) 9) else if w32 x2 = 2 then if w32 (σ (63 + 12 * (w32 x1)) 10) = 0 then some 0 else some 1 else some ((-1)) else gd (0 ≤ w32 (x2 - 10) ∧ w32 (x2 - 10) < 6) (gd (0 ≤ w32 (x2 - 10) ∧ w32 (x2 - 10) < 6) (if w32 (σ ((63 + 12 * (w32 x1)) + 2) (w32 (x2 - 10))) = 0 then some ((σ ((63 + 12 * (w32 x1)) + 1) (w32 (x2 - 10))) + 0) else some ((σ ((63 + 12 * (w32 x1)) + 1) (w32 (x2 - 10))) + 10)))) else some ((-1))) (w0 σ) 0 [(0, vr G 0), (1, vi x1), (2, vi x2)] []
  refine z_aload_n C 0 rfl 0 rfl dX10_ruleOf_0 1 rfl ?_
  refine z_iload_n C 1 rfl 1 rfl dX10_ruleOf_1 2 rfl ?_
  refine y_callVI C hR (tX10_isRule (mL X) G σ x1) ⟨mwX10_isRule, mvX10_isRule, lkX10_174⟩ one_10 rfl rfl (Nat.le_of_ble_eq_true rfl) (by unfold rmOK; decide) dX10_ruleOf_2 5 rfl (fun r1 _ => ?_)
  refine z_if_ne C dX10_ruleOf_5 10 (by decide) 8 rfl rfl (fun _ => ?_) (fun _ => ?_)
  · refine z_aload_n C 0 rfl 0 rfl dX10_ruleOf_10 11 rfl ?_
    refine y_getR C fX10_57 one_10 lay_10_8 dX10_ruleOf_11 14 rfl ?_
    refine z_iload_n C 1 rfl 1 rfl dX10_ruleOf_14 15 rfl ?_
    refine y_aald (t := 0) C lay_10_8.2 (by decide) rfl dX10_ruleOf_15 16 rfl rfl (fun r => 63 + 12 * r) (fun h => lay_rules h) (fun hb2 => ?_)
    refine z_astore_n (lv' := [(3, vr G (63 + 12 * (w32 x1))), (0, vr G 0), (1, vi x1), (2, vi x2)]) C 3 rfl (by decide) dX10_ruleOf_16 17 rfl rfl ?_
    refine z_iload_n C 2 rfl 3 rfl dX10_ruleOf_17 18 rfl ?_
    refine z_aload_n C 3 rfl 0 rfl dX10_ruleOf_18 19 rfl ?_
    refine y_getI C fX10_177 ((lay_rules hb2).2) dX10_ruleOf_19 22 rfl ?_
    refine y_callSI C hR (tX10_isEach (mL X) G σ x2 (σ (63 + 12 * (w32 x1)) 8)) ⟨mwX10_isEach, msX10_isEach, lkX10_180⟩ rfl rfl (Nat.le_of_ble_eq_true rfl) (by unfold rmOK; decide) dX10_ruleOf_22 25 rfl (fun r3 _ => ?_)
    refine z_if_eq C dX10_ruleOf_25 59 (by decide) 28 rfl rfl (fun _ => ?_) (fun _ => ?_)
    · refine z_iload_n C 2 rfl 3 rfl dX10_ruleOf_59 60 rfl ?_
      refine z_ite (fun hq0 => ?_) (fun hn0 => ?_)
      · refine z_tin C dX10_ruleOf_60 (v := 0) (hq0) (by decide) rfl 88 (by decide) ?_
        refine z_aload_n C 3 rfl 0 rfl dX10_ruleOf_88 89 rfl ?_
        refine y_getI C fX10_177 ((lay_rules hb2).2) dX10_ruleOf_89 92 rfl ?_
        exact z_iret C R rfl rfl dX10_ruleOf_92
      refine z_ite (fun hq1 => ?_) (fun hn1 => ?_)
      · refine z_tin C dX10_ruleOf_60 (v := 1) (hq1) (by decide) rfl 93 (by decide) ?_
        refine z_aload_n C 3 rfl 0 rfl dX10_ruleOf_93 94 rfl ?_
        refine y_getI C fX10_191 ((lay_rules hb2).2) dX10_ruleOf_94 97 rfl ?_
        exact z_iret C R rfl rfl dX10_ruleOf_97
      refine z_ite (fun hq2 => ?_) (fun hn2 => ?_)
      · refine z_tin C dX10_ruleOf_60 (v := 2) (hq2) (by decide) rfl 98 (by decide) ?_
        refine z_aload_n C 3 rfl 0 rfl dX10_ruleOf_98 99 rfl ?_
        refine y_getZ C fX10_194 ((lay_rules hb2).2) dX10_ruleOf_99 102 rfl ?_
        refine z_if_eq C dX10_ruleOf_102 109 (by decide) 105 rfl rfl (fun _ => ?_) (fun _ => ?_)
        · refine z_iconst C dX10_ruleOf_109 110 rfl ?_
          exact z_iret C R rfl rfl dX10_ruleOf_110
        · refine z_iconst C dX10_ruleOf_105 106 rfl ?_
          refine z_goto C dX10_ruleOf_106 110 (by decide) ?_
          exact z_iret C R rfl rfl dX10_ruleOf_110
      refine z_tout C dX10_ruleOf_60 (by omega) 111 (by decide) ?_
      refine z_iconst C dX10_ruleOf_111 112 rfl ?_
      exact z_iret C R rfl rfl dX10_ruleOf_112
    · refine z_iload_n C 2 rfl 3 rfl dX10_ruleOf_28 29 rfl ?_
      refine z_bipush C (by decide) dX10_ruleOf_29 31 rfl ?_
      refine z_isub C dX10_ruleOf_31 32 rfl ?_
      refine z_istore (lv' := [(4, vi (x2 - 10)), (3, vr G (63 + 12 * (w32 x1))), (0, vr G 0), (1, vi x1), (2, vi x2)]) C (by decide) dX10_ruleOf_32 34 rfl rfl ?_
      refine z_aload_n C 3 rfl 1 rfl dX10_ruleOf_34 35 rfl ?_
      refine y_getR C fX10_184 ((lay_rules hb2).2) (lay_5_0 ((lay_rules hb2).2)) dX10_ruleOf_35 38 rfl ?_
      refine z_iload C 0 rfl dX10_ruleOf_38 40 rfl ?_
      refine y_iald C ((lay_5_0 ((lay_rules hb2).2)).2) rfl dX10_ruleOf_40 41 rfl rfl (fun _ => ?_)
      refine z_aload_n C 3 rfl 1 rfl dX10_ruleOf_41 42 rfl ?_
      refine y_getR C fX10_187 ((lay_rules hb2).2) (lay_5_1 ((lay_rules hb2).2)) dX10_ruleOf_42 45 rfl ?_
      refine z_iload C 0 rfl dX10_ruleOf_45 47 rfl ?_
      refine y_zald C ((lay_5_1 ((lay_rules hb2).2)).2) rfl dX10_ruleOf_47 48 rfl rfl (fun _ => ?_)
      refine z_if_eq C dX10_ruleOf_48 56 (by decide) 51 rfl rfl (fun _ => ?_) (fun _ => ?_)
      · refine z_iconst C dX10_ruleOf_56 57 rfl ?_
        refine z_iadd C dX10_ruleOf_57 58 rfl ?_
        exact z_iret C R rfl rfl dX10_ruleOf_58
      · refine z_bipush C (by decide) dX10_ruleOf_51 53 rfl ?_
        refine z_goto C dX10_ruleOf_53 57 (by decide) ?_
        refine z_iadd C dX10_ruleOf_57 58 rfl ?_
        exact z_iret C R rfl rfl dX10_ruleOf_58
  · refine z_iconst C dX10_ruleOf_8 9 rfl ?_
    exact z_iret C R rfl rfl dX10_ruleOf_9
-- run
def gX10_run_L33 (F : Nat) (x1 : Int) (x2 : Int) (σ : St) : Option (Int × St) := gd (0 ≤ w32 x1 ∧ w32 x1 < 6) ((gX7_runByNumbers F σ 17 (63 + 12 * (w32 x1))).bind fun r2 => if w32 x2 = 0 then (gX7_value F r2 17).bind fun r3 => some (r3, r2) else if w32 x2 = 1 then (gX7_kept F r2 17).bind fun r4 => some (r4, r2) else if w32 x2 = 2 then (gX7_paired F r2 17).bind fun r5 => some (r5, r2) else if w32 x2 = 3 then some (r2 17 11, r2) else gd (0 ≤ w32 (x2 - 10) ∧ w32 (x2 - 10) < 9) (some (r2 (17 + 3) (w32 (x2 - 10)), r2)))
def gX10_run (F : Nat) (σ : St) (x1 : Int) (x2 : Int) : Option (Int × St) := (gX10_isRule σ x1).bind fun r1 => if w32 r1 = 0 then some ((-1), σ) else (gX10_isIn σ x2 0 3).bind fun r2 => if w32 r2 ≠ 0 then gX10_run_L33 F x1 x2 σ else (gX10_isEach σ x2 (σ 1 6)).bind fun r3 => if w32 r3 ≠ 0 then gX10_run_L33 F x1 x2 σ else some ((-1), σ)
def rmX10_run : Room := { frames := 6, cells := 0, slots := 0, locals := 142 }
set_option maxRecDepth 100000 in
set_option maxHeartbeats 4000000 in
theorem pX10_run_L33 {X : MX} {G : GG} (C : CX X G 3 cX10_run RX10) (R : RT X (some .int)) (hR : mR X = rmX10_run) (F : Nat) (x1 : Int) (x2 : Int)  : ∀ (σ : St), ZZ X G 3 (QM X G vzIw wzW (0, 0)) (0, 0) (gX10_run_L33 F x1 x2 σ) (w0 σ) 33 [(0, vr G 0), (1, vi x1), (2, vi x2)] [] := by
  intro σ
  show ZZ X G 3 (QM X G vzIw wzW (0, 0)) (0, 0) (gd (0 ≤ w32 x1 ∧ w32 x1 < 6) ((gX7_runByNumbers F σ 17 (63 + 12 * (w32 x1))).bind fun r2 => if w32 x2 = 0 then (gX7_value F r2 17).bind fun r3 => some (r3, r2) else if w32 x2 = 1 then (gX7_kept F r2 17).bind fun r4 => some (r4, r2) else if w32 x2 = 2 then (gX7_paired F r2 17).bind fun r5 => some (r5, r2) else if w32 x2 = 3 then some (r2 17 11, r2) else gd (0 ≤ w32 (x2 - 10) ∧ w32 (x2 - 10) < 9) (some (r2 (17 + 3) (w32 (x2 - 10)), r2)))) (w0 σ) 33 [(0, vr G 0), (1, vi x1), (2, vi x2)] []
  refine z_aload_n C 0 rfl 0 rfl dX10_run_33 34 rfl ?_
  refine y_getR C fX10_25 one_10 lay_10_2 dX10_run_34 37 rfl ?_
  refine z_aload_n C 0 rfl 0 rfl dX10_run_37 38 rfl ?_
  refine y_getR C fX10_57 one_10 lay_10_8 dX10_run_38 41 rfl ?_
  refine z_iload_n C 1 rfl 1 rfl dX10_run_41 42 rfl ?_
  refine y_aald (t := 0) C lay_10_8.2 (by decide) rfl dX10_run_42 43 rfl rfl (fun r => 63 + 12 * r) (fun h => lay_rules h) (fun hb1 => ?_)
  refine y_callVv C hR (tX7_runByNumbers (mL X) G F σ 17 (63 + 12 * (w32 x1)) lay_10_2.2 ((lay_rules hb1).2)) ⟨mwX7_runByNumbers, mvX7_runByNumbers, lkX10_198⟩ lay_10_2.2 rfl rfl (Nat.le_of_ble_eq_true rfl) (by unfold rmOK; decide) dX10_run_43 46 rfl (fun r2 _ => ?_)
  refine z_iload_n C 2 rfl 2 rfl dX10_run_46 47 rfl ?_
  refine z_ite (fun hq0 => ?_) (fun hn0 => ?_)
  · refine z_tin C dX10_run_47 (v := 0) (hq0) (by decide) rfl 76 (by decide) ?_
    refine z_aload_n C 0 rfl 0 rfl dX10_run_76 77 rfl ?_
    refine y_getR C fX10_25 one_10 lay_10_2 dX10_run_77 80 rfl ?_
    refine y_callVI C hR (tX7_value (mL X) G F r2 17 lay_10_2.2) ⟨mwX7_value, mvX7_value, lkX10_201⟩ lay_10_2.2 rfl rfl (Nat.le_of_ble_eq_true rfl) (by unfold rmOK; decide) dX10_run_80 83 rfl (fun r3 _ => ?_)
    exact z_iret C R rfl rfl dX10_run_83
  refine z_ite (fun hq1 => ?_) (fun hn1 => ?_)
  · refine z_tin C dX10_run_47 (v := 1) (hq1) (by decide) rfl 84 (by decide) ?_
    refine z_aload_n C 0 rfl 0 rfl dX10_run_84 85 rfl ?_
    refine y_getR C fX10_25 one_10 lay_10_2 dX10_run_85 88 rfl ?_
    refine y_callVI C hR (tX7_kept (mL X) G F r2 17 lay_10_2.2) ⟨mwX7_kept, mvX7_kept, lkX10_204⟩ lay_10_2.2 rfl rfl (Nat.le_of_ble_eq_true rfl) (by unfold rmOK; decide) dX10_run_88 91 rfl (fun r4 _ => ?_)
    exact z_iret C R rfl rfl dX10_run_91
  refine z_ite (fun hq2 => ?_) (fun hn2 => ?_)
  · refine z_tin C dX10_run_47 (v := 2) (hq2) (by decide) rfl 92 (by decide) ?_
    refine z_aload_n C 0 rfl 0 rfl dX10_run_92 93 rfl ?_
    refine y_getR C fX10_25 one_10 lay_10_2 dX10_run_93 96 rfl ?_
    refine y_callVI C hR (tX7_paired (mL X) G F r2 17 lay_10_2.2) ⟨mwX7_paired, mvX7_paired, lkX10_207⟩ lay_10_2.2 rfl rfl (Nat.le_of_ble_eq_true rfl) (by unfold rmOK; decide) dX10_run_96 99 rfl (fun r5 _ => ?_)
    exact z_iret C R rfl rfl dX10_run_99
  refine z_ite (fun hq3 => ?_) (fun hn3 => ?_)
  · refine z_tin C dX10_run_47 (v := 3) (hq3) (by decide) rfl 100 (by decide) ?_
    refine z_aload_n C 0 rfl 0 rfl dX10_run_100 101 rfl ?_
    refine y_getR C fX10_25 one_10 lay_10_2 dX10_run_101 104 rfl ?_
    refine y_getI C fX10_210 lay_10_2.2 dX10_run_104 107 rfl ?_
    exact z_iret C R rfl rfl dX10_run_107
  refine z_tout C dX10_run_47 (by omega) 108 (by decide) ?_
  refine z_aload_n C 0 rfl 0 rfl dX10_run_108 109 rfl ?_
  refine y_getR C fX10_25 one_10 lay_10_2 dX10_run_109 112 rfl ?_
  refine y_getR C fX10_213 lay_10_2.2 (lay_7_3 lay_10_2.2) dX10_run_112 115 rfl ?_
  refine z_iload_n C 2 rfl 2 rfl dX10_run_115 116 rfl ?_
  refine z_bipush C (by decide) dX10_run_116 118 rfl ?_
  refine z_isub C dX10_run_118 119 rfl ?_
  refine y_iald C ((lay_7_3 lay_10_2.2).2) rfl dX10_run_119 120 rfl rfl (fun _ => ?_)
  exact z_iret C R rfl rfl dX10_run_120
set_option maxRecDepth 100000 in
set_option maxHeartbeats 4000000 in
theorem tX10_run (l : Launch) (G : GG) (F : Nat) (σ : St) (x1 : Int) (x2 : Int) : Ctr l G yX10_run cX10_run 3 (some .int) rmX10_run [vr G 0, vi x1, vi x2] (w0 σ) vzIw wzW (gX10_run F σ x1 x2) := by
  refine ctr_of (by decide) (Nat.le_of_ble_eq_true rfl) mwX10_run.1 (fun X hl hR C R hnm => ?_)
  subst hl
  refine z_lv (lv' := [(0, vr G 0), (1, vi x1), (2, vi x2)]) [0, 1, 2] rfl ?_
  show ZZ X G 3 (QM X G vzIw wzW (0, 0)) (0, 0) ((gX10_isRule σ x1).bind fun r1 => if w32 r1 = 0 then some ((-1), σ) else (gX10_isIn σ x2 0 3).bind fun r2 => if w32 r2 ≠ 0 then gX10_run_L33 F x1 x2 σ else (gX10_isEach σ x2 (σ 1 6)).bind fun r3 => if w32 r3 ≠ 0 then gX10_run_L33 F x1 x2 σ else some ((-1), σ)) (w0 σ) 0 [(0, vr G 0), (1, vi x1), (2, vi x2)] []
  refine z_aload_n C 0 rfl 0 rfl dX10_run_0 1 rfl ?_
  refine z_iload_n C 1 rfl 1 rfl dX10_run_1 2 rfl ?_
  refine y_callVI C hR (tX10_isRule (mL X) G σ x1) ⟨mwX10_isRule, mvX10_isRule, lkX10_174⟩ one_10 rfl rfl (Nat.le_of_ble_eq_true rfl) (by unfold rmOK; decide) dX10_run_2 5 rfl (fun r1 _ => ?_)
  refine z_if_eq C dX10_run_5 31 (by decide) 8 rfl rfl (fun _ => ?_) (fun _ => ?_)
  · refine z_iconst C dX10_run_31 32 rfl ?_
    exact z_iret C R rfl rfl dX10_run_32
  · refine z_iload_n C 2 rfl 2 rfl dX10_run_8 9 rfl ?_
    refine z_iconst C dX10_run_9 10 rfl ?_
    refine z_iconst C dX10_run_10 11 rfl ?_
    refine y_callSI C hR (tX10_isIn (mL X) G σ x2 0 3) ⟨mwX10_isIn, msX10_isIn, lkX10_76⟩ rfl rfl (Nat.le_of_ble_eq_true rfl) (by unfold rmOK; decide) dX10_run_11 14 rfl (fun r2 _ => ?_)
    refine z_if_ne C dX10_run_14 33 (by decide) 17 rfl rfl (fun _ => ?_) (fun _ => ?_)
    · exact pX10_run_L33 C R hR F x1 x2 σ
    · refine z_iload_n C 2 rfl 2 rfl dX10_run_17 18 rfl ?_
      refine z_aload_n C 0 rfl 0 rfl dX10_run_18 19 rfl ?_
      refine y_getR C fX10_10 one_10 lay_10_0 dX10_run_19 22 rfl ?_
      refine y_getI C fX10_95 lay_10_0.2 dX10_run_22 25 rfl ?_
      refine y_callSI C hR (tX10_isEach (mL X) G σ x2 (σ 1 6)) ⟨mwX10_isEach, msX10_isEach, lkX10_180⟩ rfl rfl (Nat.le_of_ble_eq_true rfl) (by unfold rmOK; decide) dX10_run_25 28 rfl (fun r3 _ => ?_)
      refine z_if_ne C dX10_run_28 33 (by decide) 31 rfl rfl (fun _ => ?_) (fun _ => ?_)
      · exact pX10_run_L33 C R hR F x1 x2 σ
      · refine z_iconst C dX10_run_31 32 rfl ?_
        exact z_iret C R rfl rfl dX10_run_32
-- readOrder
def gX10_readOrder_L21 (F : Nat) (x1 : Int) : Nat → Int → Int → Int → St → Option (Int × St)
  | 0, _, _, _, _ => none
  | n + 1, x2, x3, x4, σ => if w32 x4 < 0 then if w32 x2 ≠ 0 then some (0, σ) else some (1, σ) else gd (w32 10 ≠ 0) (gd (w32 10 ≠ 0) (if irm x2 10 ≥ w32 (σ 1 6) then some (0, σ) else if iand (ishr x3 (irm x2 10)) 1 = 0 then gd (0 ≤ w32 x4 ∧ w32 x4 < 9) (gX10_readOrder_L21 F x1 n (idv x2 10) (ior x3 (ishl 1 (irm x2 10))) (x4 + (-1)) (up σ 61 (w32 x4) (irm x2 10))) else some (0, σ)))
def gX10_readOrder (F : Nat) (σ : St) (x1 : Int) : Option (Int × St) := if w32 x1 ≥ 0 then gX10_readOrder_L21 F x1 F x1 0 ((σ 1 6) - 1) σ else some (0, σ)
def rmX10_readOrder : Room := { frames := 0, cells := 0, slots := 0, locals := 0 }
set_option maxRecDepth 100000 in
set_option maxHeartbeats 4000000 in
theorem pX10_readOrder_L21 {X : MX} {G : GG} (C : CX X G 6 cX10_readOrder RX10) (R : RT X (some .boolean)) (hR : mR X = rmX10_readOrder) (F : Nat) (x1 : Int)  : ∀ (n : Nat) (x2 : Int) (x3 : Int) (x4 : Int) (σ : St), ZZ X G 6 (QM X G vzIw wzW (0, 0)) (0, 0) (gX10_readOrder_L21 F x1 n x2 x3 x4 σ) (w0 σ) 21 [(0, vr G 0), (2, vi x2), (3, vi x3), (4, vi x4)] [] := by
  intro n
  induction n with
  | zero =>
    intro _ _ _ _
    exact z_none
  | succ n ih =>
    intro x2 x3 x4 σ
    show ZZ X G 6 (QM X G vzIw wzW (0, 0)) (0, 0) (if w32 x4 < 0 then if w32 x2 ≠ 0 then some (0, σ) else some (1, σ) else gd (w32 10 ≠ 0) (gd (w32 10 ≠ 0) (if irm x2 10 ≥ w32 (σ 1 6) then some (0, σ) else if iand (ishr x3 (irm x2 10)) 1 = 0 then gd (0 ≤ w32 x4 ∧ w32 x4 < 9) (gX10_readOrder_L21 F x1 n (idv x2 10) (ior x3 (ishl 1 (irm x2 10))) (x4 + (-1)) (up σ 61 (w32 x4) (irm x2 10))) else some (0, σ)))) (w0 σ) 21 [(0, vr G 0), (2, vi x2), (3, vi x3), (4, vi x4)] []
    refine z_iload C 3 rfl dX10_readOrder_21 23 rfl ?_
    refine z_if_lt C dX10_readOrder_23 82 (by decide) 26 rfl rfl (fun _ => ?_) (fun _ => ?_)
    · refine z_iload_n C 2 rfl 1 rfl dX10_readOrder_82 83 rfl ?_
      refine z_if_ne C dX10_readOrder_83 90 (by decide) 86 rfl rfl (fun _ => ?_) (fun _ => ?_)
      · refine z_iconst C dX10_readOrder_90 91 rfl ?_
        exact z_zret C R nz0 rfl rfl dX10_readOrder_91
      · refine z_iconst C dX10_readOrder_86 87 rfl ?_
        refine z_goto C dX10_readOrder_87 91 (by decide) ?_
        exact z_zret C R nz1 rfl rfl dX10_readOrder_91
    · refine z_iload_n C 2 rfl 1 rfl dX10_readOrder_26 27 rfl ?_
      refine z_bipush C (by decide) dX10_readOrder_27 29 rfl ?_
      refine z_irem C dX10_readOrder_29 30 rfl ?_
      refine z_istore (lv' := [(5, vi (irm x2 10)), (0, vr G 0), (2, vi x2), (3, vi x3), (4, vi x4)]) C (by decide) dX10_readOrder_30 32 rfl rfl ?_
      refine z_iload_n C 2 rfl 2 rfl dX10_readOrder_32 33 rfl ?_
      refine z_bipush C (by decide) dX10_readOrder_33 35 rfl ?_
      refine z_idiv C dX10_readOrder_35 36 rfl ?_
      refine z_istore_n (lv' := [(2, vi (idv x2 10)), (5, vi (irm x2 10)), (0, vr G 0), (3, vi x3), (4, vi x4)]) C 2 rfl (by decide) dX10_readOrder_36 37 rfl rfl ?_
      refine z_iload C 1 rfl dX10_readOrder_37 39 rfl ?_
      refine z_aload_n C 0 rfl 2 rfl dX10_readOrder_39 40 rfl ?_
      refine y_getR C fX10_10 one_10 lay_10_0 dX10_readOrder_40 43 rfl ?_
      refine y_getI C fX10_95 lay_10_0.2 dX10_readOrder_43 46 rfl ?_
      refine z_icmp_ge C dX10_readOrder_46 58 (by decide) 49 rfl (w32_irm _ _) rfl (fun _ => ?_) (fun _ => ?_)
      · refine z_iconst C dX10_readOrder_58 59 rfl ?_
        exact z_zret C R nz0 rfl rfl dX10_readOrder_59
      · refine z_iload_n C 3 rfl 3 rfl dX10_readOrder_49 50 rfl ?_
        refine z_iload C 1 rfl dX10_readOrder_50 52 rfl ?_
        refine z_ishr C dX10_readOrder_52 53 rfl ?_
        refine z_iconst C dX10_readOrder_53 54 rfl ?_
        refine z_iand C dX10_readOrder_54 55 rfl ?_
        refine z_if_eq C dX10_readOrder_55 60 (by decide) 58 rfl (w32_iand _ _) (fun _ => ?_) (fun _ => ?_)
        · refine z_iload_n C 3 rfl 3 rfl dX10_readOrder_60 61 rfl ?_
          refine z_iconst C dX10_readOrder_61 62 rfl ?_
          refine z_iload C 1 rfl dX10_readOrder_62 64 rfl ?_
          refine z_ishl C dX10_readOrder_64 65 rfl ?_
          refine z_ior C dX10_readOrder_65 66 rfl ?_
          refine z_istore_n (lv' := [(3, vi (ior x3 (ishl 1 (irm x2 10)))), (2, vi (idv x2 10)), (5, vi (irm x2 10)), (0, vr G 0), (4, vi x4)]) C 3 rfl (by decide) dX10_readOrder_66 67 rfl rfl ?_
          refine z_aload_n C 0 rfl 3 rfl dX10_readOrder_67 68 rfl ?_
          refine y_getR C fX10_67 one_10 lay_10_10 dX10_readOrder_68 71 rfl ?_
          refine z_iload C 4 rfl dX10_readOrder_71 73 rfl ?_
          refine z_iload C 2 rfl dX10_readOrder_73 75 rfl ?_
          refine y_iast C lay_10_10.2 rfl dX10_readOrder_75 76 rfl rfl (fun _ => ?_)
          refine z_iinc (lv' := [(4, vi (x4 + (-1))), (3, vi (ior x3 (ishl 1 (irm x2 10)))), (2, vi (idv x2 10)), (5, vi (irm x2 10)), (0, vr G 0)]) C (by decide) 4 rfl dX10_readOrder_76 79 rfl rfl ?_
          refine z_goto C dX10_readOrder_79 21 (by decide) ?_
          refine z_lv (lv' := [(0, vr G 0), (2, vi (idv x2 10)), (3, vi (ior x3 (ishl 1 (irm x2 10)))), (4, vi (x4 + (-1)))]) [4, 2, 1, 0] rfl ?_
          exact ih (idv x2 10) (ior x3 (ishl 1 (irm x2 10))) (x4 + (-1)) (up σ 61 (w32 x4) (irm x2 10))
        · refine z_iconst C dX10_readOrder_58 59 rfl ?_
          exact z_zret C R nz0 rfl rfl dX10_readOrder_59
set_option maxRecDepth 100000 in
set_option maxHeartbeats 4000000 in
theorem tX10_readOrder (l : Launch) (G : GG) (F : Nat) (σ : St) (x1 : Int) : Ctr l G yX10_readOrder cX10_readOrder 6 (some .boolean) rmX10_readOrder [vr G 0, vi x1] (w0 σ) vzIw wzW (gX10_readOrder F σ x1) := by
  refine ctr_of (by decide) (Nat.le_of_ble_eq_true rfl) mwX10_readOrder.1 (fun X hl hR C R hnm => ?_)
  subst hl
  refine z_lv (lv' := [(0, vr G 0), (1, vi x1)]) [0, 1] rfl ?_
  show ZZ X G 6 (QM X G vzIw wzW (0, 0)) (0, 0) (if w32 x1 ≥ 0 then gX10_readOrder_L21 F x1 F x1 0 ((σ 1 6) - 1) σ else some (0, σ)) (w0 σ) 0 [(0, vr G 0), (1, vi x1)] []
  refine z_iload_n C 1 rfl 1 rfl dX10_readOrder_0 1 rfl ?_
  refine z_if_ge C dX10_readOrder_1 6 (by decide) 4 rfl rfl (fun _ => ?_) (fun _ => ?_)
  · refine z_iload_n C 1 rfl 1 rfl dX10_readOrder_6 7 rfl ?_
    refine z_istore_n (lv' := [(2, vi x1), (0, vr G 0), (1, vi x1)]) C 2 rfl (by decide) dX10_readOrder_7 8 rfl rfl ?_
    refine z_iconst C dX10_readOrder_8 9 rfl ?_
    refine z_istore_n (lv' := [(3, vi 0), (2, vi x1), (0, vr G 0), (1, vi x1)]) C 3 rfl (by decide) dX10_readOrder_9 10 rfl rfl ?_
    refine z_aload_n C 0 rfl 2 rfl dX10_readOrder_10 11 rfl ?_
    refine y_getR C fX10_10 one_10 lay_10_0 dX10_readOrder_11 14 rfl ?_
    refine y_getI C fX10_95 lay_10_0.2 dX10_readOrder_14 17 rfl ?_
    refine z_iconst C dX10_readOrder_17 18 rfl ?_
    refine z_isub C dX10_readOrder_18 19 rfl ?_
    refine z_istore (lv' := [(4, vi ((σ 1 6) - 1)), (3, vi 0), (2, vi x1), (0, vr G 0), (1, vi x1)]) C (by decide) dX10_readOrder_19 21 rfl rfl ?_
    refine z_lv (lv' := [(0, vr G 0), (2, vi x1), (3, vi 0), (4, vi ((σ 1 6) - 1))]) [3, 2, 1, 0] rfl ?_
    exact pX10_readOrder_L21 C R hR F x1 F x1 0 ((σ 1 6) - 1) σ
  · refine z_iconst C dX10_readOrder_4 5 rfl ?_
    exact z_zret C R nz0 rfl rfl dX10_readOrder_5
-- runBy
def gX10_runBy_L27 (F : Nat) (x1 : Int) (x2 : Int) : Nat → Int → St → Option (Int × St)
  | 0, _, _ => none
  | n + 1, x3, σ => if w32 x3 ≥ w32 (σ 1 6) then (gX7_value F σ 17).bind fun r1 => some (r1, σ) else gd (0 ≤ w32 x3 ∧ w32 x3 < 9) (gd (0 ≤ w32 x1 ∧ w32 x1 < 6) ((gX7_comeBy F σ 17 (σ 61 (w32 x3)) (63 + 12 * (w32 x1))).bind fun r3 => gX10_runBy_L27 F x1 x2 n (x3 + 1) r3.2))
def gX10_runBy (F : Nat) (σ : St) (x1 : Int) (x2 : Int) : Option (Int × St) := (gX10_isRule σ x1).bind fun r1 => if w32 r1 = 0 then some ((-1), σ) else (gX10_readOrder F σ x2).bind fun r2 => if w32 r2.1 ≠ 0 then (gX7_clear r2.2 17).bind fun r3 => gX10_runBy_L27 F x1 x2 F 0 r3 else some ((-1), r2.2)
def rmX10_runBy : Room := { frames := 5, cells := 0, slots := 0, locals := 120 }
set_option maxRecDepth 100000 in
set_option maxHeartbeats 4000000 in
theorem pX10_runBy_L27 {X : MX} {G : GG} (C : CX X G 4 cX10_runBy RX10) (R : RT X (some .int)) (hR : mR X = rmX10_runBy) (F : Nat) (x1 : Int) (x2 : Int)  : ∀ (n : Nat) (x3 : Int) (σ : St), ZZ X G 4 (QM X G vzIw wzW (0, 0)) (0, 0) (gX10_runBy_L27 F x1 x2 n x3 σ) (w0 σ) 27 [(0, vr G 0), (1, vi x1), (3, vi x3)] [] := by
  intro n
  induction n with
  | zero =>
    intro _ _
    exact z_none
  | succ n ih =>
    intro x3 σ
    show ZZ X G 4 (QM X G vzIw wzW (0, 0)) (0, 0) (if w32 x3 ≥ w32 (σ 1 6) then (gX7_value F σ 17).bind fun r1 => some (r1, σ) else gd (0 ≤ w32 x3 ∧ w32 x3 < 9) (gd (0 ≤ w32 x1 ∧ w32 x1 < 6) ((gX7_comeBy F σ 17 (σ 61 (w32 x3)) (63 + 12 * (w32 x1))).bind fun r3 => gX10_runBy_L27 F x1 x2 n (x3 + 1) r3.2))) (w0 σ) 27 [(0, vr G 0), (1, vi x1), (3, vi x3)] []
    refine z_iload_n C 3 rfl 2 rfl dX10_runBy_27 28 rfl ?_
    refine z_aload_n C 0 rfl 0 rfl dX10_runBy_28 29 rfl ?_
    refine y_getR C fX10_10 one_10 lay_10_0 dX10_runBy_29 32 rfl ?_
    refine y_getI C fX10_95 lay_10_0.2 dX10_runBy_32 35 rfl ?_
    refine z_icmp_ge C dX10_runBy_35 64 (by decide) 38 rfl rfl rfl (fun _ => ?_) (fun _ => ?_)
    · refine z_aload_n C 0 rfl 0 rfl dX10_runBy_64 65 rfl ?_
      refine y_getR C fX10_25 one_10 lay_10_2 dX10_runBy_65 68 rfl ?_
      refine y_callVI C hR (tX7_value (mL X) G F σ 17 lay_10_2.2) ⟨mwX7_value, mvX7_value, lkX10_201⟩ lay_10_2.2 rfl rfl (Nat.le_of_ble_eq_true rfl) (by unfold rmOK; decide) dX10_runBy_68 71 rfl (fun r1 _ => ?_)
      exact z_iret C R rfl rfl dX10_runBy_71
    · refine z_aload_n C 0 rfl 0 rfl dX10_runBy_38 39 rfl ?_
      refine y_getR C fX10_25 one_10 lay_10_2 dX10_runBy_39 42 rfl ?_
      refine z_aload_n C 0 rfl 0 rfl dX10_runBy_42 43 rfl ?_
      refine y_getR C fX10_67 one_10 lay_10_10 dX10_runBy_43 46 rfl ?_
      refine z_iload_n C 3 rfl 2 rfl dX10_runBy_46 47 rfl ?_
      refine y_iald C lay_10_10.2 rfl dX10_runBy_47 48 rfl rfl (fun _ => ?_)
      refine z_aload_n C 0 rfl 0 rfl dX10_runBy_48 49 rfl ?_
      refine y_getR C fX10_57 one_10 lay_10_8 dX10_runBy_49 52 rfl ?_
      refine z_iload_n C 1 rfl 1 rfl dX10_runBy_52 53 rfl ?_
      refine y_aald (t := 0) C lay_10_8.2 (by decide) rfl dX10_runBy_53 54 rfl rfl (fun r => 63 + 12 * r) (fun h => lay_rules h) (fun hb2 => ?_)
      refine y_callVIw C hR (tX7_comeBy (mL X) G F σ 17 (σ 61 (w32 x3)) (63 + 12 * (w32 x1)) lay_10_2.2 ((lay_rules hb2).2)) ⟨mwX7_comeBy, mvX7_comeBy, lkX10_222⟩ lay_10_2.2 rfl rfl (Nat.le_of_ble_eq_true rfl) (by unfold rmOK; decide) dX10_runBy_54 57 rfl (fun r3 _ => ?_)
      refine z_pop C rfl dX10_runBy_57 58 rfl ?_
      refine z_iinc (lv' := [(3, vi (x3 + 1)), (0, vr G 0), (1, vi x1)]) C (by decide) 2 rfl dX10_runBy_58 61 rfl rfl ?_
      refine z_goto C dX10_runBy_61 27 (by decide) ?_
      refine z_lv (lv' := [(0, vr G 0), (1, vi x1), (3, vi (x3 + 1))]) [1, 2, 0] rfl ?_
      exact ih (x3 + 1) r3.2
set_option maxRecDepth 100000 in
set_option maxHeartbeats 4000000 in
theorem tX10_runBy (l : Launch) (G : GG) (F : Nat) (σ : St) (x1 : Int) (x2 : Int) : Ctr l G yX10_runBy cX10_runBy 4 (some .int) rmX10_runBy [vr G 0, vi x1, vi x2] (w0 σ) vzIw wzW (gX10_runBy F σ x1 x2) := by
  refine ctr_of (by decide) (Nat.le_of_ble_eq_true rfl) mwX10_runBy.1 (fun X hl hR C R hnm => ?_)
  subst hl
  refine z_lv (lv' := [(0, vr G 0), (1, vi x1), (2, vi x2)]) [0, 1, 2] rfl ?_
  show ZZ X G 4 (QM X G vzIw wzW (0, 0)) (0, 0) ((gX10_isRule σ x1).bind fun r1 => if w32 r1 = 0 then some ((-1), σ) else (gX10_readOrder F σ x2).bind fun r2 => if w32 r2.1 ≠ 0 then (gX7_clear r2.2 17).bind fun r3 => gX10_runBy_L27 F x1 x2 F 0 r3 else some ((-1), r2.2)) (w0 σ) 0 [(0, vr G 0), (1, vi x1), (2, vi x2)] []
  refine z_aload_n C 0 rfl 0 rfl dX10_runBy_0 1 rfl ?_
  refine z_iload_n C 1 rfl 1 rfl dX10_runBy_1 2 rfl ?_
  refine y_callVI C hR (tX10_isRule (mL X) G σ x1) ⟨mwX10_isRule, mvX10_isRule, lkX10_174⟩ one_10 rfl rfl (Nat.le_of_ble_eq_true rfl) (by unfold rmOK; decide) dX10_runBy_2 5 rfl (fun r1 _ => ?_)
  refine z_if_eq C dX10_runBy_5 16 (by decide) 8 rfl rfl (fun _ => ?_) (fun _ => ?_)
  · refine z_iconst C dX10_runBy_16 17 rfl ?_
    exact z_iret C R rfl rfl dX10_runBy_17
  · refine z_aload_n C 0 rfl 0 rfl dX10_runBy_8 9 rfl ?_
    refine z_iload_n C 2 rfl 2 rfl dX10_runBy_9 10 rfl ?_
    refine y_callVIw C hR (tX10_readOrder (mL X) G F σ x2) ⟨mwX10_readOrder, mvX10_readOrder, lkX10_216⟩ one_10 rfl rfl (Nat.le_of_ble_eq_true rfl) (by unfold rmOK; decide) dX10_runBy_10 13 rfl (fun r2 _ => ?_)
    refine z_if_ne C dX10_runBy_13 18 (by decide) 16 rfl rfl (fun _ => ?_) (fun _ => ?_)
    · refine z_aload_n C 0 rfl 0 rfl dX10_runBy_18 19 rfl ?_
      refine y_getR C fX10_25 one_10 lay_10_2 dX10_runBy_19 22 rfl ?_
      refine y_callVv C hR (tX7_clear (mL X) G r2.2 17 lay_10_2.2) ⟨mwX7_clear, mvX7_clear, lkX10_219⟩ lay_10_2.2 rfl rfl (Nat.le_of_ble_eq_true rfl) (by unfold rmOK; decide) dX10_runBy_22 25 rfl (fun r3 _ => ?_)
      refine z_iconst C dX10_runBy_25 26 rfl ?_
      refine z_istore_n (lv' := [(3, vi 0), (0, vr G 0), (1, vi x1), (2, vi x2)]) C 3 rfl (by decide) dX10_runBy_26 27 rfl rfl ?_
      refine z_lv (lv' := [(0, vr G 0), (1, vi x1), (3, vi 0)]) [1, 2, 0] rfl ?_
      exact pX10_runBy_L27 C R hR F x1 x2 F 0 r3
    · refine z_iconst C dX10_runBy_16 17 rfl ?_
      exact z_iret C R rfl rfl dX10_runBy_17
-- best
def gX10_best (F : Nat) (σ : St) : Option (Int × St) := (gX3_makeBest F σ 1).bind fun r1 => some (r1 43 1, r1)
def rmX10_best : Room := { frames := 5, cells := 0, slots := 0, locals := 121 }
set_option maxRecDepth 100000 in
set_option maxHeartbeats 4000000 in
theorem tX10_best (l : Launch) (G : GG) (F : Nat) (σ : St) : Ctr l G yX10_best cX10_best 1 (some .int) rmX10_best [vr G 0] (w0 σ) vzIw wzW (gX10_best F σ) := by
  refine ctr_of (by decide) (Nat.le_of_ble_eq_true rfl) mwX10_best.1 (fun X hl hR C R hnm => ?_)
  subst hl
  refine z_lv (lv' := [(0, vr G 0)]) [0] rfl ?_
  show ZZ X G 1 (QM X G vzIw wzW (0, 0)) (0, 0) ((gX3_makeBest F σ 1).bind fun r1 => some (r1 43 1, r1)) (w0 σ) 0 [(0, vr G 0)] []
  refine z_aload_n C 0 rfl 0 rfl dX10_best_0 1 rfl ?_
  refine y_getR C fX10_37 one_10 lay_10_5 dX10_best_1 4 rfl ?_
  refine z_aload_n C 0 rfl 0 rfl dX10_best_4 5 rfl ?_
  refine y_getR C fX10_10 one_10 lay_10_0 dX10_best_5 8 rfl ?_
  refine y_callVv C hR (tX3_makeBest (mL X) G F σ 1 lay_10_0.2) ⟨mwX3_makeBest, mvX3_makeBest, lkX10_226⟩ lay_10_5.2 rfl rfl (Nat.le_of_ble_eq_true rfl) (by unfold rmOK; decide) dX10_best_8 11 rfl (fun r1 _ => ?_)
  refine z_aload_n C 0 rfl 0 rfl dX10_best_11 12 rfl ?_
  refine y_getR C fX10_37 one_10 lay_10_5 dX10_best_12 15 rfl ?_
  refine y_getI C fX10_229 lay_10_5.2 dX10_best_15 18 rfl ?_
  exact z_iret C R rfl rfl dX10_best_18
-- bestOf
def gX10_bestOf (F : Nat) (σ : St) (x1 : Int) : Option (Int × St) := (gX10_isGuest σ x1).bind fun r1 => if w32 r1 ≠ 0 then (gX3_makeBest F σ 1).bind fun r2 => gd (0 ≤ w32 x1 ∧ w32 x1 < 9) (some (r2 44 (w32 x1), r2)) else some ((-1), σ)
def rmX10_bestOf : Room := { frames := 5, cells := 0, slots := 0, locals := 121 }
set_option maxRecDepth 100000 in
set_option maxHeartbeats 4000000 in
theorem tX10_bestOf (l : Launch) (G : GG) (F : Nat) (σ : St) (x1 : Int) : Ctr l G yX10_bestOf cX10_bestOf 2 (some .int) rmX10_bestOf [vr G 0, vi x1] (w0 σ) vzIw wzW (gX10_bestOf F σ x1) := by
  refine ctr_of (by decide) (Nat.le_of_ble_eq_true rfl) mwX10_bestOf.1 (fun X hl hR C R hnm => ?_)
  subst hl
  refine z_lv (lv' := [(0, vr G 0), (1, vi x1)]) [0, 1] rfl ?_
  show ZZ X G 2 (QM X G vzIw wzW (0, 0)) (0, 0) ((gX10_isGuest σ x1).bind fun r1 => if w32 r1 ≠ 0 then (gX3_makeBest F σ 1).bind fun r2 => gd (0 ≤ w32 x1 ∧ w32 x1 < 9) (some (r2 44 (w32 x1), r2)) else some ((-1), σ)) (w0 σ) 0 [(0, vr G 0), (1, vi x1)] []
  refine z_aload_n C 0 rfl 0 rfl dX10_bestOf_0 1 rfl ?_
  refine z_iload_n C 1 rfl 1 rfl dX10_bestOf_1 2 rfl ?_
  refine y_callVI C hR (tX10_isGuest (mL X) G σ x1) ⟨mwX10_isGuest, mvX10_isGuest, lkX10_101⟩ one_10 rfl rfl (Nat.le_of_ble_eq_true rfl) (by unfold rmOK; decide) dX10_bestOf_2 5 rfl (fun r1 _ => ?_)
  refine z_if_ne C dX10_bestOf_5 10 (by decide) 8 rfl rfl (fun _ => ?_) (fun _ => ?_)
  · refine z_aload_n C 0 rfl 0 rfl dX10_bestOf_10 11 rfl ?_
    refine y_getR C fX10_37 one_10 lay_10_5 dX10_bestOf_11 14 rfl ?_
    refine z_aload_n C 0 rfl 0 rfl dX10_bestOf_14 15 rfl ?_
    refine y_getR C fX10_10 one_10 lay_10_0 dX10_bestOf_15 18 rfl ?_
    refine y_callVv C hR (tX3_makeBest (mL X) G F σ 1 lay_10_0.2) ⟨mwX3_makeBest, mvX3_makeBest, lkX10_226⟩ lay_10_5.2 rfl rfl (Nat.le_of_ble_eq_true rfl) (by unfold rmOK; decide) dX10_bestOf_18 21 rfl (fun r2 _ => ?_)
    refine z_aload_n C 0 rfl 0 rfl dX10_bestOf_21 22 rfl ?_
    refine y_getR C fX10_37 one_10 lay_10_5 dX10_bestOf_22 25 rfl ?_
    refine y_getR C fX10_232 lay_10_5.2 lay_3_0 dX10_bestOf_25 28 rfl ?_
    refine z_iload_n C 1 rfl 1 rfl dX10_bestOf_28 29 rfl ?_
    refine y_iald C lay_3_0.2 rfl dX10_bestOf_29 30 rfl rfl (fun _ => ?_)
    exact z_iret C R rfl rfl dX10_bestOf_30
  · refine z_iconst C dX10_bestOf_8 9 rfl ?_
    exact z_iret C R rfl rfl dX10_bestOf_9
-- price
def gX10_price (F : Nat) (σ : St) (x1 : Int) : Option (Int × St) := (gX10_isPost σ x1).bind fun r1 => if w32 r1 ≠ 0 then (gX3_makeBest F σ 1).bind fun r2 => (gX3_greatest F r2 1 x1).bind fun r3 => some (r3.1 - (r3.2 43 1), r3.2) else some ((-1), σ)
def rmX10_price : Room := { frames := 5, cells := 0, slots := 0, locals := 121 }
set_option maxRecDepth 100000 in
set_option maxHeartbeats 4000000 in
theorem tX10_price (l : Launch) (G : GG) (F : Nat) (σ : St) (x1 : Int) : Ctr l G yX10_price cX10_price 2 (some .int) rmX10_price [vr G 0, vi x1] (w0 σ) vzIw wzW (gX10_price F σ x1) := by
  refine ctr_of (by decide) (Nat.le_of_ble_eq_true rfl) mwX10_price.1 (fun X hl hR C R hnm => ?_)
  subst hl
  refine z_lv (lv' := [(0, vr G 0), (1, vi x1)]) [0, 1] rfl ?_
  show ZZ X G 2 (QM X G vzIw wzW (0, 0)) (0, 0) ((gX10_isPost σ x1).bind fun r1 => if w32 r1 ≠ 0 then (gX3_makeBest F σ 1).bind fun r2 => (gX3_greatest F r2 1 x1).bind fun r3 => some (r3.1 - (r3.2 43 1), r3.2) else some ((-1), σ)) (w0 σ) 0 [(0, vr G 0), (1, vi x1)] []
  refine z_aload_n C 0 rfl 0 rfl dX10_price_0 1 rfl ?_
  refine z_iload_n C 1 rfl 1 rfl dX10_price_1 2 rfl ?_
  refine y_callVI C hR (tX10_isPost (mL X) G σ x1) ⟨mwX10_isPost, mvX10_isPost, lkX10_105⟩ one_10 rfl rfl (Nat.le_of_ble_eq_true rfl) (by unfold rmOK; decide) dX10_price_2 5 rfl (fun r1 _ => ?_)
  refine z_if_ne C dX10_price_5 10 (by decide) 8 rfl rfl (fun _ => ?_) (fun _ => ?_)
  · refine z_aload_n C 0 rfl 0 rfl dX10_price_10 11 rfl ?_
    refine y_getR C fX10_37 one_10 lay_10_5 dX10_price_11 14 rfl ?_
    refine z_aload_n C 0 rfl 0 rfl dX10_price_14 15 rfl ?_
    refine y_getR C fX10_10 one_10 lay_10_0 dX10_price_15 18 rfl ?_
    refine y_callVv C hR (tX3_makeBest (mL X) G F σ 1 lay_10_0.2) ⟨mwX3_makeBest, mvX3_makeBest, lkX10_226⟩ lay_10_5.2 rfl rfl (Nat.le_of_ble_eq_true rfl) (by unfold rmOK; decide) dX10_price_18 21 rfl (fun r2 _ => ?_)
    refine z_aload_n C 0 rfl 0 rfl dX10_price_21 22 rfl ?_
    refine y_getR C fX10_37 one_10 lay_10_5 dX10_price_22 25 rfl ?_
    refine z_aload_n C 0 rfl 0 rfl dX10_price_25 26 rfl ?_
    refine y_getR C fX10_10 one_10 lay_10_0 dX10_price_26 29 rfl ?_
    refine z_iload_n C 1 rfl 1 rfl dX10_price_29 30 rfl ?_
    refine y_callVIw C hR (tX3_greatest (mL X) G F r2 1 x1 lay_10_0.2) ⟨mwX3_greatest, mvX3_greatest, lkX10_235⟩ lay_10_5.2 rfl rfl (Nat.le_of_ble_eq_true rfl) (by unfold rmOK; decide) dX10_price_30 33 rfl (fun r3 _ => ?_)
    refine z_aload_n C 0 rfl 0 rfl dX10_price_33 34 rfl ?_
    refine y_getR C fX10_37 one_10 lay_10_5 dX10_price_34 37 rfl ?_
    refine y_getI C fX10_229 lay_10_5.2 dX10_price_37 40 rfl ?_
    refine z_isub C dX10_price_40 41 rfl ?_
    exact z_iret C R rfl rfl dX10_price_41
  · refine z_iconst C dX10_price_8 9 rfl ?_
    exact z_iret C R rfl rfl dX10_price_9
-- readPrices
def gX10_readPrices_L13 (F : Nat) (x1 : Int) : Nat → Int → Int → St → Option (Int × St)
  | 0, _, _, _ => none
  | n + 1, x3, x5, σ => if w32 x5 ≥ w32 (σ 1 5) then if w64 x3 ≠ 0 then some (0, σ) else some (1, σ) else gd (w64 100 ≠ 0) (gd (0 ≤ w32 x5 ∧ w32 x5 < 6) (gd (w64 100 ≠ 0) (gX10_readPrices_L13 F x1 n (ldv x3 100) (x5 + 1) (up σ 62 (w32 x5) (l2i_ (lrm x3 100))))))
def gX10_readPrices (F : Nat) (σ : St) (x1 : Int) : Option (Int × St) := if w64 x1 ≥ 0 then gX10_readPrices_L13 F x1 F x1 0 σ else some (0, σ)
def rmX10_readPrices : Room := { frames := 0, cells := 0, slots := 0, locals := 0 }
set_option maxRecDepth 100000 in
set_option maxHeartbeats 4000000 in
theorem pX10_readPrices_L13 {X : MX} {G : GG} (C : CX X G 6 cX10_readPrices RX10) (R : RT X (some .boolean)) (hR : mR X = rmX10_readPrices) (F : Nat) (x1 : Int)  : ∀ (n : Nat) (x3 : Int) (x5 : Int) (σ : St), ZZ X G 6 (QM X G vzIw wzW (0, 0)) (0, 0) (gX10_readPrices_L13 F x1 n x3 x5 σ) (w0 σ) 13 [(0, vr G 0), (3, vl x3), (5, vi x5)] [] := by
  intro n
  induction n with
  | zero =>
    intro _ _ _
    exact z_none
  | succ n ih =>
    intro x3 x5 σ
    show ZZ X G 6 (QM X G vzIw wzW (0, 0)) (0, 0) (if w32 x5 ≥ w32 (σ 1 5) then if w64 x3 ≠ 0 then some (0, σ) else some (1, σ) else gd (w64 100 ≠ 0) (gd (0 ≤ w32 x5 ∧ w32 x5 < 6) (gd (w64 100 ≠ 0) (gX10_readPrices_L13 F x1 n (ldv x3 100) (x5 + 1) (up σ 62 (w32 x5) (l2i_ (lrm x3 100))))))) (w0 σ) 13 [(0, vr G 0), (3, vl x3), (5, vi x5)] []
    refine z_iload C 2 rfl dX10_readPrices_13 15 rfl ?_
    refine z_aload_n C 0 rfl 0 rfl dX10_readPrices_15 16 rfl ?_
    refine y_getR C fX10_10 one_10 lay_10_0 dX10_readPrices_16 19 rfl ?_
    refine y_getI C fX10_84 lay_10_0.2 dX10_readPrices_19 22 rfl ?_
    refine z_icmp_ge C dX10_readPrices_22 50 (by decide) 25 rfl rfl rfl (fun _ => ?_) (fun _ => ?_)
    · refine z_lload_n C 3 rfl 1 rfl dX10_readPrices_50 51 rfl ?_
      refine z_lconst (v := 0) C (by decide) dX10_readPrices_51 52 rfl ?_
      refine z_lif_ne C dX10_readPrices_52 53 rfl dX10_readPrices_53 60 (by decide) 56 rfl rfl (w64_id (a := 0) (by decide)) (fun _ => ?_) (fun _ => ?_)
      · refine z_iconst C dX10_readPrices_60 61 rfl ?_
        exact z_zret C R nz0 rfl rfl dX10_readPrices_61
      · refine z_iconst C dX10_readPrices_56 57 rfl ?_
        refine z_goto C dX10_readPrices_57 61 (by decide) ?_
        exact z_zret C R nz1 rfl rfl dX10_readPrices_61
    · refine z_aload_n C 0 rfl 0 rfl dX10_readPrices_25 26 rfl ?_
      refine y_getR C fX10_71 one_10 lay_10_11 dX10_readPrices_26 29 rfl ?_
      refine z_iload C 2 rfl dX10_readPrices_29 31 rfl ?_
      refine z_lload_n C 3 rfl 1 rfl dX10_readPrices_31 32 rfl ?_
      refine z_ldc2 (v := 100) C clX10_388 (by decide) dX10_readPrices_32 35 rfl ?_
      refine z_lrem C dX10_readPrices_35 36 rfl ?_
      refine z_l2i C dX10_readPrices_36 37 rfl ?_
      refine y_iast C lay_10_11.2 rfl dX10_readPrices_37 38 rfl rfl (fun _ => ?_)
      refine z_lload_n C 3 rfl 1 rfl dX10_readPrices_38 39 rfl ?_
      refine z_ldc2 (v := 100) C clX10_388 (by decide) dX10_readPrices_39 42 rfl ?_
      refine z_ldiv C dX10_readPrices_42 43 rfl ?_
      refine z_lstore_n (lv' := [(3, vl (ldv x3 100)), (0, vr G 0), (5, vi x5)]) C 3 rfl (by decide) dX10_readPrices_43 44 rfl rfl ?_
      refine z_iinc (lv' := [(5, vi (x5 + 1)), (3, vl (ldv x3 100)), (0, vr G 0)]) C (by decide) 2 rfl dX10_readPrices_44 47 rfl rfl ?_
      refine z_goto C dX10_readPrices_47 13 (by decide) ?_
      refine z_lv (lv' := [(0, vr G 0), (3, vl (ldv x3 100)), (5, vi (x5 + 1))]) [2, 1, 0] rfl ?_
      exact ih (ldv x3 100) (x5 + 1) (up σ 62 (w32 x5) (l2i_ (lrm x3 100)))
set_option maxRecDepth 100000 in
set_option maxHeartbeats 4000000 in
theorem tX10_readPrices (l : Launch) (G : GG) (F : Nat) (σ : St) (x1 : Int) : Ctr l G yX10_readPrices cX10_readPrices 6 (some .boolean) rmX10_readPrices [vr G 0, vl x1] (w0 σ) vzIw wzW (gX10_readPrices F σ x1) := by
  refine ctr_of (by decide) (Nat.le_of_ble_eq_true rfl) mwX10_readPrices.1 (fun X hl hR C R hnm => ?_)
  subst hl
  refine z_lv (lv' := [(0, vr G 0), (1, vl x1)]) [0, 1] rfl ?_
  show ZZ X G 6 (QM X G vzIw wzW (0, 0)) (0, 0) (if w64 x1 ≥ 0 then gX10_readPrices_L13 F x1 F x1 0 σ else some (0, σ)) (w0 σ) 0 [(0, vr G 0), (1, vl x1)] []
  refine z_lload_n C 1 rfl 1 rfl dX10_readPrices_0 1 rfl ?_
  refine z_lconst (v := 0) C (by decide) dX10_readPrices_1 2 rfl ?_
  refine z_lif_ge C dX10_readPrices_2 3 rfl dX10_readPrices_3 8 (by decide) 6 rfl rfl (w64_id (a := 0) (by decide)) (fun _ => ?_) (fun _ => ?_)
  · refine z_lload_n C 1 rfl 1 rfl dX10_readPrices_8 9 rfl ?_
    refine z_lstore_n (lv' := [(3, vl x1), (0, vr G 0), (1, vl x1)]) C 3 rfl (by decide) dX10_readPrices_9 10 rfl rfl ?_
    refine z_iconst C dX10_readPrices_10 11 rfl ?_
    refine z_istore (lv' := [(5, vi 0), (3, vl x1), (0, vr G 0), (1, vl x1)]) C (by decide) dX10_readPrices_11 13 rfl rfl ?_
    refine z_lv (lv' := [(0, vr G 0), (3, vl x1), (5, vi 0)]) [2, 1, 0] rfl ?_
    exact pX10_readPrices_L13 C R hR F x1 F x1 0 σ
  · refine z_iconst C dX10_readPrices_6 7 rfl ?_
    exact z_zret C R nz0 rfl rfl dX10_readPrices_7
-- cover
def gX10_cover_L57 (F : Nat) (x1 : Int) : Nat → Int → Int → St → Option (Int × St)
  | 0, _, _, _ => none
  | n + 1, x3, x4, σ => if w32 x4 ≥ w32 (σ 1 6) then some (x3, σ) else (gX0_gainOver F σ 1 x4 62).bind fun r1 => gX10_cover_L57 F x1 n (x3 + r1) (x4 + 1) σ
def gX10_cover_L15 (F : Nat) (x1 : Int) : Nat → Int → Int → St → Option (Int × St)
  | 0, _, _, _ => none
  | n + 1, x3, x4, σ => if w32 x4 ≥ w32 (σ 1 5) then gX10_cover_L57 F x1 F x3 0 σ else gd (0 ≤ w32 x4 ∧ w32 x4 < 6) (gd (0 ≤ w32 x4 ∧ w32 x4 < 6) (gX10_cover_L15 F x1 n (x3 + ((σ (1 + 1) (w32 x4)) * (σ 62 (w32 x4)))) (x4 + 1) σ))
def gX10_cover (F : Nat) (σ : St) (x1 : Int) : Option (Int × St) := (gX10_readPrices F σ x1).bind fun r1 => if w32 r1.1 ≠ 0 then gX10_cover_L15 F x1 F 0 0 r1.2 else some ((-1), r1.2)
def rmX10_cover : Room := { frames := 2, cells := 0, slots := 0, locals := 47 }
set_option maxRecDepth 100000 in
set_option maxHeartbeats 4000000 in
theorem pX10_cover_L57 {X : MX} {G : GG} (C : CX X G 5 cX10_cover RX10) (R : RT X (some .int)) (hR : mR X = rmX10_cover) (F : Nat) (x1 : Int)  : ∀ (n : Nat) (x3 : Int) (x4 : Int) (σ : St), ZZ X G 5 (QM X G vzIw wzW (0, 0)) (0, 0) (gX10_cover_L57 F x1 n x3 x4 σ) (w0 σ) 57 [(0, vr G 0), (3, vi x3), (4, vi x4)] [] := by
  intro n
  induction n with
  | zero =>
    intro _ _ _
    exact z_none
  | succ n ih =>
    intro x3 x4 σ
    show ZZ X G 5 (QM X G vzIw wzW (0, 0)) (0, 0) (if w32 x4 ≥ w32 (σ 1 6) then some (x3, σ) else (gX0_gainOver F σ 1 x4 62).bind fun r1 => gX10_cover_L57 F x1 n (x3 + r1) (x4 + 1) σ) (w0 σ) 57 [(0, vr G 0), (3, vi x3), (4, vi x4)] []
    refine z_iload C 2 rfl dX10_cover_57 59 rfl ?_
    refine z_aload_n C 0 rfl 0 rfl dX10_cover_59 60 rfl ?_
    refine y_getR C fX10_10 one_10 lay_10_0 dX10_cover_60 63 rfl ?_
    refine y_getI C fX10_95 lay_10_0.2 dX10_cover_63 66 rfl ?_
    refine z_icmp_ge C dX10_cover_66 91 (by decide) 69 rfl rfl rfl (fun _ => ?_) (fun _ => ?_)
    · refine z_iload_n C 3 rfl 1 rfl dX10_cover_91 92 rfl ?_
      exact z_iret C R rfl rfl dX10_cover_92
    · refine z_iload_n C 3 rfl 1 rfl dX10_cover_69 70 rfl ?_
      refine z_aload_n C 0 rfl 0 rfl dX10_cover_70 71 rfl ?_
      refine y_getR C fX10_10 one_10 lay_10_0 dX10_cover_71 74 rfl ?_
      refine z_iload C 2 rfl dX10_cover_74 76 rfl ?_
      refine z_aload_n C 0 rfl 0 rfl dX10_cover_76 77 rfl ?_
      refine y_getR C fX10_71 one_10 lay_10_11 dX10_cover_77 80 rfl ?_
      refine y_callVI C hR (tX0_gainOver (mL X) G F σ 1 x4 62 lay_10_0.2 lay_10_11.2) ⟨mwX0_gainOver, mvX0_gainOver, lkX10_243⟩ lay_10_0.2 rfl rfl (Nat.le_of_ble_eq_true rfl) (by unfold rmOK; decide) dX10_cover_80 83 rfl (fun r1 _ => ?_)
      refine z_iadd C dX10_cover_83 84 rfl ?_
      refine z_istore_n (lv' := [(3, vi (x3 + r1)), (0, vr G 0), (4, vi x4)]) C 3 rfl (by decide) dX10_cover_84 85 rfl rfl ?_
      refine z_iinc (lv' := [(4, vi (x4 + 1)), (3, vi (x3 + r1)), (0, vr G 0)]) C (by decide) 2 rfl dX10_cover_85 88 rfl rfl ?_
      refine z_goto C dX10_cover_88 57 (by decide) ?_
      refine z_lv (lv' := [(0, vr G 0), (3, vi (x3 + r1)), (4, vi (x4 + 1))]) [2, 1, 0] rfl ?_
      exact ih (x3 + r1) (x4 + 1) σ
set_option maxRecDepth 100000 in
set_option maxHeartbeats 4000000 in
theorem pX10_cover_L15 {X : MX} {G : GG} (C : CX X G 5 cX10_cover RX10) (R : RT X (some .int)) (hR : mR X = rmX10_cover) (F : Nat) (x1 : Int)  : ∀ (n : Nat) (x3 : Int) (x4 : Int) (σ : St), ZZ X G 5 (QM X G vzIw wzW (0, 0)) (0, 0) (gX10_cover_L15 F x1 n x3 x4 σ) (w0 σ) 15 [(0, vr G 0), (3, vi x3), (4, vi x4)] [] := by
  intro n
  induction n with
  | zero =>
    intro _ _ _
    exact z_none
  | succ n ih =>
    intro x3 x4 σ
    show ZZ X G 5 (QM X G vzIw wzW (0, 0)) (0, 0) (if w32 x4 ≥ w32 (σ 1 5) then gX10_cover_L57 F x1 F x3 0 σ else gd (0 ≤ w32 x4 ∧ w32 x4 < 6) (gd (0 ≤ w32 x4 ∧ w32 x4 < 6) (gX10_cover_L15 F x1 n (x3 + ((σ (1 + 1) (w32 x4)) * (σ 62 (w32 x4)))) (x4 + 1) σ))) (w0 σ) 15 [(0, vr G 0), (3, vi x3), (4, vi x4)] []
    refine z_iload C 2 rfl dX10_cover_15 17 rfl ?_
    refine z_aload_n C 0 rfl 0 rfl dX10_cover_17 18 rfl ?_
    refine y_getR C fX10_10 one_10 lay_10_0 dX10_cover_18 21 rfl ?_
    refine y_getI C fX10_84 lay_10_0.2 dX10_cover_21 24 rfl ?_
    refine z_icmp_ge C dX10_cover_24 54 (by decide) 27 rfl rfl rfl (fun _ => ?_) (fun _ => ?_)
    · refine z_iconst C dX10_cover_54 55 rfl ?_
      refine z_istore (lv' := [(4, vi 0), (0, vr G 0), (3, vi x3)]) C (by decide) dX10_cover_55 57 rfl rfl ?_
      refine z_lv (lv' := [(0, vr G 0), (3, vi x3), (4, vi 0)]) [1, 2, 0] rfl ?_
      exact pX10_cover_L57 C R hR F x1 F x3 0 σ
    · refine z_iload_n C 3 rfl 1 rfl dX10_cover_27 28 rfl ?_
      refine z_aload_n C 0 rfl 0 rfl dX10_cover_28 29 rfl ?_
      refine y_getR C fX10_10 one_10 lay_10_0 dX10_cover_29 32 rfl ?_
      refine y_getR C fX10_132 lay_10_0.2 (lay_0_0 lay_10_0.2) dX10_cover_32 35 rfl ?_
      refine z_iload C 2 rfl dX10_cover_35 37 rfl ?_
      refine y_iald C ((lay_0_0 lay_10_0.2).2) rfl dX10_cover_37 38 rfl rfl (fun _ => ?_)
      refine z_aload_n C 0 rfl 0 rfl dX10_cover_38 39 rfl ?_
      refine y_getR C fX10_71 one_10 lay_10_11 dX10_cover_39 42 rfl ?_
      refine z_iload C 2 rfl dX10_cover_42 44 rfl ?_
      refine y_iald C lay_10_11.2 rfl dX10_cover_44 45 rfl rfl (fun _ => ?_)
      refine z_imul C dX10_cover_45 46 rfl ?_
      refine z_iadd C dX10_cover_46 47 rfl ?_
      refine z_istore_n (lv' := [(3, vi (x3 + ((σ (1 + 1) (w32 x4)) * (σ 62 (w32 x4))))), (0, vr G 0), (4, vi x4)]) C 3 rfl (by decide) dX10_cover_47 48 rfl rfl ?_
      refine z_iinc (lv' := [(4, vi (x4 + 1)), (3, vi (x3 + ((σ (1 + 1) (w32 x4)) * (σ 62 (w32 x4))))), (0, vr G 0)]) C (by decide) 2 rfl dX10_cover_48 51 rfl rfl ?_
      refine z_goto C dX10_cover_51 15 (by decide) ?_
      refine z_lv (lv' := [(0, vr G 0), (3, vi (x3 + ((σ (1 + 1) (w32 x4)) * (σ 62 (w32 x4))))), (4, vi (x4 + 1))]) [2, 1, 0] rfl ?_
      exact ih (x3 + ((σ (1 + 1) (w32 x4)) * (σ 62 (w32 x4)))) (x4 + 1) σ
set_option maxRecDepth 100000 in
set_option maxHeartbeats 4000000 in
theorem tX10_cover (l : Launch) (G : GG) (F : Nat) (σ : St) (x1 : Int) : Ctr l G yX10_cover cX10_cover 5 (some .int) rmX10_cover [vr G 0, vl x1] (w0 σ) vzIw wzW (gX10_cover F σ x1) := by
  refine ctr_of (by decide) (Nat.le_of_ble_eq_true rfl) mwX10_cover.1 (fun X hl hR C R hnm => ?_)
  subst hl
  refine z_lv (lv' := [(0, vr G 0), (1, vl x1)]) [0, 1] rfl ?_
  show ZZ X G 5 (QM X G vzIw wzW (0, 0)) (0, 0) ((gX10_readPrices F σ x1).bind fun r1 => if w32 r1.1 ≠ 0 then gX10_cover_L15 F x1 F 0 0 r1.2 else some ((-1), r1.2)) (w0 σ) 0 [(0, vr G 0), (1, vl x1)] []
  refine z_aload_n C 0 rfl 0 rfl dX10_cover_0 1 rfl ?_
  refine z_lload_n C 1 rfl 1 rfl dX10_cover_1 2 rfl ?_
  refine y_callVIw C hR (tX10_readPrices (mL X) G F σ x1) ⟨mwX10_readPrices, mvX10_readPrices, lkX10_239⟩ one_10 rfl rfl (Nat.le_of_ble_eq_true rfl) (by unfold rmOK; decide) dX10_cover_2 5 rfl (fun r1 _ => ?_)
  refine z_if_ne C dX10_cover_5 10 (by decide) 8 rfl rfl (fun _ => ?_) (fun _ => ?_)
  · refine z_iconst C dX10_cover_10 11 rfl ?_
    refine z_istore_n (lv' := [(3, vi 0), (0, vr G 0), (1, vl x1)]) C 3 rfl (by decide) dX10_cover_11 12 rfl rfl ?_
    refine z_iconst C dX10_cover_12 13 rfl ?_
    refine z_istore (lv' := [(4, vi 0), (3, vi 0), (0, vr G 0), (1, vl x1)]) C (by decide) dX10_cover_13 15 rfl rfl ?_
    refine z_lv (lv' := [(0, vr G 0), (3, vi 0), (4, vi 0)]) [2, 1, 0] rfl ?_
    exact pX10_cover_L15 C R hR F x1 F 0 0 r1.2
  · refine z_iconst C dX10_cover_8 9 rfl ?_
    exact z_iret C R rfl rfl dX10_cover_9
-- share
def gX10_share (F : Nat) (σ : St) (x1 : Int) (x2 : Int) (x3 : Int) : Option (Int × St) := (gX10_isRule σ x1).bind fun r1 => if w32 r1 = 0 then some ((-1), σ) else (gX10_isIn σ x2 0 99).bind fun r2 => if w32 r2 = 0 then some ((-1), σ) else (gX10_isIn σ x3 1 99).bind fun r3 => if w32 r3 ≠ 0 then gd (0 ≤ w32 x1 ∧ w32 x1 < 6) ((gX7_runByNumbers F σ 17 (63 + 12 * (w32 x1))).bind fun r5 => (gX3_makeBest F r5 1).bind fun r6 => (gX7_kept F r6 17).bind fun r7 => if w32 (r7 * x3) < w32 (x2 * (r6 43 1)) then some (0, r6) else some (1, r6)) else some ((-1), σ)
def rmX10_share : Room := { frames := 6, cells := 0, slots := 0, locals := 142 }
set_option maxRecDepth 100000 in
set_option maxHeartbeats 4000000 in
theorem tX10_share (l : Launch) (G : GG) (F : Nat) (σ : St) (x1 : Int) (x2 : Int) (x3 : Int) : Ctr l G yX10_share cX10_share 4 (some .int) rmX10_share [vr G 0, vi x1, vi x2, vi x3] (w0 σ) vzIw wzW (gX10_share F σ x1 x2 x3) := by
  refine ctr_of (by decide) (Nat.le_of_ble_eq_true rfl) mwX10_share.1 (fun X hl hR C R hnm => ?_)
  subst hl
  refine z_lv (lv' := [(0, vr G 0), (1, vi x1), (2, vi x2), (3, vi x3)]) [0, 1, 2, 3] rfl ?_
  show ZZ X G 4 (QM X G vzIw wzW (0, 0)) (0, 0) ((gX10_isRule σ x1).bind fun r1 => if w32 r1 = 0 then some ((-1), σ) else (gX10_isIn σ x2 0 99).bind fun r2 => if w32 r2 = 0 then some ((-1), σ) else (gX10_isIn σ x3 1 99).bind fun r3 => if w32 r3 ≠ 0 then gd (0 ≤ w32 x1 ∧ w32 x1 < 6) ((gX7_runByNumbers F σ 17 (63 + 12 * (w32 x1))).bind fun r5 => (gX3_makeBest F r5 1).bind fun r6 => (gX7_kept F r6 17).bind fun r7 => if w32 (r7 * x3) < w32 (x2 * (r6 43 1)) then some (0, r6) else some (1, r6)) else some ((-1), σ)) (w0 σ) 0 [(0, vr G 0), (1, vi x1), (2, vi x2), (3, vi x3)] []
  refine z_aload_n C 0 rfl 0 rfl dX10_share_0 1 rfl ?_
  refine z_iload_n C 1 rfl 1 rfl dX10_share_1 2 rfl ?_
  refine y_callVI C hR (tX10_isRule (mL X) G σ x1) ⟨mwX10_isRule, mvX10_isRule, lkX10_174⟩ one_10 rfl rfl (Nat.le_of_ble_eq_true rfl) (by unfold rmOK; decide) dX10_share_2 5 rfl (fun r1 _ => ?_)
  refine z_if_eq C dX10_share_5 28 (by decide) 8 rfl rfl (fun _ => ?_) (fun _ => ?_)
  · refine z_iconst C dX10_share_28 29 rfl ?_
    exact z_iret C R rfl rfl dX10_share_29
  · refine z_iload_n C 2 rfl 2 rfl dX10_share_8 9 rfl ?_
    refine z_iconst C dX10_share_9 10 rfl ?_
    refine z_bipush C (by decide) dX10_share_10 12 rfl ?_
    refine y_callSI C hR (tX10_isIn (mL X) G σ x2 0 99) ⟨mwX10_isIn, msX10_isIn, lkX10_76⟩ rfl rfl (Nat.le_of_ble_eq_true rfl) (by unfold rmOK; decide) dX10_share_12 15 rfl (fun r2 _ => ?_)
    refine z_if_eq C dX10_share_15 28 (by decide) 18 rfl rfl (fun _ => ?_) (fun _ => ?_)
    · refine z_iconst C dX10_share_28 29 rfl ?_
      exact z_iret C R rfl rfl dX10_share_29
    · refine z_iload_n C 3 rfl 3 rfl dX10_share_18 19 rfl ?_
      refine z_iconst C dX10_share_19 20 rfl ?_
      refine z_bipush C (by decide) dX10_share_20 22 rfl ?_
      refine y_callSI C hR (tX10_isIn (mL X) G σ x3 1 99) ⟨mwX10_isIn, msX10_isIn, lkX10_76⟩ rfl rfl (Nat.le_of_ble_eq_true rfl) (by unfold rmOK; decide) dX10_share_22 25 rfl (fun r3 _ => ?_)
      refine z_if_ne C dX10_share_25 30 (by decide) 28 rfl rfl (fun _ => ?_) (fun _ => ?_)
      · refine z_aload_n C 0 rfl 0 rfl dX10_share_30 31 rfl ?_
        refine y_getR C fX10_25 one_10 lay_10_2 dX10_share_31 34 rfl ?_
        refine z_aload_n C 0 rfl 0 rfl dX10_share_34 35 rfl ?_
        refine y_getR C fX10_57 one_10 lay_10_8 dX10_share_35 38 rfl ?_
        refine z_iload_n C 1 rfl 1 rfl dX10_share_38 39 rfl ?_
        refine y_aald (t := 0) C lay_10_8.2 (by decide) rfl dX10_share_39 40 rfl rfl (fun r => 63 + 12 * r) (fun h => lay_rules h) (fun hb4 => ?_)
        refine y_callVv C hR (tX7_runByNumbers (mL X) G F σ 17 (63 + 12 * (w32 x1)) lay_10_2.2 ((lay_rules hb4).2)) ⟨mwX7_runByNumbers, mvX7_runByNumbers, lkX10_198⟩ lay_10_2.2 rfl rfl (Nat.le_of_ble_eq_true rfl) (by unfold rmOK; decide) dX10_share_40 43 rfl (fun r5 _ => ?_)
        refine z_aload_n C 0 rfl 0 rfl dX10_share_43 44 rfl ?_
        refine y_getR C fX10_37 one_10 lay_10_5 dX10_share_44 47 rfl ?_
        refine z_aload_n C 0 rfl 0 rfl dX10_share_47 48 rfl ?_
        refine y_getR C fX10_10 one_10 lay_10_0 dX10_share_48 51 rfl ?_
        refine y_callVv C hR (tX3_makeBest (mL X) G F r5 1 lay_10_0.2) ⟨mwX3_makeBest, mvX3_makeBest, lkX10_226⟩ lay_10_5.2 rfl rfl (Nat.le_of_ble_eq_true rfl) (by unfold rmOK; decide) dX10_share_51 54 rfl (fun r6 _ => ?_)
        refine z_aload_n C 0 rfl 0 rfl dX10_share_54 55 rfl ?_
        refine y_getR C fX10_25 one_10 lay_10_2 dX10_share_55 58 rfl ?_
        refine y_callVI C hR (tX7_kept (mL X) G F r6 17 lay_10_2.2) ⟨mwX7_kept, mvX7_kept, lkX10_204⟩ lay_10_2.2 rfl rfl (Nat.le_of_ble_eq_true rfl) (by unfold rmOK; decide) dX10_share_58 61 rfl (fun r7 _ => ?_)
        refine z_iload_n C 3 rfl 3 rfl dX10_share_61 62 rfl ?_
        refine z_imul C dX10_share_62 63 rfl ?_
        refine z_iload_n C 2 rfl 2 rfl dX10_share_63 64 rfl ?_
        refine z_aload_n C 0 rfl 0 rfl dX10_share_64 65 rfl ?_
        refine y_getR C fX10_37 one_10 lay_10_5 dX10_share_65 68 rfl ?_
        refine y_getI C fX10_229 lay_10_5.2 dX10_share_68 71 rfl ?_
        refine z_imul C dX10_share_71 72 rfl ?_
        refine z_icmp_lt C dX10_share_72 79 (by decide) 75 rfl rfl rfl (fun _ => ?_) (fun _ => ?_)
        · refine z_iconst C dX10_share_79 80 rfl ?_
          exact z_iret C R rfl rfl dX10_share_80
        · refine z_iconst C dX10_share_75 76 rfl ?_
          refine z_goto C dX10_share_76 80 (by decide) ?_
          exact z_iret C R rfl rfl dX10_share_80
      · refine z_iconst C dX10_share_28 29 rfl ?_
        exact z_iret C R rfl rfl dX10_share_29
