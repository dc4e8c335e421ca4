-- addEight
def gX8_addEight_L3 (F : Nat) (x1 : Int) : Nat → Int → St → Option (St)
  | 0, _, _ => none
  | n + 1, x3, σ => if w32 x3 < 0 then some σ else if w32 (σ 57 0) ≥ 160 then some σ else gd (0 ≤ w32 (σ 57 0) ∧ w32 (σ 57 0) < 160) (gX8_addEight_L3 F x1 n (x3 + (-8)) (up (up σ 58 (w32 (σ 57 0)) (iand (l2i_ (lur x1 x3)) 255)) 57 0 (((up σ 58 (w32 (σ 57 0)) (iand (l2i_ (lur x1 x3)) 255)) 57 0) + 1)))
def gX8_addEight (F : Nat) (σ : St) (x1 : Int) : Option (St) := gX8_addEight_L3 F x1 F 56 σ
def rmX8_addEight : Room := { frames := 0, cells := 0, slots := 0, locals := 0 }
set_option maxRecDepth 100000 in
set_option maxHeartbeats 4000000 in
theorem pX8_addEight_L3 {X : MX} {G : GG} (C : CX X G 4 cX8_addEight RX8) (R : RT X none) (hR : mR X = rmX8_addEight) (F : Nat) (x1 : Int)  : ∀ (n : Nat) (x3 : Int) (σ : St), ZZ X G 4 (QM X G vzV wzV (0, 0)) (0, 0) (gX8_addEight_L3 F x1 n x3 σ) (w0 σ) 3 [(0, vr G 57), (1, vl x1), (3, vi x3)] [] := by
  intro n
  induction n with
  | zero =>
    intro _ _
    exact z_none
  | succ n ih =>
    intro x3 σ
    show ZZ X G 4 (QM X G vzV wzV (0, 0)) (0, 0) (if w32 x3 < 0 then some σ else if w32 (σ 57 0) ≥ 160 then some σ else gd (0 ≤ w32 (σ 57 0) ∧ w32 (σ 57 0) < 160) (gX8_addEight_L3 F x1 n (x3 + (-8)) (up (up σ 58 (w32 (σ 57 0)) (iand (l2i_ (lur x1 x3)) 255)) 57 0 (((up σ 58 (w32 (σ 57 0)) (iand (l2i_ (lur x1 x3)) 255)) 57 0) + 1)))) (w0 σ) 3 [(0, vr G 57), (1, vl x1), (3, vi x3)] []
    refine z_iload_n C 3 rfl 2 rfl dX8_addEight_3 4 rfl ?_
    refine z_if_lt C dX8_addEight_4 50 (by decide) 7 rfl rfl (fun _ => ?_) (fun _ => ?_)
    · exact z_vret C R rfl rfl dX8_addEight_50
    · refine z_aload_n C 0 rfl 0 rfl dX8_addEight_7 8 rfl ?_
      refine y_getI C fX8_15 one_8 dX8_addEight_8 11 rfl ?_
      refine z_sipush C (by decide) dX8_addEight_11 14 rfl ?_
      refine z_icmp_ge C dX8_addEight_14 50 (by decide) 17 rfl rfl (w32_id (a := 160) (by decide)) (fun _ => ?_) (fun _ => ?_)
      · exact z_vret C R rfl rfl dX8_addEight_50
      · refine z_aload_n C 0 rfl 0 rfl dX8_addEight_17 18 rfl ?_
        refine y_getR C fX8_9 one_8 lay_8_3 dX8_addEight_18 21 rfl ?_
        refine z_aload_n C 0 rfl 0 rfl dX8_addEight_21 22 rfl ?_
        refine y_getI C fX8_15 one_8 dX8_addEight_22 25 rfl ?_
        refine z_lload_n C 1 rfl 1 rfl dX8_addEight_25 26 rfl ?_
        refine z_iload_n C 3 rfl 2 rfl dX8_addEight_26 27 rfl ?_
        refine z_lushr C dX8_addEight_27 28 rfl ?_
        refine z_l2i C dX8_addEight_28 29 rfl ?_
        refine z_sipush C (by decide) dX8_addEight_29 32 rfl ?_
        refine z_iand C dX8_addEight_32 33 rfl ?_
        refine y_iast C lay_8_3.2 rfl dX8_addEight_33 34 rfl rfl (fun _ => ?_)
        refine z_aload_n C 0 rfl 0 rfl dX8_addEight_34 35 rfl ?_
        refine z_dup C rfl dX8_addEight_35 36 rfl ?_
        refine y_getI C fX8_15 one_8 dX8_addEight_36 39 rfl ?_
        refine z_iconst C dX8_addEight_39 40 rfl ?_
        refine z_iadd C dX8_addEight_40 41 rfl ?_
        refine y_putI C fX8_15 one_8 ⟨rfl, rfl⟩ dX8_addEight_41 44 rfl ?_
        refine z_iinc (lv' := [(3, vi (x3 + (-8))), (0, vr G 57), (1, vl x1)]) C (by decide) 2 rfl dX8_addEight_44 47 rfl rfl ?_
        refine z_goto C dX8_addEight_47 3 (by decide) ?_
        refine z_lv (lv' := [(0, vr G 57), (1, vl x1), (3, vi (x3 + (-8)))]) [1, 2, 0] rfl ?_
        exact ih (x3 + (-8)) (up (up σ 58 (w32 (σ 57 0)) (iand (l2i_ (lur x1 x3)) 255)) 57 0 (((up σ 58 (w32 (σ 57 0)) (iand (l2i_ (lur x1 x3)) 255)) 57 0) + 1))
set_option maxRecDepth 100000 in
set_option maxHeartbeats 4000000 in
theorem tX8_addEight (l : Launch) (G : GG) (F : Nat) (σ : St) (x1 : Int) : Ctr l G yX8_addEight cX8_addEight 4 none rmX8_addEight [vr G 57, vl x1] (w0 σ) vzV wzV (gX8_addEight F σ x1) := by
  refine ctr_of (by decide) (Nat.le_of_ble_eq_true rfl) mwX8_addEight.1 (fun X hl hR C R hnm => ?_)
  subst hl
  refine z_lv (lv' := [(0, vr G 57), (1, vl x1)]) [0, 1] rfl ?_
  show ZZ X G 4 (QM X G vzV wzV (0, 0)) (0, 0) (gX8_addEight_L3 F x1 F 56 σ) (w0 σ) 0 [(0, vr G 57), (1, vl x1)] []
  refine z_bipush C (by decide) dX8_addEight_0 2 rfl ?_
  refine z_istore_n (lv' := [(3, vi 56), (0, vr G 57), (1, vl x1)]) C 3 rfl (by decide) dX8_addEight_2 3 rfl rfl ?_
  refine z_lv (lv' := [(0, vr G 57), (1, vl x1), (3, vi 56)]) [1, 2, 0] rfl ?_
  exact pX8_addEight_L3 C R hR F x1 F 56 σ
-- isKey
def gX8_isKey (σ : St) (x0 : Int) : Option (Int) := if w32 x0 < 0 then some 0 else if w32 x0 ≥ 6 then some 0 else some 1
def rmX8_isKey : Room := { frames := 0, cells := 0, slots := 0, locals := 0 }
set_option maxRecDepth 100000 in
set_option maxHeartbeats 4000000 in
theorem tX8_isKey (l : Launch) (G : GG) (σ : St) (x0 : Int) : Ctr l G yX8_isKey cX8_isKey 1 (some .boolean) rmX8_isKey [vi x0] (w0 σ) vzI (wzR σ) (gX8_isKey σ x0) := by
  refine ctr_of (by decide) (Nat.le_of_ble_eq_true rfl) mwX8_isKey.1 (fun X hl hR C R hnm => ?_)
  subst hl
  refine z_lv (lv' := [(0, vi x0)]) [0] rfl ?_
  show ZZ X G 1 (QM X G vzI (wzR σ) (0, 0)) (0, 0) (if w32 x0 < 0 then some 0 else if w32 x0 ≥ 6 then some 0 else some 1) (w0 σ) 0 [(0, vi x0)] []
  refine z_iload_n C 0 rfl 0 rfl dX8_isKey_0 1 rfl ?_
  refine z_if_lt C dX8_isKey_1 14 (by decide) 4 rfl rfl (fun _ => ?_) (fun _ => ?_)
  · refine z_iconst C dX8_isKey_14 15 rfl ?_
    exact z_zret C R nz0 rfl rfl dX8_isKey_15
  · refine z_iload_n C 0 rfl 0 rfl dX8_isKey_4 5 rfl ?_
    refine z_bipush C (by decide) dX8_isKey_5 7 rfl ?_
    refine z_icmp_ge C dX8_isKey_7 14 (by decide) 10 rfl rfl (w32_id (a := 6) (by decide)) (fun _ => ?_) (fun _ => ?_)
    · refine z_iconst C dX8_isKey_14 15 rfl ?_
      exact z_zret C R nz0 rfl rfl dX8_isKey_15
    · refine z_iconst C dX8_isKey_10 11 rfl ?_
      refine z_goto C dX8_isKey_11 15 (by decide) ?_
      exact z_zret C R nz1 rfl rfl dX8_isKey_15
-- fail
def gX8_fail_L20 (x1 : Int) (σ : St) : Option (St) := some (up σ 57 5 18)
def gX8_fail (σ : St) (x1 : Int) : Option (St) := if w32 (σ 57 1) ≠ 0 then gX8_fail_L20 x1 σ else gX8_fail_L20 x1 (up (up σ 57 1 x1) 57 2 ((up σ 57 1 x1) 57 6))
def rmX8_fail : Room := { frames := 0, cells := 0, slots := 0, locals := 0 }
set_option maxRecDepth 100000 in
set_option maxHeartbeats 4000000 in
theorem pX8_fail_L20 {X : MX} {G : GG} (C : CX X G 2 cX8_fail RX8) (R : RT X none) (hR : mR X = rmX8_fail) (x1 : Int)  : ∀ (σ : St), ZZ X G 2 (QM X G vzV wzV (0, 0)) (0, 0) (gX8_fail_L20 x1 σ) (w0 σ) 20 [(0, vr G 57)] [] := by
  intro σ
  show ZZ X G 2 (QM X G vzV wzV (0, 0)) (0, 0) (some (up σ 57 5 18)) (w0 σ) 20 [(0, vr G 57)] []
  refine z_aload_n C 0 rfl 0 rfl dX8_fail_20 21 rfl ?_
  refine z_bipush C (by decide) dX8_fail_21 23 rfl ?_
  refine y_putI C fX8_44 one_8 ⟨rfl, rfl⟩ dX8_fail_23 26 rfl ?_
  exact z_vret C R rfl rfl dX8_fail_26
set_option maxRecDepth 100000 in
set_option maxHeartbeats 4000000 in
theorem tX8_fail (l : Launch) (G : GG) (σ : St) (x1 : Int) : Ctr l G yX8_fail cX8_fail 2 none rmX8_fail [vr G 57, vi x1] (w0 σ) vzV wzV (gX8_fail σ x1) := by
  refine ctr_of (by decide) (Nat.le_of_ble_eq_true rfl) mwX8_fail.1 (fun X hl hR C R hnm => ?_)
  subst hl
  refine z_lv (lv' := [(0, vr G 57), (1, vi x1)]) [0, 1] rfl ?_
  show ZZ X G 2 (QM X G vzV wzV (0, 0)) (0, 0) (if w32 (σ 57 1) ≠ 0 then gX8_fail_L20 x1 σ else gX8_fail_L20 x1 (up (up σ 57 1 x1) 57 2 ((up σ 57 1 x1) 57 6))) (w0 σ) 0 [(0, vr G 57), (1, vi x1)] []
  refine z_aload_n C 0 rfl 0 rfl dX8_fail_0 1 rfl ?_
  refine y_getI C fX8_22 one_8 dX8_fail_1 4 rfl ?_
  refine z_if_ne C dX8_fail_4 20 (by decide) 7 rfl rfl (fun _ => ?_) (fun _ => ?_)
  · refine z_lv (lv' := [(0, vr G 57)]) [0] rfl ?_
    exact pX8_fail_L20 C R hR x1 σ
  · refine z_aload_n C 0 rfl 0 rfl dX8_fail_7 8 rfl ?_
    refine z_iload_n C 1 rfl 1 rfl dX8_fail_8 9 rfl ?_
    refine y_putI C fX8_22 one_8 ⟨rfl, rfl⟩ dX8_fail_9 12 rfl ?_
    refine z_aload_n C 0 rfl 0 rfl dX8_fail_12 13 rfl ?_
    refine z_aload_n C 0 rfl 0 rfl dX8_fail_13 14 rfl ?_
    refine y_getI C fX8_78 one_8 dX8_fail_14 17 rfl ?_
    refine y_putI C fX8_25 one_8 ⟨rfl, rfl⟩ dX8_fail_17 20 rfl ?_
    refine z_lv (lv' := [(0, vr G 57)]) [0] rfl ?_
    exact pX8_fail_L20 C R hR x1 (up (up σ 57 1 x1) 57 2 ((up σ 57 1 x1) 57 6))
-- isLetter
def gX8_isLetter (σ : St) (x0 : Int) : Option (Int) := if w32 x0 < 97 then some 0 else if w32 x0 > 122 then some 0 else some 1
def rmX8_isLetter : Room := { frames := 0, cells := 0, slots := 0, locals := 0 }
set_option maxRecDepth 100000 in
set_option maxHeartbeats 4000000 in
theorem tX8_isLetter (l : Launch) (G : GG) (σ : St) (x0 : Int) : Ctr l G yX8_isLetter cX8_isLetter 1 (some .boolean) rmX8_isLetter [vi x0] (w0 σ) vzI (wzR σ) (gX8_isLetter σ x0) := by
  refine ctr_of (by decide) (Nat.le_of_ble_eq_true rfl) mwX8_isLetter.1 (fun X hl hR C R hnm => ?_)
  subst hl
  refine z_lv (lv' := [(0, vi x0)]) [0] rfl ?_
  show ZZ X G 1 (QM X G vzI (wzR σ) (0, 0)) (0, 0) (if w32 x0 < 97 then some 0 else if w32 x0 > 122 then some 0 else some 1) (w0 σ) 0 [(0, vi x0)] []
  refine z_iload_n C 0 rfl 0 rfl dX8_isLetter_0 1 rfl ?_
  refine z_bipush C (by decide) dX8_isLetter_1 3 rfl ?_
  refine z_icmp_lt C dX8_isLetter_3 16 (by decide) 6 rfl rfl (w32_id (a := 97) (by decide)) (fun _ => ?_) (fun _ => ?_)
  · refine z_iconst C dX8_isLetter_16 17 rfl ?_
    exact z_zret C R nz0 rfl rfl dX8_isLetter_17
  · refine z_iload_n C 0 rfl 0 rfl dX8_isLetter_6 7 rfl ?_
    refine z_bipush C (by decide) dX8_isLetter_7 9 rfl ?_
    refine z_icmp_gt C dX8_isLetter_9 16 (by decide) 12 rfl rfl (w32_id (a := 122) (by decide)) (fun _ => ?_) (fun _ => ?_)
    · refine z_iconst C dX8_isLetter_16 17 rfl ?_
      exact z_zret C R nz0 rfl rfl dX8_isLetter_17
    · refine z_iconst C dX8_isLetter_12 13 rfl ?_
      refine z_goto C dX8_isLetter_13 17 (by decide) ?_
      exact z_zret C R nz1 rfl rfl dX8_isLetter_17
-- isFigure
def gX8_isFigure (σ : St) (x0 : Int) : Option (Int) := if w32 x0 < 48 then some 0 else if w32 x0 > 57 then some 0 else some 1
def rmX8_isFigure : Room := { frames := 0, cells := 0, slots := 0, locals := 0 }
set_option maxRecDepth 100000 in
set_option maxHeartbeats 4000000 in
theorem tX8_isFigure (l : Launch) (G : GG) (σ : St) (x0 : Int) : Ctr l G yX8_isFigure cX8_isFigure 1 (some .boolean) rmX8_isFigure [vi x0] (w0 σ) vzI (wzR σ) (gX8_isFigure σ x0) := by
  refine ctr_of (by decide) (Nat.le_of_ble_eq_true rfl) mwX8_isFigure.1 (fun X hl hR C R hnm => ?_)
  subst hl
  refine z_lv (lv' := [(0, vi x0)]) [0] rfl ?_
  show ZZ X G 1 (QM X G vzI (wzR σ) (0, 0)) (0, 0) (if w32 x0 < 48 then some 0 else if w32 x0 > 57 then some 0 else some 1) (w0 σ) 0 [(0, vi x0)] []
  refine z_iload_n C 0 rfl 0 rfl dX8_isFigure_0 1 rfl ?_
  refine z_bipush C (by decide) dX8_isFigure_1 3 rfl ?_
  refine z_icmp_lt C dX8_isFigure_3 16 (by decide) 6 rfl rfl (w32_id (a := 48) (by decide)) (fun _ => ?_) (fun _ => ?_)
  · refine z_iconst C dX8_isFigure_16 17 rfl ?_
    exact z_zret C R nz0 rfl rfl dX8_isFigure_17
  · refine z_iload_n C 0 rfl 0 rfl dX8_isFigure_6 7 rfl ?_
    refine z_bipush C (by decide) dX8_isFigure_7 9 rfl ?_
    refine z_icmp_gt C dX8_isFigure_9 16 (by decide) 12 rfl rfl (w32_id (a := 57) (by decide)) (fun _ => ?_) (fun _ => ?_)
    · refine z_iconst C dX8_isFigure_16 17 rfl ?_
      exact z_zret C R nz0 rfl rfl dX8_isFigure_17
    · refine z_iconst C dX8_isFigure_12 13 rfl ?_
      refine z_goto C dX8_isFigure_13 17 (by decide) ?_
      exact z_zret C R nz1 rfl rfl dX8_isFigure_17
-- readNumber
def gX8_readNumber_L68 (F : Nat) (σ : St) : Option (St) := if w32 ((σ 57 4) - (σ 57 6)) ≤ 3 then some (up σ 57 5 16) else (gX8_fail σ 1).bind fun r1 => some r1
def gX8_readNumber_L5 (F : Nat) : Nat → St → Option (St)
  | 0, _ => none
  | n + 1, σ => if w32 (σ 57 4) ≥ w32 (σ 57 0) then gX8_readNumber_L68 F σ else gd (0 ≤ w32 (σ 57 4) ∧ w32 (σ 57 4) < 160) ((gX8_isFigure σ (σ 58 (w32 (σ 57 4)))).bind fun r1 => if w32 r1 = 0 then gX8_readNumber_L68 F σ else gd (0 ≤ w32 (σ 57 4) ∧ w32 (σ 57 4) < 160) (gX8_readNumber_L5 F n (up (up σ 57 7 ((((σ 57 7) * 10) + (σ 58 (w32 (σ 57 4)))) - 48)) 57 4 (((up σ 57 7 ((((σ 57 7) * 10) + (σ 58 (w32 (σ 57 4)))) - 48)) 57 4) + 1))))
def gX8_readNumber (F : Nat) (σ : St) : Option (St) := gX8_readNumber_L5 F F (up σ 57 7 0)
def rmX8_readNumber : Room := { frames := 1, cells := 0, slots := 0, locals := 21 }
set_option maxRecDepth 100000 in
set_option maxHeartbeats 4000000 in
theorem pX8_readNumber_L68 {X : MX} {G : GG} (C : CX X G 1 cX8_readNumber RX8) (R : RT X none) (hR : mR X = rmX8_readNumber) (F : Nat)  : ∀ (σ : St), ZZ X G 1 (QM X G vzV wzV (0, 0)) (0, 0) (gX8_readNumber_L68 F σ) (w0 σ) 68 [(0, vr G 57)] [] := by
  intro σ
  show ZZ X G 1 (QM X G vzV wzV (0, 0)) (0, 0) (if w32 ((σ 57 4) - (σ 57 6)) ≤ 3 then some (up σ 57 5 16) else (gX8_fail σ 1).bind fun r1 => some r1) (w0 σ) 68 [(0, vr G 57)] []
  refine z_aload_n C 0 rfl 0 rfl dX8_readNumber_68 69 rfl ?_
  refine y_getI C fX8_19 one_8 dX8_readNumber_69 72 rfl ?_
  refine z_aload_n C 0 rfl 0 rfl dX8_readNumber_72 73 rfl ?_
  refine y_getI C fX8_78 one_8 dX8_readNumber_73 76 rfl ?_
  refine z_isub C dX8_readNumber_76 77 rfl ?_
  refine z_iconst C dX8_readNumber_77 78 rfl ?_
  refine z_icmp_le C dX8_readNumber_78 89 (by decide) 81 rfl rfl (w32_id (a := 3) (by decide)) (fun _ => ?_) (fun _ => ?_)
  · refine z_aload_n C 0 rfl 0 rfl dX8_readNumber_89 90 rfl ?_
    refine z_bipush C (by decide) dX8_readNumber_90 92 rfl ?_
    refine y_putI C fX8_44 one_8 ⟨rfl, rfl⟩ dX8_readNumber_92 95 rfl ?_
    exact z_vret C R rfl rfl dX8_readNumber_95
  · refine z_aload_n C 0 rfl 0 rfl dX8_readNumber_81 82 rfl ?_
    refine z_iconst C dX8_readNumber_82 83 rfl ?_
    refine y_callVv C hR (tX8_fail (mL X) G σ 1) ⟨mwX8_fail, mvX8_fail, lkX8_54⟩ one_8 rfl rfl (Nat.le_of_ble_eq_true rfl) (by unfold rmOK; decide) dX8_readNumber_83 86 rfl (fun r1 _ => ?_)
    refine z_goto C dX8_readNumber_86 95 (by decide) ?_
    exact z_vret C R rfl rfl dX8_readNumber_95
set_option maxRecDepth 100000 in
set_option maxHeartbeats 4000000 in
theorem pX8_readNumber_L5 {X : MX} {G : GG} (C : CX X G 1 cX8_readNumber RX8) (R : RT X none) (hR : mR X = rmX8_readNumber) (F : Nat)  : ∀ (n : Nat)  (σ : St), ZZ X G 1 (QM X G vzV wzV (0, 0)) (0, 0) (gX8_readNumber_L5 F n σ) (w0 σ) 5 [(0, vr G 57)] [] := by
  intro n
  induction n with
  | zero =>
    intro _
    exact z_none
  | succ n ih =>
    intro σ
    show ZZ X G 1 (QM X G vzV wzV (0, 0)) (0, 0) (if w32 (σ 57 4) ≥ w32 (σ 57 0) then gX8_readNumber_L68 F σ else gd (0 ≤ w32 (σ 57 4) ∧ w32 (σ 57 4) < 160) ((gX8_isFigure σ (σ 58 (w32 (σ 57 4)))).bind fun r1 => if w32 r1 = 0 then gX8_readNumber_L68 F σ else gd (0 ≤ w32 (σ 57 4) ∧ w32 (σ 57 4) < 160) (gX8_readNumber_L5 F n (up (up σ 57 7 ((((σ 57 7) * 10) + (σ 58 (w32 (σ 57 4)))) - 48)) 57 4 (((up σ 57 7 ((((σ 57 7) * 10) + (σ 58 (w32 (σ 57 4)))) - 48)) 57 4) + 1))))) (w0 σ) 5 [(0, vr G 57)] []
    refine z_aload_n C 0 rfl 0 rfl dX8_readNumber_5 6 rfl ?_
    refine y_getI C fX8_19 one_8 dX8_readNumber_6 9 rfl ?_
    refine z_aload_n C 0 rfl 0 rfl dX8_readNumber_9 10 rfl ?_
    refine y_getI C fX8_15 one_8 dX8_readNumber_10 13 rfl ?_
    refine z_icmp_ge C dX8_readNumber_13 68 (by decide) 16 rfl rfl rfl (fun _ => ?_) (fun _ => ?_)
    · exact pX8_readNumber_L68 C R hR F σ
    · refine z_aload_n C 0 rfl 0 rfl dX8_readNumber_16 17 rfl ?_
      refine y_getR C fX8_9 one_8 lay_8_3 dX8_readNumber_17 20 rfl ?_
      refine z_aload_n C 0 rfl 0 rfl dX8_readNumber_20 21 rfl ?_
      refine y_getI C fX8_19 one_8 dX8_readNumber_21 24 rfl ?_
      refine y_iald C lay_8_3.2 rfl dX8_readNumber_24 25 rfl rfl (fun _ => ?_)
      refine y_callSI C hR (tX8_isFigure (mL X) G σ (σ 58 (w32 (σ 57 4)))) ⟨mwX8_isFigure, msX8_isFigure, lkX8_87⟩ rfl rfl (Nat.le_of_ble_eq_true rfl) (by unfold rmOK; decide) dX8_readNumber_25 28 rfl (fun r1 _ => ?_)
      refine z_if_eq C dX8_readNumber_28 68 (by decide) 31 rfl rfl (fun _ => ?_) (fun _ => ?_)
      · exact pX8_readNumber_L68 C R hR F σ
      · refine z_aload_n C 0 rfl 0 rfl dX8_readNumber_31 32 rfl ?_
        refine z_aload_n C 0 rfl 0 rfl dX8_readNumber_32 33 rfl ?_
        refine y_getI C fX8_71 one_8 dX8_readNumber_33 36 rfl ?_
        refine z_bipush C (by decide) dX8_readNumber_36 38 rfl ?_
        refine z_imul C dX8_readNumber_38 39 rfl ?_
        refine z_aload_n C 0 rfl 0 rfl dX8_readNumber_39 40 rfl ?_
        refine y_getR C fX8_9 one_8 lay_8_3 dX8_readNumber_40 43 rfl ?_
        refine z_aload_n C 0 rfl 0 rfl dX8_readNumber_43 44 rfl ?_
        refine y_getI C fX8_19 one_8 dX8_readNumber_44 47 rfl ?_
        refine y_iald C lay_8_3.2 rfl dX8_readNumber_47 48 rfl rfl (fun _ => ?_)
        refine z_iadd C dX8_readNumber_48 49 rfl ?_
        refine z_bipush C (by decide) dX8_readNumber_49 51 rfl ?_
        refine z_isub C dX8_readNumber_51 52 rfl ?_
        refine y_putI C fX8_71 one_8 ⟨rfl, rfl⟩ dX8_readNumber_52 55 rfl ?_
        refine z_aload_n C 0 rfl 0 rfl dX8_readNumber_55 56 rfl ?_
        refine z_dup C rfl dX8_readNumber_56 57 rfl ?_
        refine y_getI C fX8_19 one_8 dX8_readNumber_57 60 rfl ?_
        refine z_iconst C dX8_readNumber_60 61 rfl ?_
        refine z_iadd C dX8_readNumber_61 62 rfl ?_
        refine y_putI C fX8_19 one_8 ⟨rfl, rfl⟩ dX8_readNumber_62 65 rfl ?_
        refine z_goto C dX8_readNumber_65 5 (by decide) ?_
        exact ih (up (up σ 57 7 ((((σ 57 7) * 10) + (σ 58 (w32 (σ 57 4)))) - 48)) 57 4 (((up σ 57 7 ((((σ 57 7) * 10) + (σ 58 (w32 (σ 57 4)))) - 48)) 57 4) + 1))
set_option maxRecDepth 100000 in
set_option maxHeartbeats 4000000 in
theorem tX8_readNumber (l : Launch) (G : GG) (F : Nat) (σ : St) : Ctr l G yX8_readNumber cX8_readNumber 1 none rmX8_readNumber [vr G 57] (w0 σ) vzV wzV (gX8_readNumber F σ) := by
  refine ctr_of (by decide) (Nat.le_of_ble_eq_true rfl) mwX8_readNumber.1 (fun X hl hR C R hnm => ?_)
  subst hl
  refine z_lv (lv' := [(0, vr G 57)]) [0] rfl ?_
  show ZZ X G 1 (QM X G vzV wzV (0, 0)) (0, 0) (gX8_readNumber_L5 F F (up σ 57 7 0)) (w0 σ) 0 [(0, vr G 57)] []
  refine z_aload_n C 0 rfl 0 rfl dX8_readNumber_0 1 rfl ?_
  refine z_iconst C dX8_readNumber_1 2 rfl ?_
  refine y_putI C fX8_71 one_8 ⟨rfl, rfl⟩ dX8_readNumber_2 5 rfl ?_
  exact pX8_readNumber_L5 C R hR F F (up σ 57 7 0)
