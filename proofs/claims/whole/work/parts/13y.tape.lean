-- addEight
def gX8_addEight_L3 (F : Nat) (x1 : Int) : Nat → Int → St → Option (St)
  | 0, _, _ => none
  | n + 1, x3, σ => if w32 x3 < 0 then some σ else if w32 (σ 57 0) ≥ 160 then some σ else gd (0 ≤ w32 (σ 57 0) ∧ w32 (σ 57 0) < 160) (gX8_addEight_L3 F x1 n (x3 + (-8)) (up (up σ 58 (w32 (σ 57 0)) (iand (l2i_ (lur x1 x3)) 255)) 57 0 (((up σ 58 (w32 (σ 57 0)) (iand (l2i_ (lur x1 x3)) 255)) 57 0) + 1)))
def gX8_addEight (F : Nat) (σ : St) (x1 : Int) : Option (St) := gX8_addEight_L3 F x1 F 56 σ
def rmX8_addEight : Room := { frames := 0, cells := 0, slots := 0, locals := 0 }
set_option maxRecDepth 100000 in
set_option maxHeartbeats 4000000 in
theorem pX8_addEight_L3 {X : MX} {G : GG} (C : CX X G 4 cX8_addEight RX8) (R : RT X none) (hR : mR X = rmX8_addEight) (F : Nat) (x1 : Int)  : ∀ (n : Nat) (x3 : Int) (σ : St), ZZ X G 4 (QM X G vzV wzV (0, 0)) (0, 0) (gX8_addEight_L3 F x1 n x3 σ) (w0 σ) 3 [(0, vr G 57), (1, vl x1), (3, vi x3)] [] := by
  intro n
  induction n with
  | zero =>
    intro _ _
    exact z_none
  | succ n ih =>
    intro x3 σ
    show ZZ X G 4 (QM X G vzV wzV (0, 0)) (0, 0) (if w32 x3 < 0 then some σ else if w32 (σ 57 0) ≥ 160 then some σ else gd (0 ≤ w32 (σ 57 0) ∧ w32 (σ 57 0) < 160) (gX8_addEight_L3 F x1 n (x3 + (-8)) (up (up σ 58 (w32 (σ 57 0)) (iand (l2i_ (lur x1 x3)) 255)) 57 0 (((up σ 58 (w32 (σ 57 0)) (iand (l2i_ (lur x1 x3)) 255)) 57 0) + 1)))) (w0 σ) 3 [(0, vr G 57), (1, vl x1), (3, vi x3)] []
    refine z_iload_n C 3 rfl 2 rfl dX8_addEight_3 4 rfl ?_
    refine z_if_lt C dX8_addEight_4 50 (by decide) 7 rfl rfl (fun _ => ?_) (fun _ => ?_)
    · exact z_vret C R rfl rfl dX8_addEight_50
    · refine z_aload_n C 0 rfl 0 rfl dX8_addEight_7 8 rfl ?_
      refine y_getI C fX8_15 one_8 dX8_addEight_8 11 rfl ?_
      refine z_sipush C (by decide) dX8_addEight_11 14 rfl ?_
      refine z_icmp_ge C dX8_addEight_14 50 (by decide) 17 rfl rfl (w32_id (a := 160) (by decide)) (fun _ => ?_) (fun _ => ?_)
      · exact z_vret C R rfl rfl dX8_addEight_50
      · refine z_aload_n C 0 rfl 0 rfl dX8_addEight_17 18 rfl ?_
        refine y_getR C fX8_9 one_8 lay_8_3 dX8_addEight_18 21 rfl ?_
        refine z_aload_n C 0 rfl 0 rfl dX8_addEight_21 22 rfl ?_
        refine y_getI C fX8_15 one_8 dX8_addEight_22 25 rfl ?_
        refine z_lload_n C 1 rfl 1 rfl dX8_addEight_25 26 rfl ?_
        refine z_iload_n C 3 rfl 2 rfl dX8_addEight_26 27 rfl ?_
        refine z_lushr C dX8_addEight_27 28 rfl ?_
        refine z_l2i C dX8_addEight_28 29 rfl ?_
        refine z_sipush C (by decide) dX8_addEight_29 32 rfl ?_
        refine z_iand C dX8_addEight_32 33 rfl ?_
        refine y_iast C lay_8_3.2 rfl dX8_addEight_33 34 rfl rfl (fun _ => ?_)
        refine z_aload_n C 0 rfl 0 rfl dX8_addEight_34 35 rfl ?_
        refine z_dup C rfl dX8_addEight_35 36 rfl ?_
        refine y_getI C fX8_15 one_8 dX8_addEight_36 39 rfl ?_
        refine z_iconst C dX8_addEight_39 40 rfl ?_
        refine z_iadd C dX8_addEight_40 41 rfl ?_
        refine y_putI C fX8_15 one_8 ⟨rfl, rfl⟩ dX8_addEight_41 44 rfl ?_
        refine z_iinc (lv' := [(3, vi (x3 + (-8))), (0, vr G 57), (1, vl x1)]) C (by decide) 2 rfl dX8_addEight_44 47 rfl rfl ?_
        refine z_goto C dX8_addEight_47 3 (by decide) ?_
        refine z_lv (lv' := [(0, vr G 57), (1, vl x1), (3, vi (x3 + (-8)))]) [1, 2, 0] rfl ?_
        exact ih (x3 + (-8)) (up (up σ 58 (w32 (σ 57 0)) (iand (l2i_ (lur x1 x3)) 255)) 57 0 (((up σ 58 (w32 (σ 57 0)) (iand (l2i_ (lur x1 x3)) 255)) 57 0) + 1))
set_option maxRecDepth 100000 in
set_option maxHeartbeats 4000000 in
theorem tX8_addEight (l : Launch) (G : GG) (F : Nat) (σ : St) (x1 : Int) : Ctr l G yX8_addEight cX8_addEight 4 none rmX8_addEight [vr G 57, vl x1] (w0 σ) vzV wzV (gX8_addEight F σ x1) := by
  refine ctr_of (by decide) (Nat.le_of_ble_eq_true rfl) mwX8_addEight.1 (fun X hl hR C R hnm => ?_)
  subst hl
  refine z_lv (lv' := [(0, vr G 57), (1, vl x1)]) [0, 1] rfl ?_
  show ZZ X G 4 (QM X G vzV wzV (0, 0)) (0, 0) (gX8_addEight_L3 F x1 F 56 σ) (w0 σ) 0 [(0, vr G 57), (1, vl x1)] []
  refine z_bipush C (by decide) dX8_addEight_0 2 rfl ?_
  refine z_istore_n (lv' := [(3, vi 56), (0, vr G 57), (1, vl x1)]) C 3 rfl (by decide) dX8_addEight_2 3 rfl rfl ?_
  refine z_lv (lv' := [(0, vr G 57), (1, vl x1), (3, vi 56)]) [1, 2, 0] rfl ?_
  exact pX8_addEight_L3 C R hR F x1 F 56 σ
-- isLetter
def gX8_isLetter (σ : St) (x0 : Int) : Option (Int) := if w32 x0 < 97 then some 0 else if w32 x0 > 122 then some 0 else some 1
def rmX8_isLetter : Room := { frames := 0, cells := 0, slots := 0, locals := 0 }
set_option maxRecDepth 100000 in
set_option maxHeartbeats 4000000 in
theorem tX8_isLetter (l : Launch) (G : GG) (σ : St) (x0 : Int) : Ctr l G yX8_isLetter cX8_isLetter 1 (some .boolean) rmX8_isLetter [vi x0] (w0 σ) vzI (wzR σ) (gX8_isLetter σ x0) := by
  refine ctr_of (by decide) (Nat.le_of_ble_eq_true rfl) mwX8_isLetter.1 (fun X hl hR C R hnm => ?_)
  subst hl
  refine z_lv (lv' := [(0, vi x0)]) [0] rfl ?_
  show ZZ X G 1 (QM X G vzI (wzR σ) (0, 0)) (0, 0) (if w32 x0 < 97 then some 0 else if w32 x0 > 122 then some 0 else some 1) (w0 σ) 0 [(0, vi x0)] []
  refine z_iload_n C 0 rfl 0 rfl dX8_isLetter_0 1 rfl ?_
  refine z_bipush C (by decide) dX8_isLetter_1 3 rfl ?_
  refine z_icmp_lt C dX8_isLetter_3 16 (by decide) 6 rfl rfl (w32_id (a := 97) (by decide)) (fun _ => ?_) (fun _ => ?_)
  · refine z_iconst C dX8_isLetter_16 17 rfl ?_
    exact z_zret C R nz0 rfl rfl dX8_isLetter_17
  · refine z_iload_n C 0 rfl 0 rfl dX8_isLetter_6 7 rfl ?_
    refine z_bipush C (by decide) dX8_isLetter_7 9 rfl ?_
    refine z_icmp_gt C dX8_isLetter_9 16 (by decide) 12 rfl rfl (w32_id (a := 122) (by decide)) (fun _ => ?_) (fun _ => ?_)
    · refine z_iconst C dX8_isLetter_16 17 rfl ?_
      exact z_zret C R nz0 rfl rfl dX8_isLetter_17
    · refine z_iconst C dX8_isLetter_12 13 rfl ?_
      refine z_goto C dX8_isLetter_13 17 (by decide) ?_
      exact z_zret C R nz1 rfl rfl dX8_isLetter_17
-- isName
def gX8_isName_L47 (F : Nat) (σ : St) (x1 : Int) (c20 : Int → Int → Option (Int)) (x2 : Int) (x3 : Int) (s0 : Int) : Option (Int) := (gchr 0 ((x1 * 6) + x3)).bind fun r1 => if w32 s0 = w32 r1 then c20 x2 (x3 + 1) else some 0
def gX8_isName_L20 (F : Nat) (σ : St) (x1 : Int) : Nat → Int → Int → Option (Int)
  | 0, _, _ => none
  | n + 1, x2, x3 => if w32 x3 ≥ 6 then some 1 else if w32 x3 ≥ w32 x2 then gX8_isName_L47 F σ x1 (gX8_isName_L20 F σ x1 n) x2 x3 32 else gd (0 ≤ w32 ((σ 57 6) + x3) ∧ w32 ((σ 57 6) + x3) < 160) (gX8_isName_L47 F σ x1 (gX8_isName_L20 F σ x1 n) x2 x3 (σ 58 (w32 ((σ 57 6) + x3))))
def gX8_isName (F : Nat) (σ : St) (x1 : Int) : Option (Int) := if w32 ((σ 57 4) - (σ 57 6)) ≤ 6 then gX8_isName_L20 F σ x1 F ((σ 57 4) - (σ 57 6)) 0 else some 0
def rmX8_isName : Room := { frames := 8, cells := 0, slots := 0, locals := 400 }
set_option maxRecDepth 100000 in
set_option maxHeartbeats 4000000 in
theorem pX8_isName_L47 {X : MX} {G : GG} (C : CX X G 5 cX8_isName RX8) (R : RT X (some .boolean)) (hR : mR X = rmX8_isName) (F : Nat) (σ : St) (x1 : Int) (c20 : Int → Int → Option (Int)) (hc20 : ∀ (x2 : Int) (x3 : Int), ZZ X G 5 (QM X G vzI (wzR σ) (0, 0)) (0, 0) (c20 x2 x3) (w0 σ) 20 [(0, vr G 57), (1, vi x1), (2, vi x2), (3, vi x3)] []) : ∀ (x2 : Int) (x3 : Int) (s0 : Int), ZZ X G 5 (QM X G vzI (wzR σ) (0, 0)) (0, 0) (gX8_isName_L47 F σ x1 c20 x2 x3 s0) (w0 σ) 47 [(0, vr G 57), (1, vi x1), (2, vi x2), (3, vi x3)] [vi s0] := by
  intro x2 x3 s0
  show ZZ X G 5 (QM X G vzI (wzR σ) (0, 0)) (0, 0) ((gchr 0 ((x1 * 6) + x3)).bind fun r1 => if w32 s0 = w32 r1 then c20 x2 (x3 + 1) else some 0) (w0 σ) 47 [(0, vr G 57), (1, vi x1), (2, vi x2), (3, vi x3)] [vi s0]
  refine z_istore (lv' := [(4, vi s0), (0, vr G 57), (1, vi x1), (2, vi x2), (3, vi x3)]) C (by decide) dX8_isName_47 49 rfl rfl ?_
  refine z_iload C 0 rfl dX8_isName_49 51 rfl ?_
  refine s_ldc C (ss_R0 C.2.2.2.2.2) dX8_isName_51 53 rfl ?_
  refine z_iload_n C 1 rfl 2 rfl dX8_isName_53 54 rfl ?_
  refine z_bipush C (by decide) dX8_isName_54 56 rfl ?_
  refine z_imul C dX8_isName_56 57 rfl ?_
  refine z_iload_n C 3 rfl 4 rfl dX8_isName_57 58 rfl ?_
  refine z_iadd C dX8_isName_58 59 rfl ?_
  refine s_callV C hR (tJ0_charAt_5068e (mL X) G σ (gK G 0) (gV G 0) 0 (by decide) ((x1 * 6) + x3) (fun s hs => ss_str hs 0 (by decide))) mwJ0_charAt_5068e rfl soJ0_charAt_5068e lkX8_101 (ss_str C.2.2.2.2.2 0 (by decide)).1 rfl rfl (Nat.le_of_ble_eq_true rfl) (by unfold rmOK; decide) dX8_isName_59 62 rfl (fun r1 _ => ?_)
  refine z_icmp_eq C dX8_isName_62 67 (by decide) 65 rfl rfl rfl (fun _ => ?_) (fun _ => ?_)
  · refine z_iinc (lv' := [(3, vi (x3 + 1)), (4, vi s0), (0, vr G 57), (1, vi x1), (2, vi x2)]) C (by decide) 4 rfl dX8_isName_67 70 rfl rfl ?_
    refine z_goto C dX8_isName_70 20 (by decide) ?_
    refine z_lv (lv' := [(0, vr G 57), (1, vi x1), (2, vi x2), (3, vi (x3 + 1))]) [2, 3, 4, 0] rfl ?_
    exact hc20 x2 (x3 + 1)
  · refine z_iconst C dX8_isName_65 66 rfl ?_
    exact z_zret C R nz0 rfl rfl dX8_isName_66
set_option maxRecDepth 100000 in
set_option maxHeartbeats 4000000 in
theorem pX8_isName_L20 {X : MX} {G : GG} (C : CX X G 5 cX8_isName RX8) (R : RT X (some .boolean)) (hR : mR X = rmX8_isName) (F : Nat) (σ : St) (x1 : Int)  : ∀ (n : Nat) (x2 : Int) (x3 : Int), ZZ X G 5 (QM X G vzI (wzR σ) (0, 0)) (0, 0) (gX8_isName_L20 F σ x1 n x2 x3) (w0 σ) 20 [(0, vr G 57), (1, vi x1), (2, vi x2), (3, vi x3)] [] := by
  intro n
  induction n with
  | zero =>
    intro _ _
    exact z_none
  | succ n ih =>
    intro x2 x3
    show ZZ X G 5 (QM X G vzI (wzR σ) (0, 0)) (0, 0) (if w32 x3 ≥ 6 then some 1 else if w32 x3 ≥ w32 x2 then gX8_isName_L47 F σ x1 (gX8_isName_L20 F σ x1 n) x2 x3 32 else gd (0 ≤ w32 ((σ 57 6) + x3) ∧ w32 ((σ 57 6) + x3) < 160) (gX8_isName_L47 F σ x1 (gX8_isName_L20 F σ x1 n) x2 x3 (σ 58 (w32 ((σ 57 6) + x3))))) (w0 σ) 20 [(0, vr G 57), (1, vi x1), (2, vi x2), (3, vi x3)] []
    refine z_iload_n C 3 rfl 3 rfl dX8_isName_20 21 rfl ?_
    refine z_bipush C (by decide) dX8_isName_21 23 rfl ?_
    refine z_icmp_ge C dX8_isName_23 73 (by decide) 26 rfl rfl (w32_id (a := 6) (by decide)) (fun _ => ?_) (fun _ => ?_)
    · refine z_iconst C dX8_isName_73 74 rfl ?_
      exact z_zret C R nz1 rfl rfl dX8_isName_74
    · refine z_iload_n C 3 rfl 3 rfl dX8_isName_26 27 rfl ?_
      refine z_iload_n C 2 rfl 2 rfl dX8_isName_27 28 rfl ?_
      refine z_icmp_ge C dX8_isName_28 45 (by decide) 31 rfl rfl rfl (fun _ => ?_) (fun _ => ?_)
      · refine z_bipush C (by decide) dX8_isName_45 47 rfl ?_
        exact pX8_isName_L47 C R hR F σ x1 (gX8_isName_L20 F σ x1 n) ih x2 x3 32
      · refine z_aload_n C 0 rfl 0 rfl dX8_isName_31 32 rfl ?_
        refine y_getR C fX8_9 one_8 lay_8_3 dX8_isName_32 35 rfl ?_
        refine z_aload_n C 0 rfl 0 rfl dX8_isName_35 36 rfl ?_
        refine y_getI C fX8_78 one_8 dX8_isName_36 39 rfl ?_
        refine z_iload_n C 3 rfl 3 rfl dX8_isName_39 40 rfl ?_
        refine z_iadd C dX8_isName_40 41 rfl ?_
        refine y_iald C lay_8_3.2 rfl dX8_isName_41 42 rfl rfl (fun _ => ?_)
        refine z_goto C dX8_isName_42 47 (by decide) ?_
        exact pX8_isName_L47 C R hR F σ x1 (gX8_isName_L20 F σ x1 n) ih x2 x3 (σ 58 (w32 ((σ 57 6) + x3)))
set_option maxRecDepth 100000 in
set_option maxHeartbeats 4000000 in
theorem tX8_isName (l : Launch) (G : GG) (F : Nat) (σ : St) (x1 : Int) : Ctr l G yX8_isName cX8_isName 5 (some .boolean) rmX8_isName [vr G 57, vi x1] (w0 σ) vzI (wzR σ) (gX8_isName F σ x1) := by
  refine ctr_of (by decide) (Nat.le_of_ble_eq_true rfl) mwX8_isName.1 (fun X hl hR C R hnm => ?_)
  subst hl
  refine z_lv (lv' := [(0, vr G 57), (1, vi x1)]) [0, 1] rfl ?_
  show ZZ X G 5 (QM X G vzI (wzR σ) (0, 0)) (0, 0) (if w32 ((σ 57 4) - (σ 57 6)) ≤ 6 then gX8_isName_L20 F σ x1 F ((σ 57 4) - (σ 57 6)) 0 else some 0) (w0 σ) 0 [(0, vr G 57), (1, vi x1)] []
  refine z_aload_n C 0 rfl 0 rfl dX8_isName_0 1 rfl ?_
  refine y_getI C fX8_19 one_8 dX8_isName_1 4 rfl ?_
  refine z_aload_n C 0 rfl 0 rfl dX8_isName_4 5 rfl ?_
  refine y_getI C fX8_78 one_8 dX8_isName_5 8 rfl ?_
  refine z_isub C dX8_isName_8 9 rfl ?_
  refine z_istore_n (lv' := [(2, vi ((σ 57 4) - (σ 57 6))), (0, vr G 57), (1, vi x1)]) C 2 rfl (by decide) dX8_isName_9 10 rfl rfl ?_
  refine z_iload_n C 2 rfl 0 rfl dX8_isName_10 11 rfl ?_
  refine z_bipush C (by decide) dX8_isName_11 13 rfl ?_
  refine z_icmp_le C dX8_isName_13 18 (by decide) 16 rfl rfl (w32_id (a := 6) (by decide)) (fun _ => ?_) (fun _ => ?_)
  · refine z_iconst C dX8_isName_18 19 rfl ?_
    refine z_istore_n (lv' := [(3, vi 0), (2, vi ((σ 57 4) - (σ 57 6))), (0, vr G 57), (1, vi x1)]) C 3 rfl (by decide) dX8_isName_19 20 rfl rfl ?_
    refine z_lv (lv' := [(0, vr G 57), (1, vi x1), (2, vi ((σ 57 4) - (σ 57 6))), (3, vi 0)]) [2, 3, 1, 0] rfl ?_
    exact pX8_isName_L20 C R hR F σ x1 F ((σ 57 4) - (σ 57 6)) 0
  · refine z_iconst C dX8_isName_16 17 rfl ?_
    exact z_zret C R nz0 rfl rfl dX8_isName_17
-- fail
def gX8_fail_L20 (x1 : Int) (σ : St) : Option (St) := some (up σ 57 5 18)
def gX8_fail (σ : St) (x1 : Int) : Option (St) := if w32 (σ 57 1) ≠ 0 then gX8_fail_L20 x1 σ else gX8_fail_L20 x1 (up (up σ 57 1 x1) 57 2 ((up σ 57 1 x1) 57 6))
def rmX8_fail : Room := { frames := 0, cells := 0, slots := 0, locals := 0 }
set_option maxRecDepth 100000 in
set_option maxHeartbeats 4000000 in
theorem pX8_fail_L20 {X : MX} {G : GG} (C : CX X G 2 cX8_fail RX8) (R : RT X none) (hR : mR X = rmX8_fail) (x1 : Int)  : ∀ (σ : St), ZZ X G 2 (QM X G vzV wzV (0, 0)) (0, 0) (gX8_fail_L20 x1 σ) (w0 σ) 20 [(0, vr G 57)] [] := by
  intro σ
  show ZZ X G 2 (QM X G vzV wzV (0, 0)) (0, 0) (some (up σ 57 5 18)) (w0 σ) 20 [(0, vr G 57)] []
  refine z_aload_n C 0 rfl 0 rfl dX8_fail_20 21 rfl ?_
  refine z_bipush C (by decide) dX8_fail_21 23 rfl ?_
  refine y_putI C fX8_44 one_8 ⟨rfl, rfl⟩ dX8_fail_23 26 rfl ?_
  exact z_vret C R rfl rfl dX8_fail_26
set_option maxRecDepth 100000 in
set_option maxHeartbeats 4000000 in
theorem tX8_fail (l : Launch) (G : GG) (σ : St) (x1 : Int) : Ctr l G yX8_fail cX8_fail 2 none rmX8_fail [vr G 57, vi x1] (w0 σ) vzV wzV (gX8_fail σ x1) := by
  refine ctr_of (by decide) (Nat.le_of_ble_eq_true rfl) mwX8_fail.1 (fun X hl hR C R hnm => ?_)
  subst hl
  refine z_lv (lv' := [(0, vr G 57), (1, vi x1)]) [0, 1] rfl ?_
  show ZZ X G 2 (QM X G vzV wzV (0, 0)) (0, 0) (if w32 (σ 57 1) ≠ 0 then gX8_fail_L20 x1 σ else gX8_fail_L20 x1 (up (up σ 57 1 x1) 57 2 ((up σ 57 1 x1) 57 6))) (w0 σ) 0 [(0, vr G 57), (1, vi x1)] []
  refine z_aload_n C 0 rfl 0 rfl dX8_fail_0 1 rfl ?_
  refine y_getI C fX8_22 one_8 dX8_fail_1 4 rfl ?_
  refine z_if_ne C dX8_fail_4 20 (by decide) 7 rfl rfl (fun _ => ?_) (fun _ => ?_)
  · refine z_lv (lv' := [(0, vr G 57)]) [0] rfl ?_
    exact pX8_fail_L20 C R hR x1 σ
  · refine z_aload_n C 0 rfl 0 rfl dX8_fail_7 8 rfl ?_
    refine z_iload_n C 1 rfl 1 rfl dX8_fail_8 9 rfl ?_
    refine y_putI C fX8_22 one_8 ⟨rfl, rfl⟩ dX8_fail_9 12 rfl ?_
    refine z_aload_n C 0 rfl 0 rfl dX8_fail_12 13 rfl ?_
    refine z_aload_n C 0 rfl 0 rfl dX8_fail_13 14 rfl ?_
    refine y_getI C fX8_78 one_8 dX8_fail_14 17 rfl ?_
    refine y_putI C fX8_25 one_8 ⟨rfl, rfl⟩ dX8_fail_17 20 rfl ?_
    refine z_lv (lv' := [(0, vr G 57)]) [0] rfl ?_
    exact pX8_fail_L20 C R hR x1 (up (up σ 57 1 x1) 57 2 ((up σ 57 1 x1) 57 6))
-- readName
def gX8_readName_L41 (F : Nat) : Nat → Int → St → Option (St)
  | 0, _, _ => none
  | n + 1, x1, σ => if w32 x1 ≥ 10 then (gX8_fail σ 1).bind fun r1 => some r1 else (gX8_isName F σ x1).bind fun r2 => if w32 r2 = 0 then gX8_readName_L41 F n (x1 + 1) σ else some (up σ 57 5 x1)
def gX8_readName_L39 (F : Nat) (σ : St) : Option (St) := gX8_readName_L41 F F 0 σ
def gX8_readName_L0 (F : Nat) : Nat → St → Option (St)
  | 0, _ => none
  | n + 1, σ => if w32 (σ 57 4) ≥ w32 (σ 57 0) then gX8_readName_L39 F σ else gd (0 ≤ w32 (σ 57 4) ∧ w32 (σ 57 4) < 160) ((gX8_isLetter σ (σ 58 (w32 (σ 57 4)))).bind fun r1 => if w32 r1 = 0 then gX8_readName_L39 F σ else gX8_readName_L0 F n (up σ 57 4 ((σ 57 4) + 1)))
def gX8_readName (F : Nat) (σ : St) : Option (St) := gX8_readName_L0 F F σ
def rmX8_readName : Room := { frames := 9, cells := 0, slots := 0, locals := 424 }
set_option maxRecDepth 100000 in
set_option maxHeartbeats 4000000 in
theorem pX8_readName_L41 {X : MX} {G : GG} (C : CX X G 2 cX8_readName RX8) (R : RT X none) (hR : mR X = rmX8_readName) (F : Nat)  : ∀ (n : Nat) (x1 : Int) (σ : St), ZZ X G 2 (QM X G vzV wzV (0, 0)) (0, 0) (gX8_readName_L41 F n x1 σ) (w0 σ) 41 [(0, vr G 57), (1, vi x1)] [] := by
  intro n
  induction n with
  | zero =>
    intro _ _
    exact z_none
  | succ n ih =>
    intro x1 σ
    show ZZ X G 2 (QM X G vzV wzV (0, 0)) (0, 0) (if w32 x1 ≥ 10 then (gX8_fail σ 1).bind fun r1 => some r1 else (gX8_isName F σ x1).bind fun r2 => if w32 r2 = 0 then gX8_readName_L41 F n (x1 + 1) σ else some (up σ 57 5 x1)) (w0 σ) 41 [(0, vr G 57), (1, vi x1)] []
    refine z_iload_n C 1 rfl 1 rfl dX8_readName_41 42 rfl ?_
    refine z_bipush C (by decide) dX8_readName_42 44 rfl ?_
    refine z_icmp_ge C dX8_readName_44 67 (by decide) 47 rfl rfl (w32_id (a := 10) (by decide)) (fun _ => ?_) (fun _ => ?_)
    · refine z_aload_n C 0 rfl 0 rfl dX8_readName_67 68 rfl ?_
      refine z_iconst C dX8_readName_68 69 rfl ?_
      refine y_callVv C hR (tX8_fail (mL X) G σ 1) ⟨mwX8_fail, mvX8_fail, lkX8_54⟩ one_8 rfl rfl (Nat.le_of_ble_eq_true rfl) (by unfold rmOK; decide) dX8_readName_69 72 rfl (fun r1 _ => ?_)
      exact z_vret C R rfl rfl dX8_readName_72
    · refine z_aload_n C 0 rfl 0 rfl dX8_readName_47 48 rfl ?_
      refine z_iload_n C 1 rfl 1 rfl dX8_readName_48 49 rfl ?_
      refine y_callVI C hR (tX8_isName (mL X) G F σ x1) ⟨mwX8_isName, mvX8_isName, lkX8_96⟩ one_8 rfl rfl (Nat.le_of_ble_eq_true rfl) (by unfold rmOK; decide) dX8_readName_49 52 rfl (fun r2 _ => ?_)
      refine z_if_eq C dX8_readName_52 61 (by decide) 55 rfl rfl (fun _ => ?_) (fun _ => ?_)
      · refine z_iinc (lv' := [(1, vi (x1 + 1)), (0, vr G 57)]) C (by decide) 1 rfl dX8_readName_61 64 rfl rfl ?_
        refine z_goto C dX8_readName_64 41 (by decide) ?_
        refine z_lv (lv' := [(0, vr G 57), (1, vi (x1 + 1))]) [1, 0] rfl ?_
        exact ih (x1 + 1) σ
      · refine z_aload_n C 0 rfl 0 rfl dX8_readName_55 56 rfl ?_
        refine z_iload_n C 1 rfl 1 rfl dX8_readName_56 57 rfl ?_
        refine y_putI C fX8_44 one_8 ⟨rfl, rfl⟩ dX8_readName_57 60 rfl ?_
        exact z_vret C R rfl rfl dX8_readName_60
set_option maxRecDepth 100000 in
set_option maxHeartbeats 4000000 in
theorem pX8_readName_L39 {X : MX} {G : GG} (C : CX X G 2 cX8_readName RX8) (R : RT X none) (hR : mR X = rmX8_readName) (F : Nat)  : ∀ (σ : St), ZZ X G 2 (QM X G vzV wzV (0, 0)) (0, 0) (gX8_readName_L39 F σ) (w0 σ) 39 [(0, vr G 57)] [] := by
  intro σ
  show ZZ X G 2 (QM X G vzV wzV (0, 0)) (0, 0) (gX8_readName_L41 F F 0 σ) (w0 σ) 39 [(0, vr G 57)] []
  refine z_iconst C dX8_readName_39 40 rfl ?_
  refine z_istore_n (lv' := [(1, vi 0), (0, vr G 57)]) C 1 rfl (by decide) dX8_readName_40 41 rfl rfl ?_
  refine z_lv (lv' := [(0, vr G 57), (1, vi 0)]) [1, 0] rfl ?_
  exact pX8_readName_L41 C R hR F F 0 σ
set_option maxRecDepth 100000 in
set_option maxHeartbeats 4000000 in
theorem pX8_readName_L0 {X : MX} {G : GG} (C : CX X G 2 cX8_readName RX8) (R : RT X none) (hR : mR X = rmX8_readName) (F : Nat)  : ∀ (n : Nat)  (σ : St), ZZ X G 2 (QM X G vzV wzV (0, 0)) (0, 0) (gX8_readName_L0 F n σ) (w0 σ) 0 [(0, vr G 57)] [] := by
  intro n
  induction n with
  | zero =>
    intro _
    exact z_none
  | succ n ih =>
    intro σ
    show ZZ X G 2 (QM X G vzV wzV (0, 0)) (0, 0) (if w32 (σ 57 4) ≥ w32 (σ 57 0) then gX8_readName_L39 F σ else gd (0 ≤ w32 (σ 57 4) ∧ w32 (σ 57 4) < 160) ((gX8_isLetter σ (σ 58 (w32 (σ 57 4)))).bind fun r1 => if w32 r1 = 0 then gX8_readName_L39 F σ else gX8_readName_L0 F n (up σ 57 4 ((σ 57 4) + 1)))) (w0 σ) 0 [(0, vr G 57)] []
    refine z_aload_n C 0 rfl 0 rfl dX8_readName_0 1 rfl ?_
    refine y_getI C fX8_19 one_8 dX8_readName_1 4 rfl ?_
    refine z_aload_n C 0 rfl 0 rfl dX8_readName_4 5 rfl ?_
    refine y_getI C fX8_15 one_8 dX8_readName_5 8 rfl ?_
    refine z_icmp_ge C dX8_readName_8 39 (by decide) 11 rfl rfl rfl (fun _ => ?_) (fun _ => ?_)
    · exact pX8_readName_L39 C R hR F σ
    · refine z_aload_n C 0 rfl 0 rfl dX8_readName_11 12 rfl ?_
      refine y_getR C fX8_9 one_8 lay_8_3 dX8_readName_12 15 rfl ?_
      refine z_aload_n C 0 rfl 0 rfl dX8_readName_15 16 rfl ?_
      refine y_getI C fX8_19 one_8 dX8_readName_16 19 rfl ?_
      refine y_iald C lay_8_3.2 rfl dX8_readName_19 20 rfl rfl (fun _ => ?_)
      refine y_callSI C hR (tX8_isLetter (mL X) G σ (σ 58 (w32 (σ 57 4)))) ⟨mwX8_isLetter, msX8_isLetter, lkX8_81⟩ rfl rfl (Nat.le_of_ble_eq_true rfl) (by unfold rmOK; decide) dX8_readName_20 23 rfl (fun r1 _ => ?_)
      refine z_if_eq C dX8_readName_23 39 (by decide) 26 rfl rfl (fun _ => ?_) (fun _ => ?_)
      · exact pX8_readName_L39 C R hR F σ
      · refine z_aload_n C 0 rfl 0 rfl dX8_readName_26 27 rfl ?_
        refine z_dup C rfl dX8_readName_27 28 rfl ?_
        refine y_getI C fX8_19 one_8 dX8_readName_28 31 rfl ?_
        refine z_iconst C dX8_readName_31 32 rfl ?_
        refine z_iadd C dX8_readName_32 33 rfl ?_
        refine y_putI C fX8_19 one_8 ⟨rfl, rfl⟩ dX8_readName_33 36 rfl ?_
        refine z_goto C dX8_readName_36 0 (by decide) ?_
        exact ih (up σ 57 4 ((σ 57 4) + 1))
set_option maxRecDepth 100000 in
set_option maxHeartbeats 4000000 in
theorem tX8_readName (l : Launch) (G : GG) (F : Nat) (σ : St) : Ctr l G yX8_readName cX8_readName 2 none rmX8_readName [vr G 57] (w0 σ) vzV wzV (gX8_readName F σ) := by
  refine ctr_of (by decide) (Nat.le_of_ble_eq_true rfl) mwX8_readName.1 (fun X hl hR C R hnm => ?_)
  subst hl
  refine z_lv (lv' := [(0, vr G 57)]) [0] rfl ?_
  show ZZ X G 2 (QM X G vzV wzV (0, 0)) (0, 0) (gX8_readName_L0 F F σ) (w0 σ) 0 [(0, vr G 57)] []
  exact pX8_readName_L0 C R hR F F σ
-- isFigure
def gX8_isFigure (σ : St) (x0 : Int) : Option (Int) := if w32 x0 < 48 then some 0 else if w32 x0 > 57 then some 0 else some 1
def rmX8_isFigure : Room := { frames := 0, cells := 0, slots := 0, locals := 0 }
set_option maxRecDepth 100000 in
set_option maxHeartbeats 4000000 in
theorem tX8_isFigure (l : Launch) (G : GG) (σ : St) (x0 : Int) : Ctr l G yX8_isFigure cX8_isFigure 1 (some .boolean) rmX8_isFigure [vi x0] (w0 σ) vzI (wzR σ) (gX8_isFigure σ x0) := by
  refine ctr_of (by decide) (Nat.le_of_ble_eq_true rfl) mwX8_isFigure.1 (fun X hl hR C R hnm => ?_)
  subst hl
  refine z_lv (lv' := [(0, vi x0)]) [0] rfl ?_
  show ZZ X G 1 (QM X G vzI (wzR σ) (0, 0)) (0, 0) (if w32 x0 < 48 then some 0 else if w32 x0 > 57 then some 0 else some 1) (w0 σ) 0 [(0, vi x0)] []
  refine z_iload_n C 0 rfl 0 rfl dX8_isFigure_0 1 rfl ?_
  refine z_bipush C (by decide) dX8_isFigure_1 3 rfl ?_
  refine z_icmp_lt C dX8_isFigure_3 16 (by decide) 6 rfl rfl (w32_id (a := 48) (by decide)) (fun _ => ?_) (fun _ => ?_)
  · refine z_iconst C dX8_isFigure_16 17 rfl ?_
    exact z_zret C R nz0 rfl rfl dX8_isFigure_17
  · refine z_iload_n C 0 rfl 0 rfl dX8_isFigure_6 7 rfl ?_
    refine z_bipush C (by decide) dX8_isFigure_7 9 rfl ?_
    refine z_icmp_gt C dX8_isFigure_9 16 (by decide) 12 rfl rfl (w32_id (a := 57) (by decide)) (fun _ => ?_) (fun _ => ?_)
    · refine z_iconst C dX8_isFigure_16 17 rfl ?_
      exact z_zret C R nz0 rfl rfl dX8_isFigure_17
    · refine z_iconst C dX8_isFigure_12 13 rfl ?_
      refine z_goto C dX8_isFigure_13 17 (by decide) ?_
      exact z_zret C R nz1 rfl rfl dX8_isFigure_17
-- readNumber
def gX8_readNumber_L68 (F : Nat) (σ : St) : Option (St) := if w32 ((σ 57 4) - (σ 57 6)) ≤ 3 then some (up σ 57 5 16) else (gX8_fail σ 1).bind fun r1 => some r1
def gX8_readNumber_L5 (F : Nat) : Nat → St → Option (St)
  | 0, _ => none
  | n + 1, σ => if w32 (σ 57 4) ≥ w32 (σ 57 0) then gX8_readNumber_L68 F σ else gd (0 ≤ w32 (σ 57 4) ∧ w32 (σ 57 4) < 160) ((gX8_isFigure σ (σ 58 (w32 (σ 57 4)))).bind fun r1 => if w32 r1 = 0 then gX8_readNumber_L68 F σ else gd (0 ≤ w32 (σ 57 4) ∧ w32 (σ 57 4) < 160) (gX8_readNumber_L5 F n (up (up σ 57 7 ((((σ 57 7) * 10) + (σ 58 (w32 (σ 57 4)))) - 48)) 57 4 (((up σ 57 7 ((((σ 57 7) * 10) + (σ 58 (w32 (σ 57 4)))) - 48)) 57 4) + 1))))
def gX8_readNumber (F : Nat) (σ : St) : Option (St) := gX8_readNumber_L5 F F (up σ 57 7 0)
def rmX8_readNumber : Room := { frames := 1, cells := 0, slots := 0, locals := 21 }
set_option maxRecDepth 100000 in
set_option maxHeartbeats 4000000 in
theorem pX8_readNumber_L68 {X : MX} {G : GG} (C : CX X G 1 cX8_readNumber RX8) (R : RT X none) (hR : mR X = rmX8_readNumber) (F : Nat)  : ∀ (σ : St), ZZ X G 1 (QM X G vzV wzV (0, 0)) (0, 0) (gX8_readNumber_L68 F σ) (w0 σ) 68 [(0, vr G 57)] [] := by
  intro σ
  show ZZ X G 1 (QM X G vzV wzV (0, 0)) (0, 0) (if w32 ((σ 57 4) - (σ 57 6)) ≤ 3 then some (up σ 57 5 16) else (gX8_fail σ 1).bind fun r1 => some r1) (w0 σ) 68 [(0, vr G 57)] []
  refine z_aload_n C 0 rfl 0 rfl dX8_readNumber_68 69 rfl ?_
  refine y_getI C fX8_19 one_8 dX8_readNumber_69 72 rfl ?_
  refine z_aload_n C 0 rfl 0 rfl dX8_readNumber_72 73 rfl ?_
  refine y_getI C fX8_78 one_8 dX8_readNumber_73 76 rfl ?_
  refine z_isub C dX8_readNumber_76 77 rfl ?_
  refine z_iconst C dX8_readNumber_77 78 rfl ?_
  refine z_icmp_le C dX8_readNumber_78 89 (by decide) 81 rfl rfl (w32_id (a := 3) (by decide)) (fun _ => ?_) (fun _ => ?_)
  · refine z_aload_n C 0 rfl 0 rfl dX8_readNumber_89 90 rfl ?_
    refine z_bipush C (by decide) dX8_readNumber_90 92 rfl ?_
    refine y_putI C fX8_44 one_8 ⟨rfl, rfl⟩ dX8_readNumber_92 95 rfl ?_
    exact z_vret C R rfl rfl dX8_readNumber_95
  · refine z_aload_n C 0 rfl 0 rfl dX8_readNumber_81 82 rfl ?_
    refine z_iconst C dX8_readNumber_82 83 rfl ?_
    refine y_callVv C hR (tX8_fail (mL X) G σ 1) ⟨mwX8_fail, mvX8_fail, lkX8_54⟩ one_8 rfl rfl (Nat.le_of_ble_eq_true rfl) (by unfold rmOK; decide) dX8_readNumber_83 86 rfl (fun r1 _ => ?_)
    refine z_goto C dX8_readNumber_86 95 (by decide) ?_
    exact z_vret C R rfl rfl dX8_readNumber_95
set_option maxRecDepth 100000 in
set_option maxHeartbeats 4000000 in
theorem pX8_readNumber_L5 {X : MX} {G : GG} (C : CX X G 1 cX8_readNumber RX8) (R : RT X none) (hR : mR X = rmX8_readNumber) (F : Nat)  : ∀ (n : Nat)  (σ : St), ZZ X G 1 (QM X G vzV wzV (0, 0)) (0, 0) (gX8_readNumber_L5 F n σ) (w0 σ) 5 [(0, vr G 57)] [] := by
  intro n
  induction n with
  | zero =>
    intro _
    exact z_none
  | succ n ih =>
    intro σ
    show ZZ X G 1 (QM X G vzV wzV (0, 0)) (0, 0) (if w32 (σ 57 4) ≥ w32 (σ 57 0) then gX8_readNumber_L68 F σ else gd (0 ≤ w32 (σ 57 4) ∧ w32 (σ 57 4) < 160) ((gX8_isFigure σ (σ 58 (w32 (σ 57 4)))).bind fun r1 => if w32 r1 = 0 then gX8_readNumber_L68 F σ else gd (0 ≤ w32 (σ 57 4) ∧ w32 (σ 57 4) < 160) (gX8_readNumber_L5 F n (up (up σ 57 7 ((((σ 57 7) * 10) + (σ 58 (w32 (σ 57 4)))) - 48)) 57 4 (((up σ 57 7 ((((σ 57 7) * 10) + (σ 58 (w32 (σ 57 4)))) - 48)) 57 4) + 1))))) (w0 σ) 5 [(0, vr G 57)] []
    refine z_aload_n C 0 rfl 0 rfl dX8_readNumber_5 6 rfl ?_
    refine y_getI C fX8_19 one_8 dX8_readNumber_6 9 rfl ?_
    refine z_aload_n C 0 rfl 0 rfl dX8_readNumber_9 10 rfl ?_
    refine y_getI C fX8_15 one_8 dX8_readNumber_10 13 rfl ?_
    refine z_icmp_ge C dX8_readNumber_13 68 (by decide) 16 rfl rfl rfl (fun _ => ?_) (fun _ => ?_)
    · exact pX8_readNumber_L68 C R hR F σ
    · refine z_aload_n C 0 rfl 0 rfl dX8_readNumber_16 17 rfl ?_
      refine y_getR C fX8_9 one_8 lay_8_3 dX8_readNumber_17 20 rfl ?_
      refine z_aload_n C 0 rfl 0 rfl dX8_readNumber_20 21 rfl ?_
      refine y_getI C fX8_19 one_8 dX8_readNumber_21 24 rfl ?_
      refine y_iald C lay_8_3.2 rfl dX8_readNumber_24 25 rfl rfl (fun _ => ?_)
      refine y_callSI C hR (tX8_isFigure (mL X) G σ (σ 58 (w32 (σ 57 4)))) ⟨mwX8_isFigure, msX8_isFigure, lkX8_87⟩ rfl rfl (Nat.le_of_ble_eq_true rfl) (by unfold rmOK; decide) dX8_readNumber_25 28 rfl (fun r1 _ => ?_)
      refine z_if_eq C dX8_readNumber_28 68 (by decide) 31 rfl rfl (fun _ => ?_) (fun _ => ?_)
      · exact pX8_readNumber_L68 C R hR F σ
      · refine z_aload_n C 0 rfl 0 rfl dX8_readNumber_31 32 rfl ?_
        refine z_aload_n C 0 rfl 0 rfl dX8_readNumber_32 33 rfl ?_
        refine y_getI C fX8_71 one_8 dX8_readNumber_33 36 rfl ?_
        refine z_bipush C (by decide) dX8_readNumber_36 38 rfl ?_
        refine z_imul C dX8_readNumber_38 39 rfl ?_
        refine z_aload_n C 0 rfl 0 rfl dX8_readNumber_39 40 rfl ?_
        refine y_getR C fX8_9 one_8 lay_8_3 dX8_readNumber_40 43 rfl ?_
        refine z_aload_n C 0 rfl 0 rfl dX8_readNumber_43 44 rfl ?_
        refine y_getI C fX8_19 one_8 dX8_readNumber_44 47 rfl ?_
        refine y_iald C lay_8_3.2 rfl dX8_readNumber_47 48 rfl rfl (fun _ => ?_)
        refine z_iadd C dX8_readNumber_48 49 rfl ?_
        refine z_bipush C (by decide) dX8_readNumber_49 51 rfl ?_
        refine z_isub C dX8_readNumber_51 52 rfl ?_
        refine y_putI C fX8_71 one_8 ⟨rfl, rfl⟩ dX8_readNumber_52 55 rfl ?_
        refine z_aload_n C 0 rfl 0 rfl dX8_readNumber_55 56 rfl ?_
        refine z_dup C rfl dX8_readNumber_56 57 rfl ?_
        refine y_getI C fX8_19 one_8 dX8_readNumber_57 60 rfl ?_
        refine z_iconst C dX8_readNumber_60 61 rfl ?_
        refine z_iadd C dX8_readNumber_61 62 rfl ?_
        refine y_putI C fX8_19 one_8 ⟨rfl, rfl⟩ dX8_readNumber_62 65 rfl ?_
        refine z_goto C dX8_readNumber_65 5 (by decide) ?_
        exact ih (up (up σ 57 7 ((((σ 57 7) * 10) + (σ 58 (w32 (σ 57 4)))) - 48)) 57 4 (((up σ 57 7 ((((σ 57 7) * 10) + (σ 58 (w32 (σ 57 4)))) - 48)) 57 4) + 1))
set_option maxRecDepth 100000 in
set_option maxHeartbeats 4000000 in
theorem tX8_readNumber (l : Launch) (G : GG) (F : Nat) (σ : St) : Ctr l G yX8_readNumber cX8_readNumber 1 none rmX8_readNumber [vr G 57] (w0 σ) vzV wzV (gX8_readNumber F σ) := by
  refine ctr_of (by decide) (Nat.le_of_ble_eq_true rfl) mwX8_readNumber.1 (fun X hl hR C R hnm => ?_)
  subst hl
  refine z_lv (lv' := [(0, vr G 57)]) [0] rfl ?_
  show ZZ X G 1 (QM X G vzV wzV (0, 0)) (0, 0) (gX8_readNumber_L5 F F (up σ 57 7 0)) (w0 σ) 0 [(0, vr G 57)] []
  refine z_aload_n C 0 rfl 0 rfl dX8_readNumber_0 1 rfl ?_
  refine z_iconst C dX8_readNumber_1 2 rfl ?_
  refine y_putI C fX8_71 one_8 ⟨rfl, rfl⟩ dX8_readNumber_2 5 rfl ?_
  exact pX8_readNumber_L5 C R hR F F (up σ 57 7 0)
-- readSign
def gX8_readSign (σ : St) : Option (St) := gd (0 ≤ w32 (σ 57 4) ∧ w32 (σ 57 4) < 160) ((sIx (i2c_ (σ 58 (w32 (σ 57 4))))).bind fun r1 => if w32 r1 ≥ 0 then some (up (up σ 57 5 (10 + r1)) 57 4 (((up σ 57 5 (10 + r1)) 57 4) + 1)) else (gX8_fail σ 1).bind fun r2 => some r2)
def rmX8_readSign : Room := { frames := 8, cells := 0, slots := 0, locals := 400 }
set_option maxRecDepth 100000 in
set_option maxHeartbeats 4000000 in
theorem tX8_readSign (l : Launch) (G : GG) (σ : St) : Ctr l G yX8_readSign cX8_readSign 2 none rmX8_readSign [vr G 57] (w0 σ) vzV wzV (gX8_readSign σ) := by
  refine ctr_of (by decide) (Nat.le_of_ble_eq_true rfl) mwX8_readSign.1 (fun X hl hR C R hnm => ?_)
  subst hl
  refine z_lv (lv' := [(0, vr G 57)]) [0] rfl ?_
  show ZZ X G 2 (QM X G vzV wzV (0, 0)) (0, 0) (gd (0 ≤ w32 (σ 57 4) ∧ w32 (σ 57 4) < 160) ((sIx (i2c_ (σ 58 (w32 (σ 57 4))))).bind fun r1 => if w32 r1 ≥ 0 then some (up (up σ 57 5 (10 + r1)) 57 4 (((up σ 57 5 (10 + r1)) 57 4) + 1)) else (gX8_fail σ 1).bind fun r2 => some r2)) (w0 σ) 0 [(0, vr G 57)] []
  refine s_ldc C (ss_R1 C.2.2.2.2.2) dX8_readSign_0 2 rfl ?_
  refine z_aload_n C 0 rfl 0 rfl dX8_readSign_2 3 rfl ?_
  refine y_getR C fX8_9 one_8 lay_8_3 dX8_readSign_3 6 rfl ?_
  refine z_aload_n C 0 rfl 0 rfl dX8_readSign_6 7 rfl ?_
  refine y_getI C fX8_19 one_8 dX8_readSign_7 10 rfl ?_
  refine y_iald C lay_8_3.2 rfl dX8_readSign_10 11 rfl rfl (fun _ => ?_)
  refine z_i2c C dX8_readSign_11 12 rfl ?_
  refine s_callV C hR (tJ0_indexOf_0f7a4 (mL X) G σ (gK G 1) (gV G 1) (i2c_ (σ 58 (w32 (σ 57 4)))) (fun s hs => ss_str hs 1 (by decide))) mwJ0_indexOf_0f7a4 rfl soJ0_indexOf_0f7a4 lkX8_109 (ss_str C.2.2.2.2.2 1 (by decide)).1 rfl rfl (Nat.le_of_ble_eq_true rfl) (by unfold rmOK; decide) dX8_readSign_12 15 rfl (fun r1 _ => ?_)
  refine z_istore_n (lv' := [(1, vi r1), (0, vr G 57)]) C 1 rfl (by decide) dX8_readSign_15 16 rfl rfl ?_
  refine z_iload_n C 1 rfl 0 rfl dX8_readSign_16 17 rfl ?_
  refine z_if_ge C dX8_readSign_17 28 (by decide) 20 rfl rfl (fun _ => ?_) (fun _ => ?_)
  · refine z_aload_n C 0 rfl 1 rfl dX8_readSign_28 29 rfl ?_
    refine z_bipush C (by decide) dX8_readSign_29 31 rfl ?_
    refine z_iload_n C 1 rfl 0 rfl dX8_readSign_31 32 rfl ?_
    refine z_iadd C dX8_readSign_32 33 rfl ?_
    refine y_putI C fX8_44 one_8 ⟨rfl, rfl⟩ dX8_readSign_33 36 rfl ?_
    refine z_aload_n C 0 rfl 1 rfl dX8_readSign_36 37 rfl ?_
    refine z_dup C rfl dX8_readSign_37 38 rfl ?_
    refine y_getI C fX8_19 one_8 dX8_readSign_38 41 rfl ?_
    refine z_iconst C dX8_readSign_41 42 rfl ?_
    refine z_iadd C dX8_readSign_42 43 rfl ?_
    refine y_putI C fX8_19 one_8 ⟨rfl, rfl⟩ dX8_readSign_43 46 rfl ?_
    exact z_vret C R rfl rfl dX8_readSign_46
  · refine z_aload_n C 0 rfl 1 rfl dX8_readSign_20 21 rfl ?_
    refine z_iconst C dX8_readSign_21 22 rfl ?_
    refine y_callVv C hR (tX8_fail (mL X) G σ 1) ⟨mwX8_fail, mvX8_fail, lkX8_54⟩ one_8 rfl rfl (Nat.le_of_ble_eq_true rfl) (by unfold rmOK; decide) dX8_readSign_22 25 rfl (fun r2 _ => ?_)
    refine z_goto C dX8_readSign_25 46 (by decide) ?_
    exact z_vret C R rfl rfl dX8_readSign_46
-- advance
def gX8_advance_L46 (F : Nat) (σ : St) : Option (St) := if w32 ((up σ 57 6 (σ 57 4)) 57 4) < w32 ((up σ 57 6 (σ 57 4)) 57 0) then gd (0 ≤ w32 ((up σ 57 6 (σ 57 4)) 57 4) ∧ w32 ((up σ 57 6 (σ 57 4)) 57 4) < 160) ((gX8_isLetter (up σ 57 6 (σ 57 4)) ((up σ 57 6 (σ 57 4)) 58 (w32 ((up σ 57 6 (σ 57 4)) 57 4)))).bind fun r1 => if w32 r1 = 0 then gd (0 ≤ w32 ((up σ 57 6 (σ 57 4)) 57 4) ∧ w32 ((up σ 57 6 (σ 57 4)) 57 4) < 160) ((gX8_isFigure (up σ 57 6 (σ 57 4)) ((up σ 57 6 (σ 57 4)) 58 (w32 ((up σ 57 6 (σ 57 4)) 57 4)))).bind fun r2 => if w32 r2 = 0 then (gX8_readSign (up σ 57 6 (σ 57 4))).bind fun r3 => some r3 else (gX8_readNumber F (up σ 57 6 (σ 57 4))).bind fun r4 => some r4) else (gX8_readName F (up σ 57 6 (σ 57 4))).bind fun r5 => some r5) else some (up (up σ 57 6 (σ 57 4)) 57 5 17)
def gX8_advance_L8 (F : Nat) : Nat → St → Option (St)
  | 0, _ => none
  | n + 1, σ => if w32 (σ 57 4) ≥ w32 (σ 57 0) then gX8_advance_L46 F σ else gd (0 ≤ w32 (σ 57 4) ∧ w32 (σ 57 4) < 160) (if w32 (σ 58 (w32 (σ 57 4))) ≠ 32 then gX8_advance_L46 F σ else gX8_advance_L8 F n (up σ 57 4 ((σ 57 4) + 1)))
def gX8_advance (F : Nat) (σ : St) : Option (St) := if w32 (σ 57 1) = 0 then gX8_advance_L8 F F σ else some σ
def rmX8_advance : Room := { frames := 10, cells := 0, slots := 0, locals := 445 }
set_option maxRecDepth 100000 in
set_option maxHeartbeats 4000000 in
theorem pX8_advance_L46 {X : MX} {G : GG} (C : CX X G 1 cX8_advance RX8) (R : RT X none) (hR : mR X = rmX8_advance) (F : Nat)  : ∀ (σ : St), ZZ X G 1 (QM X G vzV wzV (0, 0)) (0, 0) (gX8_advance_L46 F σ) (w0 σ) 46 [(0, vr G 57)] [] := by
  intro σ
  show ZZ X G 1 (QM X G vzV wzV (0, 0)) (0, 0) (if w32 ((up σ 57 6 (σ 57 4)) 57 4) < w32 ((up σ 57 6 (σ 57 4)) 57 0) then gd (0 ≤ w32 ((up σ 57 6 (σ 57 4)) 57 4) ∧ w32 ((up σ 57 6 (σ 57 4)) 57 4) < 160) ((gX8_isLetter (up σ 57 6 (σ 57 4)) ((up σ 57 6 (σ 57 4)) 58 (w32 ((up σ 57 6 (σ 57 4)) 57 4)))).bind fun r1 => if w32 r1 = 0 then gd (0 ≤ w32 ((up σ 57 6 (σ 57 4)) 57 4) ∧ w32 ((up σ 57 6 (σ 57 4)) 57 4) < 160) ((gX8_isFigure (up σ 57 6 (σ 57 4)) ((up σ 57 6 (σ 57 4)) 58 (w32 ((up σ 57 6 (σ 57 4)) 57 4)))).bind fun r2 => if w32 r2 = 0 then (gX8_readSign (up σ 57 6 (σ 57 4))).bind fun r3 => some r3 else (gX8_readNumber F (up σ 57 6 (σ 57 4))).bind fun r4 => some r4) else (gX8_readName F (up σ 57 6 (σ 57 4))).bind fun r5 => some r5) else some (up (up σ 57 6 (σ 57 4)) 57 5 17)) (w0 σ) 46 [(0, vr G 57)] []
  refine z_aload_n C 0 rfl 0 rfl dX8_advance_46 47 rfl ?_
  refine z_aload_n C 0 rfl 0 rfl dX8_advance_47 48 rfl ?_
  refine y_getI C fX8_19 one_8 dX8_advance_48 51 rfl ?_
  refine y_putI C fX8_78 one_8 ⟨rfl, rfl⟩ dX8_advance_51 54 rfl ?_
  refine z_aload_n C 0 rfl 0 rfl dX8_advance_54 55 rfl ?_
  refine y_getI C fX8_19 one_8 dX8_advance_55 58 rfl ?_
  refine z_aload_n C 0 rfl 0 rfl dX8_advance_58 59 rfl ?_
  refine y_getI C fX8_15 one_8 dX8_advance_59 62 rfl ?_
  refine z_icmp_lt C dX8_advance_62 74 (by decide) 65 rfl rfl rfl (fun _ => ?_) (fun _ => ?_)
  · refine z_aload_n C 0 rfl 0 rfl dX8_advance_74 75 rfl ?_
    refine y_getR C fX8_9 one_8 lay_8_3 dX8_advance_75 78 rfl ?_
    refine z_aload_n C 0 rfl 0 rfl dX8_advance_78 79 rfl ?_
    refine y_getI C fX8_19 one_8 dX8_advance_79 82 rfl ?_
    refine y_iald C lay_8_3.2 rfl dX8_advance_82 83 rfl rfl (fun _ => ?_)
    refine y_callSI C hR (tX8_isLetter (mL X) G (up σ 57 6 (σ 57 4)) ((up σ 57 6 (σ 57 4)) 58 (w32 ((up σ 57 6 (σ 57 4)) 57 4)))) ⟨mwX8_isLetter, msX8_isLetter, lkX8_81⟩ rfl rfl (Nat.le_of_ble_eq_true rfl) (by unfold rmOK; decide) dX8_advance_83 86 rfl (fun r1 _ => ?_)
    refine z_if_eq C dX8_advance_86 96 (by decide) 89 rfl rfl (fun _ => ?_) (fun _ => ?_)
    · refine z_aload_n C 0 rfl 0 rfl dX8_advance_96 97 rfl ?_
      refine y_getR C fX8_9 one_8 lay_8_3 dX8_advance_97 100 rfl ?_
      refine z_aload_n C 0 rfl 0 rfl dX8_advance_100 101 rfl ?_
      refine y_getI C fX8_19 one_8 dX8_advance_101 104 rfl ?_
      refine y_iald C lay_8_3.2 rfl dX8_advance_104 105 rfl rfl (fun _ => ?_)
      refine y_callSI C hR (tX8_isFigure (mL X) G (up σ 57 6 (σ 57 4)) ((up σ 57 6 (σ 57 4)) 58 (w32 ((up σ 57 6 (σ 57 4)) 57 4)))) ⟨mwX8_isFigure, msX8_isFigure, lkX8_87⟩ rfl rfl (Nat.le_of_ble_eq_true rfl) (by unfold rmOK; decide) dX8_advance_105 108 rfl (fun r2 _ => ?_)
      refine z_if_eq C dX8_advance_108 118 (by decide) 111 rfl rfl (fun _ => ?_) (fun _ => ?_)
      · refine z_aload_n C 0 rfl 0 rfl dX8_advance_118 119 rfl ?_
        refine y_callVv C hR (tX8_readSign (mL X) G (up σ 57 6 (σ 57 4))) ⟨mwX8_readSign, mvX8_readSign, lkX8_93⟩ one_8 rfl rfl (Nat.le_of_ble_eq_true rfl) (by unfold rmOK; decide) dX8_advance_119 122 rfl (fun r3 _ => ?_)
        exact z_vret C R rfl rfl dX8_advance_122
      · refine z_aload_n C 0 rfl 0 rfl dX8_advance_111 112 rfl ?_
        refine y_callVv C hR (tX8_readNumber (mL X) G F (up σ 57 6 (σ 57 4))) ⟨mwX8_readNumber, mvX8_readNumber, lkX8_90⟩ one_8 rfl rfl (Nat.le_of_ble_eq_true rfl) (by unfold rmOK; decide) dX8_advance_112 115 rfl (fun r4 _ => ?_)
        refine z_goto C dX8_advance_115 122 (by decide) ?_
        exact z_vret C R rfl rfl dX8_advance_122
    · refine z_aload_n C 0 rfl 0 rfl dX8_advance_89 90 rfl ?_
      refine y_callVv C hR (tX8_readName (mL X) G F (up σ 57 6 (σ 57 4))) ⟨mwX8_readName, mvX8_readName, lkX8_84⟩ one_8 rfl rfl (Nat.le_of_ble_eq_true rfl) (by unfold rmOK; decide) dX8_advance_90 93 rfl (fun r5 _ => ?_)
      refine z_goto C dX8_advance_93 122 (by decide) ?_
      exact z_vret C R rfl rfl dX8_advance_122
  · refine z_aload_n C 0 rfl 0 rfl dX8_advance_65 66 rfl ?_
    refine z_bipush C (by decide) dX8_advance_66 68 rfl ?_
    refine y_putI C fX8_44 one_8 ⟨rfl, rfl⟩ dX8_advance_68 71 rfl ?_
    refine z_goto C dX8_advance_71 122 (by decide) ?_
    exact z_vret C R rfl rfl dX8_advance_122
set_option maxRecDepth 100000 in
set_option maxHeartbeats 4000000 in
theorem pX8_advance_L8 {X : MX} {G : GG} (C : CX X G 1 cX8_advance RX8) (R : RT X none) (hR : mR X = rmX8_advance) (F : Nat)  : ∀ (n : Nat)  (σ : St), ZZ X G 1 (QM X G vzV wzV (0, 0)) (0, 0) (gX8_advance_L8 F n σ) (w0 σ) 8 [(0, vr G 57)] [] := by
  intro n
  induction n with
  | zero =>
    intro _
    exact z_none
  | succ n ih =>
    intro σ
    show ZZ X G 1 (QM X G vzV wzV (0, 0)) (0, 0) (if w32 (σ 57 4) ≥ w32 (σ 57 0) then gX8_advance_L46 F σ else gd (0 ≤ w32 (σ 57 4) ∧ w32 (σ 57 4) < 160) (if w32 (σ 58 (w32 (σ 57 4))) ≠ 32 then gX8_advance_L46 F σ else gX8_advance_L8 F n (up σ 57 4 ((σ 57 4) + 1)))) (w0 σ) 8 [(0, vr G 57)] []
    refine z_aload_n C 0 rfl 0 rfl dX8_advance_8 9 rfl ?_
    refine y_getI C fX8_19 one_8 dX8_advance_9 12 rfl ?_
    refine z_aload_n C 0 rfl 0 rfl dX8_advance_12 13 rfl ?_
    refine y_getI C fX8_15 one_8 dX8_advance_13 16 rfl ?_
    refine z_icmp_ge C dX8_advance_16 46 (by decide) 19 rfl rfl rfl (fun _ => ?_) (fun _ => ?_)
    · exact pX8_advance_L46 C R hR F σ
    · refine z_aload_n C 0 rfl 0 rfl dX8_advance_19 20 rfl ?_
      refine y_getR C fX8_9 one_8 lay_8_3 dX8_advance_20 23 rfl ?_
      refine z_aload_n C 0 rfl 0 rfl dX8_advance_23 24 rfl ?_
      refine y_getI C fX8_19 one_8 dX8_advance_24 27 rfl ?_
      refine y_iald C lay_8_3.2 rfl dX8_advance_27 28 rfl rfl (fun _ => ?_)
      refine z_bipush C (by decide) dX8_advance_28 30 rfl ?_
      refine z_icmp_ne C dX8_advance_30 46 (by decide) 33 rfl rfl (w32_id (a := 32) (by decide)) (fun _ => ?_) (fun _ => ?_)
      · exact pX8_advance_L46 C R hR F σ
      · refine z_aload_n C 0 rfl 0 rfl dX8_advance_33 34 rfl ?_
        refine z_dup C rfl dX8_advance_34 35 rfl ?_
        refine y_getI C fX8_19 one_8 dX8_advance_35 38 rfl ?_
        refine z_iconst C dX8_advance_38 39 rfl ?_
        refine z_iadd C dX8_advance_39 40 rfl ?_
        refine y_putI C fX8_19 one_8 ⟨rfl, rfl⟩ dX8_advance_40 43 rfl ?_
        refine z_goto C dX8_advance_43 8 (by decide) ?_
        exact ih (up σ 57 4 ((σ 57 4) + 1))
set_option maxRecDepth 100000 in
set_option maxHeartbeats 4000000 in
theorem tX8_advance (l : Launch) (G : GG) (F : Nat) (σ : St) : Ctr l G yX8_advance cX8_advance 1 none rmX8_advance [vr G 57] (w0 σ) vzV wzV (gX8_advance F σ) := by
  refine ctr_of (by decide) (Nat.le_of_ble_eq_true rfl) mwX8_advance.1 (fun X hl hR C R hnm => ?_)
  subst hl
  refine z_lv (lv' := [(0, vr G 57)]) [0] rfl ?_
  show ZZ X G 1 (QM X G vzV wzV (0, 0)) (0, 0) (if w32 (σ 57 1) = 0 then gX8_advance_L8 F F σ else some σ) (w0 σ) 0 [(0, vr G 57)] []
  refine z_aload_n C 0 rfl 0 rfl dX8_advance_0 1 rfl ?_
  refine y_getI C fX8_22 one_8 dX8_advance_1 4 rfl ?_
  refine z_if_eq C dX8_advance_4 8 (by decide) 7 rfl rfl (fun _ => ?_) (fun _ => ?_)
  · exact pX8_advance_L8 C R hR F F σ
  · exact z_vret C R rfl rfl dX8_advance_7
-- expect
def gX8_expect (F : Nat) (σ : St) (x1 : Int) : Option (St) := if w32 (σ 57 5) ≠ w32 x1 then (gX8_fail σ 2).bind fun r1 => some r1 else (gX8_advance F σ).bind fun r2 => some r2
def rmX8_expect : Room := { frames := 11, cells := 0, slots := 0, locals := 465 }
set_option maxRecDepth 100000 in
set_option maxHeartbeats 4000000 in
theorem tX8_expect (l : Launch) (G : GG) (F : Nat) (σ : St) (x1 : Int) : Ctr l G yX8_expect cX8_expect 2 none rmX8_expect [vr G 57, vi x1] (w0 σ) vzV wzV (gX8_expect F σ x1) := by
  refine ctr_of (by decide) (Nat.le_of_ble_eq_true rfl) mwX8_expect.1 (fun X hl hR C R hnm => ?_)
  subst hl
  refine z_lv (lv' := [(0, vr G 57), (1, vi x1)]) [0, 1] rfl ?_
  show ZZ X G 2 (QM X G vzV wzV (0, 0)) (0, 0) (if w32 (σ 57 5) ≠ w32 x1 then (gX8_fail σ 2).bind fun r1 => some r1 else (gX8_advance F σ).bind fun r2 => some r2) (w0 σ) 0 [(0, vr G 57), (1, vi x1)] []
  refine z_aload_n C 0 rfl 0 rfl dX8_expect_0 1 rfl ?_
  refine y_getI C fX8_44 one_8 dX8_expect_1 4 rfl ?_
  refine z_iload_n C 1 rfl 1 rfl dX8_expect_4 5 rfl ?_
  refine z_icmp_ne C dX8_expect_5 15 (by decide) 8 rfl rfl rfl (fun _ => ?_) (fun _ => ?_)
  · refine z_aload_n C 0 rfl 0 rfl dX8_expect_15 16 rfl ?_
    refine z_iconst C dX8_expect_16 17 rfl ?_
    refine y_callVv C hR (tX8_fail (mL X) G σ 2) ⟨mwX8_fail, mvX8_fail, lkX8_54⟩ one_8 rfl rfl (Nat.le_of_ble_eq_true rfl) (by unfold rmOK; decide) dX8_expect_17 20 rfl (fun r1 _ => ?_)
    exact z_vret C R rfl rfl dX8_expect_20
  · refine z_aload_n C 0 rfl 0 rfl dX8_expect_8 9 rfl ?_
    refine y_callVv C hR (tX8_advance (mL X) G F σ) ⟨mwX8_advance, mvX8_advance, lkX8_33⟩ one_8 rfl rfl (Nat.le_of_ble_eq_true rfl) (by unfold rmOK; decide) dX8_expect_9 12 rfl (fun r2 _ => ?_)
    refine z_goto C dX8_expect_12 20 (by decide) ?_
    exact z_vret C R rfl rfl dX8_expect_20
-- isKey
def gX8_isKey (σ : St) (x0 : Int) : Option (Int) := if w32 x0 < 0 then some 0 else if w32 x0 ≥ 6 then some 0 else some 1
def rmX8_isKey : Room := { frames := 0, cells := 0, slots := 0, locals := 0 }
set_option maxRecDepth 100000 in
set_option maxHeartbeats 4000000 in
theorem tX8_isKey (l : Launch) (G : GG) (σ : St) (x0 : Int) : Ctr l G yX8_isKey cX8_isKey 1 (some .boolean) rmX8_isKey [vi x0] (w0 σ) vzI (wzR σ) (gX8_isKey σ x0) := by
  refine ctr_of (by decide) (Nat.le_of_ble_eq_true rfl) mwX8_isKey.1 (fun X hl hR C R hnm => ?_)
  subst hl
  refine z_lv (lv' := [(0, vi x0)]) [0] rfl ?_
  show ZZ X G 1 (QM X G vzI (wzR σ) (0, 0)) (0, 0) (if w32 x0 < 0 then some 0 else if w32 x0 ≥ 6 then some 0 else some 1) (w0 σ) 0 [(0, vi x0)] []
  refine z_iload_n C 0 rfl 0 rfl dX8_isKey_0 1 rfl ?_
  refine z_if_lt C dX8_isKey_1 14 (by decide) 4 rfl rfl (fun _ => ?_) (fun _ => ?_)
  · refine z_iconst C dX8_isKey_14 15 rfl ?_
    exact z_zret C R nz0 rfl rfl dX8_isKey_15
  · refine z_iload_n C 0 rfl 0 rfl dX8_isKey_4 5 rfl ?_
    refine z_bipush C (by decide) dX8_isKey_5 7 rfl ?_
    refine z_icmp_ge C dX8_isKey_7 14 (by decide) 10 rfl rfl (w32_id (a := 6) (by decide)) (fun _ => ?_) (fun _ => ?_)
    · refine z_iconst C dX8_isKey_14 15 rfl ?_
      exact z_zret C R nz0 rfl rfl dX8_isKey_15
    · refine z_iconst C dX8_isKey_10 11 rfl ?_
      refine z_goto C dX8_isKey_11 15 (by decide) ?_
      exact z_zret C R nz1 rfl rfl dX8_isKey_15
-- readKey
def gX8_readKey_L27 (F : Nat) (x1 : Int) (x2 : Int) (s1 : Int) (σ : St) : Option (St) := (gX8_expect F σ s1).bind fun r1 => (gX8_isKey r1 (r1 57 5)).bind fun r2 => if w32 r2 ≠ 0 then (gX5_hasKey F r1 x1 (r1 57 5)).bind fun r3 => if w32 r3 = 0 then (gX5_addKey r1 x1 (r1 57 5) x2).bind fun r4 => (gX8_advance F r4).bind fun r5 => some r5 else (gX8_fail r1 3).bind fun r6 => some r6 else (gX8_fail r1 2).bind fun r7 => some r7
def gX8_readKey_L14 (F : Nat) (x1 : Int) (s0 : Int) (σ : St) : Option (St) := if w32 s0 = 0 then gX8_readKey_L27 F x1 s0 10 σ else gX8_readKey_L27 F x1 s0 11 σ
def gX8_readKey (F : Nat) (σ : St) (x1 : Int) : Option (St) := if w32 (σ 57 5) ≠ 11 then gX8_readKey_L14 F x1 0 σ else gX8_readKey_L14 F x1 1 σ
def rmX8_readKey : Room := { frames := 12, cells := 0, slots := 0, locals := 486 }
set_option maxRecDepth 100000 in
set_option maxHeartbeats 4000000 in
theorem pX8_readKey_L27 {X : MX} {G : GG} (C : CX X G 4 cX8_readKey RX8) (R : RT X none) (hR : mR X = rmX8_readKey) (F : Nat) (x1 : Int) (h1 : isK x1 (0, 5))  : ∀ (x2 : Int) (s1 : Int) (σ : St), ZZ X G 4 (QM X G vzV wzV (0, 0)) (0, 0) (gX8_readKey_L27 F x1 x2 s1 σ) (w0 σ) 27 [(0, vr G 57), (1, vr G x1), (2, vi x2)] [vi s1, vr G 57] := by
  intro x2 s1 σ
  show ZZ X G 4 (QM X G vzV wzV (0, 0)) (0, 0) ((gX8_expect F σ s1).bind fun r1 => (gX8_isKey r1 (r1 57 5)).bind fun r2 => if w32 r2 ≠ 0 then (gX5_hasKey F r1 x1 (r1 57 5)).bind fun r3 => if w32 r3 = 0 then (gX5_addKey r1 x1 (r1 57 5) x2).bind fun r4 => (gX8_advance F r4).bind fun r5 => some r5 else (gX8_fail r1 3).bind fun r6 => some r6 else (gX8_fail r1 2).bind fun r7 => some r7) (w0 σ) 27 [(0, vr G 57), (1, vr G x1), (2, vi x2)] [vi s1, vr G 57]
  refine y_callVv C hR (tX8_expect (mL X) G F σ s1) ⟨mwX8_expect, mvX8_expect, lkX8_36⟩ one_8 rfl rfl (Nat.le_of_ble_eq_true rfl) (by unfold rmOK; decide) dX8_readKey_27 30 rfl (fun r1 _ => ?_)
  refine z_aload_n C 0 rfl 0 rfl dX8_readKey_30 31 rfl ?_
  refine y_getI C fX8_44 one_8 dX8_readKey_31 34 rfl ?_
  refine z_istore_n (lv' := [(3, vi (r1 57 5)), (0, vr G 57), (1, vr G x1), (2, vi x2)]) C 3 rfl (by decide) dX8_readKey_34 35 rfl rfl ?_
  refine z_iload_n C 3 rfl 0 rfl dX8_readKey_35 36 rfl ?_
  refine y_callSI C hR (tX8_isKey (mL X) G r1 (r1 57 5)) ⟨mwX8_isKey, msX8_isKey, lkX8_57⟩ rfl rfl (Nat.le_of_ble_eq_true rfl) (by unfold rmOK; decide) dX8_readKey_36 39 rfl (fun r2 _ => ?_)
  refine z_if_ne C dX8_readKey_39 50 (by decide) 42 rfl rfl (fun _ => ?_) (fun _ => ?_)
  · refine z_aload_n C 1 rfl 2 rfl dX8_readKey_50 51 rfl ?_
    refine z_iload_n C 3 rfl 0 rfl dX8_readKey_51 52 rfl ?_
    refine y_callVI C hR (tX5_hasKey (mL X) G F r1 x1 (r1 57 5) h1) ⟨mwX5_hasKey, mvX5_hasKey, lkX8_61⟩ h1 rfl rfl (Nat.le_of_ble_eq_true rfl) (by unfold rmOK; decide) dX8_readKey_52 55 rfl (fun r3 _ => ?_)
    refine z_if_eq C dX8_readKey_55 66 (by decide) 58 rfl rfl (fun _ => ?_) (fun _ => ?_)
    · refine z_aload_n C 1 rfl 2 rfl dX8_readKey_66 67 rfl ?_
      refine z_iload_n C 3 rfl 0 rfl dX8_readKey_67 68 rfl ?_
      refine z_iload_n C 2 rfl 3 rfl dX8_readKey_68 69 rfl ?_
      refine y_callVv C hR (tX5_addKey (mL X) G r1 x1 (r1 57 5) x2 h1) ⟨mwX5_addKey, mvX5_addKey, lkX8_64⟩ h1 rfl rfl (Nat.le_of_ble_eq_true rfl) (by unfold rmOK; decide) dX8_readKey_69 72 rfl (fun r4 _ => ?_)
      refine z_aload_n C 0 rfl 1 rfl dX8_readKey_72 73 rfl ?_
      refine y_callVv C hR (tX8_advance (mL X) G F r4) ⟨mwX8_advance, mvX8_advance, lkX8_33⟩ one_8 rfl rfl (Nat.le_of_ble_eq_true rfl) (by unfold rmOK; decide) dX8_readKey_73 76 rfl (fun r5 _ => ?_)
      exact z_vret C R rfl rfl dX8_readKey_76
    · refine z_aload_n C 0 rfl 1 rfl dX8_readKey_58 59 rfl ?_
      refine z_iconst C dX8_readKey_59 60 rfl ?_
      refine y_callVv C hR (tX8_fail (mL X) G r1 3) ⟨mwX8_fail, mvX8_fail, lkX8_54⟩ one_8 rfl rfl (Nat.le_of_ble_eq_true rfl) (by unfold rmOK; decide) dX8_readKey_60 63 rfl (fun r6 _ => ?_)
      refine z_goto C dX8_readKey_63 76 (by decide) ?_
      exact z_vret C R rfl rfl dX8_readKey_76
  · refine z_aload_n C 0 rfl 1 rfl dX8_readKey_42 43 rfl ?_
    refine z_iconst C dX8_readKey_43 44 rfl ?_
    refine y_callVv C hR (tX8_fail (mL X) G r1 2) ⟨mwX8_fail, mvX8_fail, lkX8_54⟩ one_8 rfl rfl (Nat.le_of_ble_eq_true rfl) (by unfold rmOK; decide) dX8_readKey_44 47 rfl (fun r7 _ => ?_)
    refine z_goto C dX8_readKey_47 76 (by decide) ?_
    exact z_vret C R rfl rfl dX8_readKey_76
set_option maxRecDepth 100000 in
set_option maxHeartbeats 4000000 in
theorem pX8_readKey_L14 {X : MX} {G : GG} (C : CX X G 4 cX8_readKey RX8) (R : RT X none) (hR : mR X = rmX8_readKey) (F : Nat) (x1 : Int) (h1 : isK x1 (0, 5))  : ∀ (s0 : Int) (σ : St), ZZ X G 4 (QM X G vzV wzV (0, 0)) (0, 0) (gX8_readKey_L14 F x1 s0 σ) (w0 σ) 14 [(0, vr G 57), (1, vr G x1)] [vi s0] := by
  intro s0 σ
  show ZZ X G 4 (QM X G vzV wzV (0, 0)) (0, 0) (if w32 s0 = 0 then gX8_readKey_L27 F x1 s0 10 σ else gX8_readKey_L27 F x1 s0 11 σ) (w0 σ) 14 [(0, vr G 57), (1, vr G x1)] [vi s0]
  refine z_istore_n (lv' := [(2, vi s0), (0, vr G 57), (1, vr G x1)]) C 2 rfl (by decide) dX8_readKey_14 15 rfl rfl ?_
  refine z_aload_n C 0 rfl 1 rfl dX8_readKey_15 16 rfl ?_
  refine z_iload_n C 2 rfl 0 rfl dX8_readKey_16 17 rfl ?_
  refine z_if_eq C dX8_readKey_17 25 (by decide) 20 rfl rfl (fun _ => ?_) (fun _ => ?_)
  · refine z_bipush C (by decide) dX8_readKey_25 27 rfl ?_
    refine z_lv (lv' := [(0, vr G 57), (1, vr G x1), (2, vi s0)]) [1, 2, 0] rfl ?_
    exact pX8_readKey_L27 C R hR F x1 h1 s0 10 σ
  · refine z_bipush C (by decide) dX8_readKey_20 22 rfl ?_
    refine z_goto C dX8_readKey_22 27 (by decide) ?_
    refine z_lv (lv' := [(0, vr G 57), (1, vr G x1), (2, vi s0)]) [1, 2, 0] rfl ?_
    exact pX8_readKey_L27 C R hR F x1 h1 s0 11 σ
set_option maxRecDepth 100000 in
set_option maxHeartbeats 4000000 in
theorem tX8_readKey (l : Launch) (G : GG) (F : Nat) (σ : St) (x1 : Int) (h1 : isK x1 (0, 5)) : Ctr l G yX8_readKey cX8_readKey 4 none rmX8_readKey [vr G 57, vr G x1] (w0 σ) vzV wzV (gX8_readKey F σ x1) := by
  refine ctr_of (by decide) (Nat.le_of_ble_eq_true rfl) mwX8_readKey.1 (fun X hl hR C R hnm => ?_)
  subst hl
  refine z_lv (lv' := [(0, vr G 57), (1, vr G x1)]) [0, 1] rfl ?_
  show ZZ X G 4 (QM X G vzV wzV (0, 0)) (0, 0) (if w32 (σ 57 5) ≠ 11 then gX8_readKey_L14 F x1 0 σ else gX8_readKey_L14 F x1 1 σ) (w0 σ) 0 [(0, vr G 57), (1, vr G x1)] []
  refine z_aload_n C 0 rfl 0 rfl dX8_readKey_0 1 rfl ?_
  refine y_getI C fX8_44 one_8 dX8_readKey_1 4 rfl ?_
  refine z_bipush C (by decide) dX8_readKey_4 6 rfl ?_
  refine z_icmp_ne C dX8_readKey_6 13 (by decide) 9 rfl rfl (w32_id (a := 11) (by decide)) (fun _ => ?_) (fun _ => ?_)
  · refine z_iconst C dX8_readKey_13 14 rfl ?_
    exact pX8_readKey_L14 C R hR F x1 h1 0 σ
  · refine z_iconst C dX8_readKey_9 10 rfl ?_
    refine z_goto C dX8_readKey_10 14 (by decide) ?_
    exact pX8_readKey_L14 C R hR F x1 h1 1 σ
-- readTest
def gX8_readTest_L67 (F : Nat) (x1 : Int) (x2 : Int) (x3 : Int) (s1 : Int) (σ : St) : Option (St) := (gX8_expect F σ s1).bind fun r1 => (gX8_expect F r1 16).bind fun r2 => (gX5_addTest r2 x1 x2 x3 (r1 57 7)).bind fun r3 => some r3
def gX8_readTest_L54 (F : Nat) (x1 : Int) (x2 : Int) (s0 : Int) (σ : St) : Option (St) := if w32 s0 = 0 then gX8_readTest_L67 F x1 x2 s0 14 σ else gX8_readTest_L67 F x1 x2 s0 13 σ
def gX8_readTest_L40 (F : Nat) (x1 : Int) (x2 : Int) (σ : St) : Option (St) := if w32 (σ 57 5) ≠ 13 then gX8_readTest_L54 F x1 x2 0 σ else gX8_readTest_L54 F x1 x2 1 σ
def gX8_readTest (F : Nat) (σ : St) (x1 : Int) : Option (St) := (gX8_isKey σ (σ 57 5)).bind fun r1 => if w32 r1 ≠ 0 then if w32 (σ x1 9) < 4 then (gX8_advance F σ).bind fun r2 => gX8_readTest_L40 F x1 (σ 57 5) r2 else (gX8_fail σ 4).bind fun r3 => gX8_readTest_L40 F x1 (σ 57 5) r3 else (gX8_fail σ 2).bind fun r4 => gX8_readTest_L40 F x1 (σ 57 5) r4
def rmX8_readTest : Room := { frames := 12, cells := 0, slots := 0, locals := 486 }
set_option maxRecDepth 100000 in
set_option maxHeartbeats 4000000 in
theorem pX8_readTest_L67 {X : MX} {G : GG} (C : CX X G 5 cX8_readTest RX8) (R : RT X none) (hR : mR X = rmX8_readTest) (F : Nat) (x1 : Int) (h1 : isK x1 (0, 5))  : ∀ (x2 : Int) (x3 : Int) (s1 : Int) (σ : St), ZZ X G 5 (QM X G vzV wzV (0, 0)) (0, 0) (gX8_readTest_L67 F x1 x2 x3 s1 σ) (w0 σ) 67 [(0, vr G 57), (1, vr G x1), (2, vi x2), (3, vi x3)] [vi s1, vr G 57] := by
  intro x2 x3 s1 σ
  show ZZ X G 5 (QM X G vzV wzV (0, 0)) (0, 0) ((gX8_expect F σ s1).bind fun r1 => (gX8_expect F r1 16).bind fun r2 => (gX5_addTest r2 x1 x2 x3 (r1 57 7)).bind fun r3 => some r3) (w0 σ) 67 [(0, vr G 57), (1, vr G x1), (2, vi x2), (3, vi x3)] [vi s1, vr G 57]
  refine y_callVv C hR (tX8_expect (mL X) G F σ s1) ⟨mwX8_expect, mvX8_expect, lkX8_36⟩ one_8 rfl rfl (Nat.le_of_ble_eq_true rfl) (by unfold rmOK; decide) dX8_readTest_67 70 rfl (fun r1 _ => ?_)
  refine z_aload_n C 0 rfl 0 rfl dX8_readTest_70 71 rfl ?_
  refine y_getI C fX8_71 one_8 dX8_readTest_71 74 rfl ?_
  refine z_istore (lv' := [(4, vi (r1 57 7)), (0, vr G 57), (1, vr G x1), (2, vi x2), (3, vi x3)]) C (by decide) dX8_readTest_74 76 rfl rfl ?_
  refine z_aload_n C 0 rfl 1 rfl dX8_readTest_76 77 rfl ?_
  refine z_bipush C (by decide) dX8_readTest_77 79 rfl ?_
  refine y_callVv C hR (tX8_expect (mL X) G F r1 16) ⟨mwX8_expect, mvX8_expect, lkX8_36⟩ one_8 rfl rfl (Nat.le_of_ble_eq_true rfl) (by unfold rmOK; decide) dX8_readTest_79 82 rfl (fun r2 _ => ?_)
  refine z_aload_n C 1 rfl 2 rfl dX8_readTest_82 83 rfl ?_
  refine z_iload_n C 2 rfl 3 rfl dX8_readTest_83 84 rfl ?_
  refine z_iload_n C 3 rfl 4 rfl dX8_readTest_84 85 rfl ?_
  refine z_iload C 0 rfl dX8_readTest_85 87 rfl ?_
  refine y_callVv C hR (tX5_addTest (mL X) G r2 x1 x2 x3 (r1 57 7) h1) ⟨mwX5_addTest, mvX5_addTest, lkX8_74⟩ h1 rfl rfl (Nat.le_of_ble_eq_true rfl) (by unfold rmOK; decide) dX8_readTest_87 90 rfl (fun r3 _ => ?_)
  exact z_vret C R rfl rfl dX8_readTest_90
set_option maxRecDepth 100000 in
set_option maxHeartbeats 4000000 in
theorem pX8_readTest_L54 {X : MX} {G : GG} (C : CX X G 5 cX8_readTest RX8) (R : RT X none) (hR : mR X = rmX8_readTest) (F : Nat) (x1 : Int) (h1 : isK x1 (0, 5))  : ∀ (x2 : Int) (s0 : Int) (σ : St), ZZ X G 5 (QM X G vzV wzV (0, 0)) (0, 0) (gX8_readTest_L54 F x1 x2 s0 σ) (w0 σ) 54 [(0, vr G 57), (1, vr G x1), (2, vi x2)] [vi s0] := by
  intro x2 s0 σ
  show ZZ X G 5 (QM X G vzV wzV (0, 0)) (0, 0) (if w32 s0 = 0 then gX8_readTest_L67 F x1 x2 s0 14 σ else gX8_readTest_L67 F x1 x2 s0 13 σ) (w0 σ) 54 [(0, vr G 57), (1, vr G x1), (2, vi x2)] [vi s0]
  refine z_istore_n (lv' := [(3, vi s0), (0, vr G 57), (1, vr G x1), (2, vi x2)]) C 3 rfl (by decide) dX8_readTest_54 55 rfl rfl ?_
  refine z_aload_n C 0 rfl 1 rfl dX8_readTest_55 56 rfl ?_
  refine z_iload_n C 3 rfl 0 rfl dX8_readTest_56 57 rfl ?_
  refine z_if_eq C dX8_readTest_57 65 (by decide) 60 rfl rfl (fun _ => ?_) (fun _ => ?_)
  · refine z_bipush C (by decide) dX8_readTest_65 67 rfl ?_
    refine z_lv (lv' := [(0, vr G 57), (1, vr G x1), (2, vi x2), (3, vi s0)]) [1, 2, 3, 0] rfl ?_
    exact pX8_readTest_L67 C R hR F x1 h1 x2 s0 14 σ
  · refine z_bipush C (by decide) dX8_readTest_60 62 rfl ?_
    refine z_goto C dX8_readTest_62 67 (by decide) ?_
    refine z_lv (lv' := [(0, vr G 57), (1, vr G x1), (2, vi x2), (3, vi s0)]) [1, 2, 3, 0] rfl ?_
    exact pX8_readTest_L67 C R hR F x1 h1 x2 s0 13 σ
set_option maxRecDepth 100000 in
set_option maxHeartbeats 4000000 in
theorem pX8_readTest_L40 {X : MX} {G : GG} (C : CX X G 5 cX8_readTest RX8) (R : RT X none) (hR : mR X = rmX8_readTest) (F : Nat) (x1 : Int) (h1 : isK x1 (0, 5))  : ∀ (x2 : Int) (σ : St), ZZ X G 5 (QM X G vzV wzV (0, 0)) (0, 0) (gX8_readTest_L40 F x1 x2 σ) (w0 σ) 40 [(0, vr G 57), (1, vr G x1), (2, vi x2)] [] := by
  intro x2 σ
  show ZZ X G 5 (QM X G vzV wzV (0, 0)) (0, 0) (if w32 (σ 57 5) ≠ 13 then gX8_readTest_L54 F x1 x2 0 σ else gX8_readTest_L54 F x1 x2 1 σ) (w0 σ) 40 [(0, vr G 57), (1, vr G x1), (2, vi x2)] []
  refine z_aload_n C 0 rfl 0 rfl dX8_readTest_40 41 rfl ?_
  refine y_getI C fX8_44 one_8 dX8_readTest_41 44 rfl ?_
  refine z_bipush C (by decide) dX8_readTest_44 46 rfl ?_
  refine z_icmp_ne C dX8_readTest_46 53 (by decide) 49 rfl rfl (w32_id (a := 13) (by decide)) (fun _ => ?_) (fun _ => ?_)
  · refine z_iconst C dX8_readTest_53 54 rfl ?_
    exact pX8_readTest_L54 C R hR F x1 h1 x2 0 σ
  · refine z_iconst C dX8_readTest_49 50 rfl ?_
    refine z_goto C dX8_readTest_50 54 (by decide) ?_
    exact pX8_readTest_L54 C R hR F x1 h1 x2 1 σ
set_option maxRecDepth 100000 in
set_option maxHeartbeats 4000000 in
theorem tX8_readTest (l : Launch) (G : GG) (F : Nat) (σ : St) (x1 : Int) (h1 : isK x1 (0, 5)) : Ctr l G yX8_readTest cX8_readTest 5 none rmX8_readTest [vr G 57, vr G x1] (w0 σ) vzV wzV (gX8_readTest F σ x1) := by
  refine ctr_of (by decide) (Nat.le_of_ble_eq_true rfl) mwX8_readTest.1 (fun X hl hR C R hnm => ?_)
  subst hl
  refine z_lv (lv' := [(0, vr G 57), (1, vr G x1)]) [0, 1] rfl ?_
  show ZZ X G 5 (QM X G vzV wzV (0, 0)) (0, 0) ((gX8_isKey σ (σ 57 5)).bind fun r1 => if w32 r1 ≠ 0 then if w32 (σ x1 9) < 4 then (gX8_advance F σ).bind fun r2 => gX8_readTest_L40 F x1 (σ 57 5) r2 else (gX8_fail σ 4).bind fun r3 => gX8_readTest_L40 F x1 (σ 57 5) r3 else (gX8_fail σ 2).bind fun r4 => gX8_readTest_L40 F x1 (σ 57 5) r4) (w0 σ) 0 [(0, vr G 57), (1, vr G x1)] []
  refine z_aload_n C 0 rfl 0 rfl dX8_readTest_0 1 rfl ?_
  refine y_getI C fX8_44 one_8 dX8_readTest_1 4 rfl ?_
  refine z_istore_n (lv' := [(2, vi (σ 57 5)), (0, vr G 57), (1, vr G x1)]) C 2 rfl (by decide) dX8_readTest_4 5 rfl rfl ?_
  refine z_iload_n C 2 rfl 0 rfl dX8_readTest_5 6 rfl ?_
  refine y_callSI C hR (tX8_isKey (mL X) G σ (σ 57 5)) ⟨mwX8_isKey, msX8_isKey, lkX8_57⟩ rfl rfl (Nat.le_of_ble_eq_true rfl) (by unfold rmOK; decide) dX8_readTest_6 9 rfl (fun r1 _ => ?_)
  refine z_if_ne C dX8_readTest_9 20 (by decide) 12 rfl rfl (fun _ => ?_) (fun _ => ?_)
  · refine z_aload_n C 1 rfl 2 rfl dX8_readTest_20 21 rfl ?_
    refine y_getI C fX8_68 h1 dX8_readTest_21 24 rfl ?_
    refine z_iconst C dX8_readTest_24 25 rfl ?_
    refine z_icmp_lt C dX8_readTest_25 36 (by decide) 28 rfl rfl (w32_id (a := 4) (by decide)) (fun _ => ?_) (fun _ => ?_)
    · refine z_aload_n C 0 rfl 1 rfl dX8_readTest_36 37 rfl ?_
      refine y_callVv C hR (tX8_advance (mL X) G F σ) ⟨mwX8_advance, mvX8_advance, lkX8_33⟩ one_8 rfl rfl (Nat.le_of_ble_eq_true rfl) (by unfold rmOK; decide) dX8_readTest_37 40 rfl (fun r2 _ => ?_)
      refine z_lv (lv' := [(0, vr G 57), (1, vr G x1), (2, vi (σ 57 5))]) [1, 2, 0] rfl ?_
      exact pX8_readTest_L40 C R hR F x1 h1 (σ 57 5) r2
    · refine z_aload_n C 0 rfl 1 rfl dX8_readTest_28 29 rfl ?_
      refine z_iconst C dX8_readTest_29 30 rfl ?_
      refine y_callVv C hR (tX8_fail (mL X) G σ 4) ⟨mwX8_fail, mvX8_fail, lkX8_54⟩ one_8 rfl rfl (Nat.le_of_ble_eq_true rfl) (by unfold rmOK; decide) dX8_readTest_30 33 rfl (fun r3 _ => ?_)
      refine z_goto C dX8_readTest_33 40 (by decide) ?_
      refine z_lv (lv' := [(0, vr G 57), (1, vr G x1), (2, vi (σ 57 5))]) [1, 2, 0] rfl ?_
      exact pX8_readTest_L40 C R hR F x1 h1 (σ 57 5) r3
  · refine z_aload_n C 0 rfl 1 rfl dX8_readTest_12 13 rfl ?_
    refine z_iconst C dX8_readTest_13 14 rfl ?_
    refine y_callVv C hR (tX8_fail (mL X) G σ 2) ⟨mwX8_fail, mvX8_fail, lkX8_54⟩ one_8 rfl rfl (Nat.le_of_ble_eq_true rfl) (by unfold rmOK; decide) dX8_readTest_14 17 rfl (fun r4 _ => ?_)
    refine z_goto C dX8_readTest_17 40 (by decide) ?_
    refine z_lv (lv' := [(0, vr G 57), (1, vr G x1), (2, vi (σ 57 5))]) [1, 2, 0] rfl ?_
    exact pX8_readTest_L40 C R hR F x1 h1 (σ 57 5) r4
-- readInto
def gX8_readInto_L136 (F : Nat) (x1 : Int) (σ : St) : Option (St) := (gX8_expect F σ 15).bind fun r1 => if w32 (r1 57 5) = 17 then some r1 else (gX8_fail r1 5).bind fun r2 => some r2
def gX8_readInto_L118 (F : Nat) (x1 : Int) (σ : St) : Option (St) := if w32 (σ 57 5) ≠ 9 then gX8_readInto_L136 F x1 σ else (gX8_advance F (up σ x1 10 1)).bind fun r1 => gX8_readInto_L136 F x1 r1
def gX8_readInto_L87 (F : Nat) (x1 : Int) : Nat → Int → St → Option (St)
  | 0, _, _ => none
  | n + 1, x2, σ => if w32 (σ 57 5) ≠ 8 then gX8_readInto_L118 F x1 σ else if w32 x2 ≥ 160 then gX8_readInto_L118 F x1 σ else (gX8_advance F σ).bind fun r1 => (gX8_readTest F r1 x1).bind fun r2 => gX8_readInto_L87 F x1 n (x2 + 1) r2
def gX8_readInto_L67 (F : Nat) (x1 : Int) (σ : St) : Option (St) := if w32 (σ 57 5) ≠ 7 then gX8_readInto_L118 F x1 σ else (gX8_advance F σ).bind fun r1 => (gX8_readTest F r1 x1).bind fun r2 => gX8_readInto_L87 F x1 F 0 r2
def gX8_readInto_L36 (F : Nat) (x1 : Int) : Nat → Int → St → Option (St)
  | 0, _, _ => none
  | n + 1, x2, σ => if w32 (σ 57 5) ≠ 12 then gX8_readInto_L67 F x1 σ else if w32 x2 ≥ 160 then gX8_readInto_L67 F x1 σ else (gX8_advance F σ).bind fun r1 => (gX8_readKey F r1 x1).bind fun r2 => gX8_readInto_L36 F x1 n (x2 + 1) r2
def gX8_readInto (F : Nat) (σ : St) (x1 : Int) : Option (St) := (gX5_clear (up (up (up σ 57 4 0) 57 1 0) 57 2 0) x1).bind fun r1 => (gX8_advance F r1).bind fun r2 => (gX8_expect F r2 6).bind fun r3 => (gX8_readKey F r3 x1).bind fun r4 => gX8_readInto_L36 F x1 F 0 r4
def rmX8_readInto : Room := { frames := 13, cells := 0, slots := 0, locals := 510 }
set_option maxRecDepth 100000 in
set_option maxHeartbeats 4000000 in
theorem pX8_readInto_L136 {X : MX} {G : GG} (C : CX X G 3 cX8_readInto RX8) (R : RT X none) (hR : mR X = rmX8_readInto) (F : Nat) (x1 : Int) (h1 : isK x1 (0, 5))  : ∀ (σ : St), ZZ X G 3 (QM X G vzV wzV (0, 0)) (0, 0) (gX8_readInto_L136 F x1 σ) (w0 σ) 136 [(0, vr G 57)] [] := by
  intro σ
  show ZZ X G 3 (QM X G vzV wzV (0, 0)) (0, 0) ((gX8_expect F σ 15).bind fun r1 => if w32 (r1 57 5) = 17 then some r1 else (gX8_fail r1 5).bind fun r2 => some r2) (w0 σ) 136 [(0, vr G 57)] []
  refine z_aload_n C 0 rfl 0 rfl dX8_readInto_136 137 rfl ?_
  refine z_bipush C (by decide) dX8_readInto_137 139 rfl ?_
  refine y_callVv C hR (tX8_expect (mL X) G F σ 15) ⟨mwX8_expect, mvX8_expect, lkX8_36⟩ one_8 rfl rfl (Nat.le_of_ble_eq_true rfl) (by unfold rmOK; decide) dX8_readInto_139 142 rfl (fun r1 _ => ?_)
  refine z_aload_n C 0 rfl 0 rfl dX8_readInto_142 143 rfl ?_
  refine y_getI C fX8_44 one_8 dX8_readInto_143 146 rfl ?_
  refine z_bipush C (by decide) dX8_readInto_146 148 rfl ?_
  refine z_icmp_eq C dX8_readInto_148 156 (by decide) 151 rfl rfl (w32_id (a := 17) (by decide)) (fun _ => ?_) (fun _ => ?_)
  · exact z_vret C R rfl rfl dX8_readInto_156
  · refine z_aload_n C 0 rfl 0 rfl dX8_readInto_151 152 rfl ?_
    refine z_iconst C dX8_readInto_152 153 rfl ?_
    refine y_callVv C hR (tX8_fail (mL X) G r1 5) ⟨mwX8_fail, mvX8_fail, lkX8_54⟩ one_8 rfl rfl (Nat.le_of_ble_eq_true rfl) (by unfold rmOK; decide) dX8_readInto_153 156 rfl (fun r2 _ => ?_)
    exact z_vret C R rfl rfl dX8_readInto_156
set_option maxRecDepth 100000 in
set_option maxHeartbeats 4000000 in
theorem pX8_readInto_L118 {X : MX} {G : GG} (C : CX X G 3 cX8_readInto RX8) (R : RT X none) (hR : mR X = rmX8_readInto) (F : Nat) (x1 : Int) (h1 : isK x1 (0, 5))  : ∀ (σ : St), ZZ X G 3 (QM X G vzV wzV (0, 0)) (0, 0) (gX8_readInto_L118 F x1 σ) (w0 σ) 118 [(0, vr G 57), (1, vr G x1)] [] := by
  intro σ
  show ZZ X G 3 (QM X G vzV wzV (0, 0)) (0, 0) (if w32 (σ 57 5) ≠ 9 then gX8_readInto_L136 F x1 σ else (gX8_advance F (up σ x1 10 1)).bind fun r1 => gX8_readInto_L136 F x1 r1) (w0 σ) 118 [(0, vr G 57), (1, vr G x1)] []
  refine z_aload_n C 0 rfl 0 rfl dX8_readInto_118 119 rfl ?_
  refine y_getI C fX8_44 one_8 dX8_readInto_119 122 rfl ?_
  refine z_bipush C (by decide) dX8_readInto_122 124 rfl ?_
  refine z_icmp_ne C dX8_readInto_124 136 (by decide) 127 rfl rfl (w32_id (a := 9) (by decide)) (fun _ => ?_) (fun _ => ?_)
  · refine z_lv (lv' := [(0, vr G 57)]) [0] rfl ?_
    exact pX8_readInto_L136 C R hR F x1 h1 σ
  · refine z_aload_n C 1 rfl 1 rfl dX8_readInto_127 128 rfl ?_
    refine z_iconst C dX8_readInto_128 129 rfl ?_
    refine y_putZ C fX8_50 h1 ⟨nz1, fz1⟩ dX8_readInto_129 132 rfl ?_
    refine z_aload_n C 0 rfl 0 rfl dX8_readInto_132 133 rfl ?_
    refine y_callVv C hR (tX8_advance (mL X) G F (up σ x1 10 1)) ⟨mwX8_advance, mvX8_advance, lkX8_33⟩ one_8 rfl rfl (Nat.le_of_ble_eq_true rfl) (by unfold rmOK; decide) dX8_readInto_133 136 rfl (fun r1 _ => ?_)
    refine z_lv (lv' := [(0, vr G 57)]) [0] rfl ?_
    exact pX8_readInto_L136 C R hR F x1 h1 r1
set_option maxRecDepth 100000 in
set_option maxHeartbeats 4000000 in
theorem pX8_readInto_L87 {X : MX} {G : GG} (C : CX X G 3 cX8_readInto RX8) (R : RT X none) (hR : mR X = rmX8_readInto) (F : Nat) (x1 : Int) (h1 : isK x1 (0, 5))  : ∀ (n : Nat) (x2 : Int) (σ : St), ZZ X G 3 (QM X G vzV wzV (0, 0)) (0, 0) (gX8_readInto_L87 F x1 n x2 σ) (w0 σ) 87 [(0, vr G 57), (1, vr G x1), (2, vi x2)] [] := by
  intro n
  induction n with
  | zero =>
    intro _ _
    exact z_none
  | succ n ih =>
    intro x2 σ
    show ZZ X G 3 (QM X G vzV wzV (0, 0)) (0, 0) (if w32 (σ 57 5) ≠ 8 then gX8_readInto_L118 F x1 σ else if w32 x2 ≥ 160 then gX8_readInto_L118 F x1 σ else (gX8_advance F σ).bind fun r1 => (gX8_readTest F r1 x1).bind fun r2 => gX8_readInto_L87 F x1 n (x2 + 1) r2) (w0 σ) 87 [(0, vr G 57), (1, vr G x1), (2, vi x2)] []
    refine z_aload_n C 0 rfl 0 rfl dX8_readInto_87 88 rfl ?_
    refine y_getI C fX8_44 one_8 dX8_readInto_88 91 rfl ?_
    refine z_bipush C (by decide) dX8_readInto_91 93 rfl ?_
    refine z_icmp_ne C dX8_readInto_93 118 (by decide) 96 rfl rfl (w32_id (a := 8) (by decide)) (fun _ => ?_) (fun _ => ?_)
    · refine z_lv (lv' := [(0, vr G 57), (1, vr G x1)]) [0, 1] rfl ?_
      exact pX8_readInto_L118 C R hR F x1 h1 σ
    · refine z_iload_n C 2 rfl 2 rfl dX8_readInto_96 97 rfl ?_
      refine z_sipush C (by decide) dX8_readInto_97 100 rfl ?_
      refine z_icmp_ge C dX8_readInto_100 118 (by decide) 103 rfl rfl (w32_id (a := 160) (by decide)) (fun _ => ?_) (fun _ => ?_)
      · refine z_lv (lv' := [(0, vr G 57), (1, vr G x1)]) [0, 1] rfl ?_
        exact pX8_readInto_L118 C R hR F x1 h1 σ
      · refine z_aload_n C 0 rfl 0 rfl dX8_readInto_103 104 rfl ?_
        refine y_callVv C hR (tX8_advance (mL X) G F σ) ⟨mwX8_advance, mvX8_advance, lkX8_33⟩ one_8 rfl rfl (Nat.le_of_ble_eq_true rfl) (by unfold rmOK; decide) dX8_readInto_104 107 rfl (fun r1 _ => ?_)
        refine z_aload_n C 0 rfl 0 rfl dX8_readInto_107 108 rfl ?_
        refine z_aload_n C 1 rfl 1 rfl dX8_readInto_108 109 rfl ?_
        refine y_callVv C hR (tX8_readTest (mL X) G F r1 x1 h1) ⟨mwX8_readTest, mvX8_readTest, lkX8_47⟩ one_8 rfl rfl (Nat.le_of_ble_eq_true rfl) (by unfold rmOK; decide) dX8_readInto_109 112 rfl (fun r2 _ => ?_)
        refine z_iinc (lv' := [(2, vi (x2 + 1)), (0, vr G 57), (1, vr G x1)]) C (by decide) 2 rfl dX8_readInto_112 115 rfl rfl ?_
        refine z_goto C dX8_readInto_115 87 (by decide) ?_
        refine z_lv (lv' := [(0, vr G 57), (1, vr G x1), (2, vi (x2 + 1))]) [1, 2, 0] rfl ?_
        exact ih (x2 + 1) r2
set_option maxRecDepth 100000 in
set_option maxHeartbeats 4000000 in
theorem pX8_readInto_L67 {X : MX} {G : GG} (C : CX X G 3 cX8_readInto RX8) (R : RT X none) (hR : mR X = rmX8_readInto) (F : Nat) (x1 : Int) (h1 : isK x1 (0, 5))  : ∀ (σ : St), ZZ X G 3 (QM X G vzV wzV (0, 0)) (0, 0) (gX8_readInto_L67 F x1 σ) (w0 σ) 67 [(0, vr G 57), (1, vr G x1)] [] := by
  intro σ
  show ZZ X G 3 (QM X G vzV wzV (0, 0)) (0, 0) (if w32 (σ 57 5) ≠ 7 then gX8_readInto_L118 F x1 σ else (gX8_advance F σ).bind fun r1 => (gX8_readTest F r1 x1).bind fun r2 => gX8_readInto_L87 F x1 F 0 r2) (w0 σ) 67 [(0, vr G 57), (1, vr G x1)] []
  refine z_aload_n C 0 rfl 0 rfl dX8_readInto_67 68 rfl ?_
  refine y_getI C fX8_44 one_8 dX8_readInto_68 71 rfl ?_
  refine z_bipush C (by decide) dX8_readInto_71 73 rfl ?_
  refine z_icmp_ne C dX8_readInto_73 118 (by decide) 76 rfl rfl (w32_id (a := 7) (by decide)) (fun _ => ?_) (fun _ => ?_)
  · exact pX8_readInto_L118 C R hR F x1 h1 σ
  · refine z_aload_n C 0 rfl 0 rfl dX8_readInto_76 77 rfl ?_
    refine y_callVv C hR (tX8_advance (mL X) G F σ) ⟨mwX8_advance, mvX8_advance, lkX8_33⟩ one_8 rfl rfl (Nat.le_of_ble_eq_true rfl) (by unfold rmOK; decide) dX8_readInto_77 80 rfl (fun r1 _ => ?_)
    refine z_aload_n C 0 rfl 0 rfl dX8_readInto_80 81 rfl ?_
    refine z_aload_n C 1 rfl 1 rfl dX8_readInto_81 82 rfl ?_
    refine y_callVv C hR (tX8_readTest (mL X) G F r1 x1 h1) ⟨mwX8_readTest, mvX8_readTest, lkX8_47⟩ one_8 rfl rfl (Nat.le_of_ble_eq_true rfl) (by unfold rmOK; decide) dX8_readInto_82 85 rfl (fun r2 _ => ?_)
    refine z_iconst C dX8_readInto_85 86 rfl ?_
    refine z_istore_n (lv' := [(2, vi 0), (0, vr G 57), (1, vr G x1)]) C 2 rfl (by decide) dX8_readInto_86 87 rfl rfl ?_
    refine z_lv (lv' := [(0, vr G 57), (1, vr G x1), (2, vi 0)]) [1, 2, 0] rfl ?_
    exact pX8_readInto_L87 C R hR F x1 h1 F 0 r2
set_option maxRecDepth 100000 in
set_option maxHeartbeats 4000000 in
theorem pX8_readInto_L36 {X : MX} {G : GG} (C : CX X G 3 cX8_readInto RX8) (R : RT X none) (hR : mR X = rmX8_readInto) (F : Nat) (x1 : Int) (h1 : isK x1 (0, 5))  : ∀ (n : Nat) (x2 : Int) (σ : St), ZZ X G 3 (QM X G vzV wzV (0, 0)) (0, 0) (gX8_readInto_L36 F x1 n x2 σ) (w0 σ) 36 [(0, vr G 57), (1, vr G x1), (2, vi x2)] [] := by
  intro n
  induction n with
  | zero =>
    intro _ _
    exact z_none
  | succ n ih =>
    intro x2 σ
    show ZZ X G 3 (QM X G vzV wzV (0, 0)) (0, 0) (if w32 (σ 57 5) ≠ 12 then gX8_readInto_L67 F x1 σ else if w32 x2 ≥ 160 then gX8_readInto_L67 F x1 σ else (gX8_advance F σ).bind fun r1 => (gX8_readKey F r1 x1).bind fun r2 => gX8_readInto_L36 F x1 n (x2 + 1) r2) (w0 σ) 36 [(0, vr G 57), (1, vr G x1), (2, vi x2)] []
    refine z_aload_n C 0 rfl 0 rfl dX8_readInto_36 37 rfl ?_
    refine y_getI C fX8_44 one_8 dX8_readInto_37 40 rfl ?_
    refine z_bipush C (by decide) dX8_readInto_40 42 rfl ?_
    refine z_icmp_ne C dX8_readInto_42 67 (by decide) 45 rfl rfl (w32_id (a := 12) (by decide)) (fun _ => ?_) (fun _ => ?_)
    · refine z_lv (lv' := [(0, vr G 57), (1, vr G x1)]) [0, 1] rfl ?_
      exact pX8_readInto_L67 C R hR F x1 h1 σ
    · refine z_iload_n C 2 rfl 2 rfl dX8_readInto_45 46 rfl ?_
      refine z_sipush C (by decide) dX8_readInto_46 49 rfl ?_
      refine z_icmp_ge C dX8_readInto_49 67 (by decide) 52 rfl rfl (w32_id (a := 160) (by decide)) (fun _ => ?_) (fun _ => ?_)
      · refine z_lv (lv' := [(0, vr G 57), (1, vr G x1)]) [0, 1] rfl ?_
        exact pX8_readInto_L67 C R hR F x1 h1 σ
      · refine z_aload_n C 0 rfl 0 rfl dX8_readInto_52 53 rfl ?_
        refine y_callVv C hR (tX8_advance (mL X) G F σ) ⟨mwX8_advance, mvX8_advance, lkX8_33⟩ one_8 rfl rfl (Nat.le_of_ble_eq_true rfl) (by unfold rmOK; decide) dX8_readInto_53 56 rfl (fun r1 _ => ?_)
        refine z_aload_n C 0 rfl 0 rfl dX8_readInto_56 57 rfl ?_
        refine z_aload_n C 1 rfl 1 rfl dX8_readInto_57 58 rfl ?_
        refine y_callVv C hR (tX8_readKey (mL X) G F r1 x1 h1) ⟨mwX8_readKey, mvX8_readKey, lkX8_40⟩ one_8 rfl rfl (Nat.le_of_ble_eq_true rfl) (by unfold rmOK; decide) dX8_readInto_58 61 rfl (fun r2 _ => ?_)
        refine z_iinc (lv' := [(2, vi (x2 + 1)), (0, vr G 57), (1, vr G x1)]) C (by decide) 2 rfl dX8_readInto_61 64 rfl rfl ?_
        refine z_goto C dX8_readInto_64 36 (by decide) ?_
        refine z_lv (lv' := [(0, vr G 57), (1, vr G x1), (2, vi (x2 + 1))]) [1, 2, 0] rfl ?_
        exact ih (x2 + 1) r2
set_option maxRecDepth 100000 in
set_option maxHeartbeats 4000000 in
theorem tX8_readInto (l : Launch) (G : GG) (F : Nat) (σ : St) (x1 : Int) (h1 : isK x1 (0, 5)) : Ctr l G yX8_readInto cX8_readInto 3 none rmX8_readInto [vr G 57, vr G x1] (w0 σ) vzV wzV (gX8_readInto F σ x1) := by
  refine ctr_of (by decide) (Nat.le_of_ble_eq_true rfl) mwX8_readInto.1 (fun X hl hR C R hnm => ?_)
  subst hl
  refine z_lv (lv' := [(0, vr G 57), (1, vr G x1)]) [0, 1] rfl ?_
  show ZZ X G 3 (QM X G vzV wzV (0, 0)) (0, 0) ((gX5_clear (up (up (up σ 57 4 0) 57 1 0) 57 2 0) x1).bind fun r1 => (gX8_advance F r1).bind fun r2 => (gX8_expect F r2 6).bind fun r3 => (gX8_readKey F r3 x1).bind fun r4 => gX8_readInto_L36 F x1 F 0 r4) (w0 σ) 0 [(0, vr G 57), (1, vr G x1)] []
  refine z_aload_n C 0 rfl 0 rfl dX8_readInto_0 1 rfl ?_
  refine z_iconst C dX8_readInto_1 2 rfl ?_
  refine y_putI C fX8_19 one_8 ⟨rfl, rfl⟩ dX8_readInto_2 5 rfl ?_
  refine z_aload_n C 0 rfl 0 rfl dX8_readInto_5 6 rfl ?_
  refine z_iconst C dX8_readInto_6 7 rfl ?_
  refine y_putI C fX8_22 one_8 ⟨rfl, rfl⟩ dX8_readInto_7 10 rfl ?_
  refine z_aload_n C 0 rfl 0 rfl dX8_readInto_10 11 rfl ?_
  refine z_iconst C dX8_readInto_11 12 rfl ?_
  refine y_putI C fX8_25 one_8 ⟨rfl, rfl⟩ dX8_readInto_12 15 rfl ?_
  refine z_aload_n C 1 rfl 1 rfl dX8_readInto_15 16 rfl ?_
  refine y_callVv C hR (tX5_clear (mL X) G (up (up (up σ 57 4 0) 57 1 0) 57 2 0) x1 h1) ⟨mwX5_clear, mvX5_clear, lkX8_28⟩ h1 rfl rfl (Nat.le_of_ble_eq_true rfl) (by unfold rmOK; decide) dX8_readInto_16 19 rfl (fun r1 _ => ?_)
  refine z_aload_n C 0 rfl 0 rfl dX8_readInto_19 20 rfl ?_
  refine y_callVv C hR (tX8_advance (mL X) G F r1) ⟨mwX8_advance, mvX8_advance, lkX8_33⟩ one_8 rfl rfl (Nat.le_of_ble_eq_true rfl) (by unfold rmOK; decide) dX8_readInto_20 23 rfl (fun r2 _ => ?_)
  refine z_aload_n C 0 rfl 0 rfl dX8_readInto_23 24 rfl ?_
  refine z_bipush C (by decide) dX8_readInto_24 26 rfl ?_
  refine y_callVv C hR (tX8_expect (mL X) G F r2 6) ⟨mwX8_expect, mvX8_expect, lkX8_36⟩ one_8 rfl rfl (Nat.le_of_ble_eq_true rfl) (by unfold rmOK; decide) dX8_readInto_26 29 rfl (fun r3 _ => ?_)
  refine z_aload_n C 0 rfl 0 rfl dX8_readInto_29 30 rfl ?_
  refine z_aload_n C 1 rfl 1 rfl dX8_readInto_30 31 rfl ?_
  refine y_callVv C hR (tX8_readKey (mL X) G F r3 x1 h1) ⟨mwX8_readKey, mvX8_readKey, lkX8_40⟩ one_8 rfl rfl (Nat.le_of_ble_eq_true rfl) (by unfold rmOK; decide) dX8_readInto_31 34 rfl (fun r4 _ => ?_)
  refine z_iconst C dX8_readInto_34 35 rfl ?_
  refine z_istore_n (lv' := [(2, vi 0), (0, vr G 57), (1, vr G x1)]) C 2 rfl (by decide) dX8_readInto_35 36 rfl rfl ?_
  refine z_lv (lv' := [(0, vr G 57), (1, vr G x1), (2, vi 0)]) [1, 2, 0] rfl ?_
  exact pX8_readInto_L36 C R hR F x1 h1 F 0 r4
