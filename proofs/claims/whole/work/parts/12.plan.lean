-- greatestFrom
def gX3_greatestFrom_L92 (F : Nat) (σ : St) (x1 : Int) (x2 : Int) (x3 : Int) (c23 : Int → Int → Int → Option (Int)) (x4 : Int) (x5 : Int) (x6 : Int) : Option (Int) := c23 x4 x5 (x6 + 1)
def gX3_greatestFrom_L23 (F : Nat) (σ : St) (x1 : Int) (x2 : Int) (x3 : Int) : Nat → Int → Int → Int → Option (Int)
  | 0, _, _, _ => none
  | n + 1, x4, x5, x6 => if w32 x6 ≥ w32 (σ x1 5) then some x5 else gd (0 ≤ w32 ((x2 * 6) + x6) ∧ w32 ((x2 * 6) + x6) < 54) (if w32 (σ (x1 + 5) (w32 ((x2 * 6) + x6))) ≤ 0 then gX3_greatestFrom_L92 F σ x1 x2 x3 (gX3_greatestFrom_L23 F σ x1 x2 x3 n) x4 x5 x6 else (gX4_isOpen σ 45 x3 x6).bind fun r1 => if w32 r1 = 0 then gX3_greatestFrom_L92 F σ x1 x2 x3 (gX3_greatestFrom_L23 F σ x1 x2 x3 n) x4 x5 x6 else gd (0 ≤ w32 x6 ∧ w32 x6 < 6) (gd (0 ≤ w32 (x4 - (σ (45 + 1) (w32 x6))) ∧ w32 (x4 - (σ (45 + 1) (w32 x6))) < 4860) (gX3_greatestFrom_L92 F σ x1 x2 x3 (gX3_greatestFrom_L23 F σ x1 x2 x3 n) x4 (if w32 x5 < w32 ((σ (x1 + 5) (w32 ((x2 * 6) + x6))) + (σ 49 (w32 (x4 - (σ (45 + 1) (w32 x6)))))) then (σ (x1 + 5) (w32 ((x2 * 6) + x6))) + (σ 49 (w32 (x4 - (σ (45 + 1) (w32 x6))))) else x5) x6)))
def gX3_greatestFrom (F : Nat) (σ : St) (x1 : Int) (x2 : Int) (x3 : Int) : Option (Int) := gd (0 ≤ w32 (((x2 + 1) * 486) + x3) ∧ w32 (((x2 + 1) * 486) + x3) < 4860) (gX3_greatestFrom_L23 F σ x1 x2 x3 F (((x2 + 1) * 486) + x3) (σ 49 (w32 (((x2 + 1) * 486) + x3))) 0)
def rmX3_greatestFrom : Room := { frames := 1, cells := 0, slots := 0, locals := 23 }
set_option maxRecDepth 100000 in
set_option maxHeartbeats 4000000 in
theorem pX3_greatestFrom_L92 {X : MX} {G : GG} (C : CX X G 8 cX3_greatestFrom RX3) (R : RT X (some .int)) (hR : mR X = rmX3_greatestFrom) (F : Nat) (σ : St) (x1 : Int) (h1 : isK x1 (0, 0)) (x2 : Int) (x3 : Int) (c23 : Int → Int → Int → Option (Int)) (hc23 : ∀ (x4 : Int) (x5 : Int) (x6 : Int), ZZ X G 8 (QM X G vzI (wzR σ) (0, 0)) (0, 0) (c23 x4 x5 x6) (w0 σ) 23 [(0, vr G 43), (1, vr G x1), (2, vi x2), (3, vi x3), (4, vi x4), (5, vi x5), (6, vi x6)] []) : ∀ (x4 : Int) (x5 : Int) (x6 : Int), ZZ X G 8 (QM X G vzI (wzR σ) (0, 0)) (0, 0) (gX3_greatestFrom_L92 F σ x1 x2 x3 c23 x4 x5 x6) (w0 σ) 92 [(0, vr G 43), (1, vr G x1), (2, vi x2), (3, vi x3), (4, vi x4), (5, vi x5), (6, vi x6)] [] := by
  intro x4 x5 x6
  show ZZ X G 8 (QM X G vzI (wzR σ) (0, 0)) (0, 0) (c23 x4 x5 (x6 + 1)) (w0 σ) 92 [(0, vr G 43), (1, vr G x1), (2, vi x2), (3, vi x3), (4, vi x4), (5, vi x5), (6, vi x6)] []
  refine z_iinc (lv' := [(6, vi (x6 + 1)), (0, vr G 43), (1, vr G x1), (2, vi x2), (3, vi x3), (4, vi x4), (5, vi x5)]) C (by decide) 6 rfl dX3_greatestFrom_92 95 rfl rfl ?_
  refine z_goto C dX3_greatestFrom_95 23 (by decide) ?_
  refine z_lv (lv' := [(0, vr G 43), (1, vr G x1), (2, vi x2), (3, vi x3), (4, vi x4), (5, vi x5), (6, vi (x6 + 1))]) [1, 2, 3, 4, 5, 6, 0] rfl ?_
  exact hc23 x4 x5 (x6 + 1)
set_option maxRecDepth 100000 in
set_option maxHeartbeats 4000000 in
theorem pX3_greatestFrom_L23 {X : MX} {G : GG} (C : CX X G 8 cX3_greatestFrom RX3) (R : RT X (some .int)) (hR : mR X = rmX3_greatestFrom) (F : Nat) (σ : St) (x1 : Int) (h1 : isK x1 (0, 0)) (x2 : Int) (x3 : Int)  : ∀ (n : Nat) (x4 : Int) (x5 : Int) (x6 : Int), ZZ X G 8 (QM X G vzI (wzR σ) (0, 0)) (0, 0) (gX3_greatestFrom_L23 F σ x1 x2 x3 n x4 x5 x6) (w0 σ) 23 [(0, vr G 43), (1, vr G x1), (2, vi x2), (3, vi x3), (4, vi x4), (5, vi x5), (6, vi x6)] [] := by
  intro n
  induction n with
  | zero =>
    intro _ _ _
    exact z_none
  | succ n ih =>
    intro x4 x5 x6
    show ZZ X G 8 (QM X G vzI (wzR σ) (0, 0)) (0, 0) (if w32 x6 ≥ w32 (σ x1 5) then some x5 else gd (0 ≤ w32 ((x2 * 6) + x6) ∧ w32 ((x2 * 6) + x6) < 54) (if w32 (σ (x1 + 5) (w32 ((x2 * 6) + x6))) ≤ 0 then gX3_greatestFrom_L92 F σ x1 x2 x3 (gX3_greatestFrom_L23 F σ x1 x2 x3 n) x4 x5 x6 else (gX4_isOpen σ 45 x3 x6).bind fun r1 => if w32 r1 = 0 then gX3_greatestFrom_L92 F σ x1 x2 x3 (gX3_greatestFrom_L23 F σ x1 x2 x3 n) x4 x5 x6 else gd (0 ≤ w32 x6 ∧ w32 x6 < 6) (gd (0 ≤ w32 (x4 - (σ (45 + 1) (w32 x6))) ∧ w32 (x4 - (σ (45 + 1) (w32 x6))) < 4860) (gX3_greatestFrom_L92 F σ x1 x2 x3 (gX3_greatestFrom_L23 F σ x1 x2 x3 n) x4 (if w32 x5 < w32 ((σ (x1 + 5) (w32 ((x2 * 6) + x6))) + (σ 49 (w32 (x4 - (σ (45 + 1) (w32 x6)))))) then (σ (x1 + 5) (w32 ((x2 * 6) + x6))) + (σ 49 (w32 (x4 - (σ (45 + 1) (w32 x6))))) else x5) x6)))) (w0 σ) 23 [(0, vr G 43), (1, vr G x1), (2, vi x2), (3, vi x3), (4, vi x4), (5, vi x5), (6, vi x6)] []
    refine z_iload C 6 rfl dX3_greatestFrom_23 25 rfl ?_
    refine z_aload_n C 1 rfl 1 rfl dX3_greatestFrom_25 26 rfl ?_
    refine y_getI C fX3_73 h1 dX3_greatestFrom_26 29 rfl ?_
    refine z_icmp_ge C dX3_greatestFrom_29 98 (by decide) 32 rfl rfl rfl (fun _ => ?_) (fun _ => ?_)
    · refine z_iload C 5 rfl dX3_greatestFrom_98 100 rfl ?_
      exact z_iret C R rfl rfl dX3_greatestFrom_100
    · refine z_aload_n C 1 rfl 1 rfl dX3_greatestFrom_32 33 rfl ?_
      refine y_getR C fX3_76 h1 (lay_0_4 h1) dX3_greatestFrom_33 36 rfl ?_
      refine z_iload_n C 2 rfl 2 rfl dX3_greatestFrom_36 37 rfl ?_
      refine z_bipush C (by decide) dX3_greatestFrom_37 39 rfl ?_
      refine z_imul C dX3_greatestFrom_39 40 rfl ?_
      refine z_iload C 6 rfl dX3_greatestFrom_40 42 rfl ?_
      refine z_iadd C dX3_greatestFrom_42 43 rfl ?_
      refine y_iald C ((lay_0_4 h1).2) rfl dX3_greatestFrom_43 44 rfl rfl (fun _ => ?_)
      refine z_istore (lv' := [(7, vi (σ (x1 + 5) (w32 ((x2 * 6) + x6)))), (0, vr G 43), (1, vr G x1), (2, vi x2), (3, vi x3), (4, vi x4), (5, vi x5), (6, vi x6)]) C (by decide) dX3_greatestFrom_44 46 rfl rfl ?_
      refine z_iload C 0 rfl dX3_greatestFrom_46 48 rfl ?_
      refine z_if_le C dX3_greatestFrom_48 92 (by decide) 51 rfl rfl (fun _ => ?_) (fun _ => ?_)
      · refine z_lv (lv' := [(0, vr G 43), (1, vr G x1), (2, vi x2), (3, vi x3), (4, vi x4), (5, vi x5), (6, vi x6)]) [1, 2, 3, 4, 5, 6, 7] rfl ?_
        exact pX3_greatestFrom_L92 C R hR F σ x1 h1 x2 x3 (gX3_greatestFrom_L23 F σ x1 x2 x3 n) ih x4 x5 x6
      · refine z_aload_n C 0 rfl 1 rfl dX3_greatestFrom_51 52 rfl ?_
        refine y_getR C fX3_18 one_3 lay_3_2 dX3_greatestFrom_52 55 rfl ?_
        refine z_iload_n C 3 rfl 4 rfl dX3_greatestFrom_55 56 rfl ?_
        refine z_iload C 7 rfl dX3_greatestFrom_56 58 rfl ?_
        refine y_callVI C hR (tX4_isOpen (mL X) G σ 45 x3 x6 lay_3_2.2) ⟨mwX4_isOpen, mvX4_isOpen, lkX3_79⟩ lay_3_2.2 rfl rfl (Nat.le_of_ble_eq_true rfl) (by unfold rmOK; decide) dX3_greatestFrom_58 61 rfl (fun r1 _ => ?_)
        refine z_if_eq C dX3_greatestFrom_61 92 (by decide) 64 rfl rfl (fun _ => ?_) (fun _ => ?_)
        · refine z_lv (lv' := [(0, vr G 43), (1, vr G x1), (2, vi x2), (3, vi x3), (4, vi x4), (5, vi x5), (6, vi x6)]) [1, 2, 3, 4, 5, 6, 7] rfl ?_
          exact pX3_greatestFrom_L92 C R hR F σ x1 h1 x2 x3 (gX3_greatestFrom_L23 F σ x1 x2 x3 n) ih x4 x5 x6
        · refine z_iload C 6 rfl dX3_greatestFrom_64 66 rfl ?_
          refine z_iload C 0 rfl dX3_greatestFrom_66 68 rfl ?_
          refine z_aload_n C 0 rfl 1 rfl dX3_greatestFrom_68 69 rfl ?_
          refine y_getR C fX3_22 one_3 lay_3_3 dX3_greatestFrom_69 72 rfl ?_
          refine z_iload C 5 rfl dX3_greatestFrom_72 74 rfl ?_
          refine z_aload_n C 0 rfl 1 rfl dX3_greatestFrom_74 75 rfl ?_
          refine y_getR C fX3_18 one_3 lay_3_2 dX3_greatestFrom_75 78 rfl ?_
          refine y_getR C fX3_83 lay_3_2.2 (lay_4_0 lay_3_2.2) dX3_greatestFrom_78 81 rfl ?_
          refine z_iload C 7 rfl dX3_greatestFrom_81 83 rfl ?_
          refine y_iald C ((lay_4_0 lay_3_2.2).2) rfl dX3_greatestFrom_83 84 rfl rfl (fun _ => ?_)
          refine z_isub C dX3_greatestFrom_84 85 rfl ?_
          refine y_iald C lay_3_3.2 rfl dX3_greatestFrom_85 86 rfl rfl (fun _ => ?_)
          refine z_iadd C dX3_greatestFrom_86 87 rfl ?_
          refine y_maxI C hR lkX3_86 (Nat.le_of_ble_eq_true rfl) (by decide) dX3_greatestFrom_87 90 rfl ?_
          refine z_istore (lv' := [(5, vi (if w32 x5 < w32 ((σ (x1 + 5) (w32 ((x2 * 6) + x6))) + (σ 49 (w32 (x4 - (σ (45 + 1) (w32 x6)))))) then (σ (x1 + 5) (w32 ((x2 * 6) + x6))) + (σ 49 (w32 (x4 - (σ (45 + 1) (w32 x6))))) else x5)), (7, vi (σ (x1 + 5) (w32 ((x2 * 6) + x6)))), (0, vr G 43), (1, vr G x1), (2, vi x2), (3, vi x3), (4, vi x4), (6, vi x6)]) C (by decide) dX3_greatestFrom_90 92 rfl rfl ?_
          refine z_lv (lv' := [(0, vr G 43), (1, vr G x1), (2, vi x2), (3, vi x3), (4, vi x4), (5, vi (if w32 x5 < w32 ((σ (x1 + 5) (w32 ((x2 * 6) + x6))) + (σ 49 (w32 (x4 - (σ (45 + 1) (w32 x6)))))) then (σ (x1 + 5) (w32 ((x2 * 6) + x6))) + (σ 49 (w32 (x4 - (σ (45 + 1) (w32 x6))))) else x5)), (6, vi x6)]) [2, 3, 4, 5, 6, 0, 7] rfl ?_
          exact pX3_greatestFrom_L92 C R hR F σ x1 h1 x2 x3 (gX3_greatestFrom_L23 F σ x1 x2 x3 n) ih x4 (if w32 x5 < w32 ((σ (x1 + 5) (w32 ((x2 * 6) + x6))) + (σ 49 (w32 (x4 - (σ (45 + 1) (w32 x6)))))) then (σ (x1 + 5) (w32 ((x2 * 6) + x6))) + (σ 49 (w32 (x4 - (σ (45 + 1) (w32 x6))))) else x5) x6
set_option maxRecDepth 100000 in
set_option maxHeartbeats 4000000 in
theorem tX3_greatestFrom (l : Launch) (G : GG) (F : Nat) (σ : St) (x1 : Int) (x2 : Int) (x3 : Int) (h1 : isK x1 (0, 0)) : Ctr l G yX3_greatestFrom cX3_greatestFrom 8 (some .int) rmX3_greatestFrom [vr G 43, vr G x1, vi x2, vi x3] (w0 σ) vzI (wzR σ) (gX3_greatestFrom F σ x1 x2 x3) := by
  refine ctr_of (by decide) (Nat.le_of_ble_eq_true rfl) mwX3_greatestFrom.1 (fun X hl hR C R hnm => ?_)
  subst hl
  refine z_lv (lv' := [(0, vr G 43), (1, vr G x1), (2, vi x2), (3, vi x3)]) [0, 1, 2, 3] rfl ?_
  show ZZ X G 8 (QM X G vzI (wzR σ) (0, 0)) (0, 0) (gd (0 ≤ w32 (((x2 + 1) * 486) + x3) ∧ w32 (((x2 + 1) * 486) + x3) < 4860) (gX3_greatestFrom_L23 F σ x1 x2 x3 F (((x2 + 1) * 486) + x3) (σ 49 (w32 (((x2 + 1) * 486) + x3))) 0)) (w0 σ) 0 [(0, vr G 43), (1, vr G x1), (2, vi x2), (3, vi x3)] []
  refine z_iload_n C 2 rfl 2 rfl dX3_greatestFrom_0 1 rfl ?_
  refine z_iconst C dX3_greatestFrom_1 2 rfl ?_
  refine z_iadd C dX3_greatestFrom_2 3 rfl ?_
  refine z_sipush C (by decide) dX3_greatestFrom_3 6 rfl ?_
  refine z_imul C dX3_greatestFrom_6 7 rfl ?_
  refine z_iload_n C 3 rfl 3 rfl dX3_greatestFrom_7 8 rfl ?_
  refine z_iadd C dX3_greatestFrom_8 9 rfl ?_
  refine z_istore (lv' := [(4, vi (((x2 + 1) * 486) + x3)), (0, vr G 43), (1, vr G x1), (2, vi x2), (3, vi x3)]) C (by decide) dX3_greatestFrom_9 11 rfl rfl ?_
  refine z_aload_n C 0 rfl 1 rfl dX3_greatestFrom_11 12 rfl ?_
  refine y_getR C fX3_22 one_3 lay_3_3 dX3_greatestFrom_12 15 rfl ?_
  refine z_iload C 0 rfl dX3_greatestFrom_15 17 rfl ?_
  refine y_iald C lay_3_3.2 rfl dX3_greatestFrom_17 18 rfl rfl (fun _ => ?_)
  refine z_istore (lv' := [(5, vi (σ 49 (w32 (((x2 + 1) * 486) + x3)))), (4, vi (((x2 + 1) * 486) + x3)), (0, vr G 43), (1, vr G x1), (2, vi x2), (3, vi x3)]) C (by decide) dX3_greatestFrom_18 20 rfl rfl ?_
  refine z_iconst C dX3_greatestFrom_20 21 rfl ?_
  refine z_istore (lv' := [(6, vi 0), (5, vi (σ 49 (w32 (((x2 + 1) * 486) + x3)))), (4, vi (((x2 + 1) * 486) + x3)), (0, vr G 43), (1, vr G x1), (2, vi x2), (3, vi x3)]) C (by decide) dX3_greatestFrom_21 23 rfl rfl ?_
  refine z_lv (lv' := [(0, vr G 43), (1, vr G x1), (2, vi x2), (3, vi x3), (4, vi (((x2 + 1) * 486) + x3)), (5, vi (σ 49 (w32 (((x2 + 1) * 486) + x3)))), (6, vi 0)]) [3, 4, 5, 6, 2, 1, 0] rfl ?_
  exact pX3_greatestFrom_L23 C R hR F σ x1 h1 x2 x3 F (((x2 + 1) * 486) + x3) (σ 49 (w32 (((x2 + 1) * 486) + x3))) 0
-- fill
def gX3_fill_L49 (F : Nat) (x1 : Int) (x2 : Int) (x3 : Int) (c40 : Int → St → Option (St)) : Nat → Int → Int → St → Option (St)
  | 0, _, _, _ => none
  | n + 1, x4, x5, σ => if w32 x5 ≥ w32 (σ 45 3) then c40 (x4 + (-1)) σ else (gX3_greatestFrom F σ x1 x4 x5).bind fun r1 => gd (0 ≤ w32 ((x4 * 486) + x5) ∧ w32 ((x4 * 486) + x5) < 4860) (gX3_fill_L49 F x1 x2 x3 c40 n x4 (x5 + 1) (up σ 49 (w32 ((x4 * 486) + x5)) r1))
def gX3_fill_L40 (F : Nat) (x1 : Int) (x2 : Int) (x3 : Int) : Nat → Int → St → Option (St)
  | 0, _, _ => none
  | n + 1, x4, σ => if w32 x4 < w32 x2 then some σ else gX3_fill_L49 F x1 x2 x3 (gX3_fill_L40 F x1 x2 x3 n) F x4 0 σ
def gX3_fill_L3 (F : Nat) (x1 : Int) (x2 : Int) (x3 : Int) : Nat → Int → St → Option (St)
  | 0, _, _ => none
  | n + 1, x4, σ => if w32 x4 ≥ w32 (σ 45 3) then gX3_fill_L40 F x1 x2 x3 F (x3 - 1) σ else gd (0 ≤ w32 ((x3 * 486) + x4) ∧ w32 ((x3 * 486) + x4) < 4860) (gX3_fill_L3 F x1 x2 x3 n (x4 + 1) (up σ 49 (w32 ((x3 * 486) + x4)) 0))
def gX3_fill (F : Nat) (σ : St) (x1 : Int) (x2 : Int) (x3 : Int) : Option (St) := gX3_fill_L3 F x1 x2 x3 F 0 σ
def rmX3_fill : Room := { frames := 2, cells := 0, slots := 0, locals := 50 }
set_option maxRecDepth 100000 in
set_option maxHeartbeats 4000000 in
theorem pX3_fill_L49 {X : MX} {G : GG} (C : CX X G 6 cX3_fill RX3) (R : RT X none) (hR : mR X = rmX3_fill) (F : Nat) (x1 : Int) (h1 : isK x1 (0, 0)) (x2 : Int) (x3 : Int) (c40 : Int → St → Option (St)) (hc40 : ∀ (x4 : Int) (σ : St), ZZ X G 6 (QM X G vzV wzV (0, 0)) (0, 0) (c40 x4 σ) (w0 σ) 40 [(0, vr G 43), (1, vr G x1), (2, vi x2), (4, vi x4)] []) : ∀ (n : Nat) (x4 : Int) (x5 : Int) (σ : St), ZZ X G 6 (QM X G vzV wzV (0, 0)) (0, 0) (gX3_fill_L49 F x1 x2 x3 c40 n x4 x5 σ) (w0 σ) 49 [(0, vr G 43), (1, vr G x1), (2, vi x2), (4, vi x4), (5, vi x5)] [] := by
  intro n
  induction n with
  | zero =>
    intro _ _ _
    exact z_none
  | succ n ih =>
    intro x4 x5 σ
    show ZZ X G 6 (QM X G vzV wzV (0, 0)) (0, 0) (if w32 x5 ≥ w32 (σ 45 3) then c40 (x4 + (-1)) σ else (gX3_greatestFrom F σ x1 x4 x5).bind fun r1 => gd (0 ≤ w32 ((x4 * 486) + x5) ∧ w32 ((x4 * 486) + x5) < 4860) (gX3_fill_L49 F x1 x2 x3 c40 n x4 (x5 + 1) (up σ 49 (w32 ((x4 * 486) + x5)) r1))) (w0 σ) 49 [(0, vr G 43), (1, vr G x1), (2, vi x2), (4, vi x4), (5, vi x5)] []
    refine z_iload C 4 rfl dX3_fill_49 51 rfl ?_
    refine z_aload_n C 0 rfl 0 rfl dX3_fill_51 52 rfl ?_
    refine y_getR C fX3_18 one_3 lay_3_2 dX3_fill_52 55 rfl ?_
    refine y_getI C fX3_66 lay_3_2.2 dX3_fill_55 58 rfl ?_
    refine z_icmp_ge C dX3_fill_58 90 (by decide) 61 rfl rfl rfl (fun _ => ?_) (fun _ => ?_)
    · refine z_iinc (lv' := [(4, vi (x4 + (-1))), (0, vr G 43), (1, vr G x1), (2, vi x2), (5, vi x5)]) C (by decide) 3 rfl dX3_fill_90 93 rfl rfl ?_
      refine z_goto C dX3_fill_93 40 (by decide) ?_
      refine z_lv (lv' := [(0, vr G 43), (1, vr G x1), (2, vi x2), (4, vi (x4 + (-1)))]) [1, 2, 3, 0] rfl ?_
      exact hc40 (x4 + (-1)) σ
    · refine z_aload_n C 0 rfl 0 rfl dX3_fill_61 62 rfl ?_
      refine y_getR C fX3_22 one_3 lay_3_3 dX3_fill_62 65 rfl ?_
      refine z_iload C 3 rfl dX3_fill_65 67 rfl ?_
      refine z_sipush C (by decide) dX3_fill_67 70 rfl ?_
      refine z_imul C dX3_fill_70 71 rfl ?_
      refine z_iload C 4 rfl dX3_fill_71 73 rfl ?_
      refine z_iadd C dX3_fill_73 74 rfl ?_
      refine z_aload_n C 0 rfl 0 rfl dX3_fill_74 75 rfl ?_
      refine z_aload_n C 1 rfl 1 rfl dX3_fill_75 76 rfl ?_
      refine z_iload C 3 rfl dX3_fill_76 78 rfl ?_
      refine z_iload C 4 rfl dX3_fill_78 80 rfl ?_
      refine y_callVI C hR (tX3_greatestFrom (mL X) G F σ x1 x4 x5 h1) ⟨mwX3_greatestFrom, mvX3_greatestFrom, lkX3_69⟩ one_3 rfl rfl (Nat.le_of_ble_eq_true rfl) (by unfold rmOK; decide) dX3_fill_80 83 rfl (fun r1 _ => ?_)
      refine y_iast C lay_3_3.2 rfl dX3_fill_83 84 rfl rfl (fun _ => ?_)
      refine z_iinc (lv' := [(5, vi (x5 + 1)), (0, vr G 43), (1, vr G x1), (2, vi x2), (4, vi x4)]) C (by decide) 4 rfl dX3_fill_84 87 rfl rfl ?_
      refine z_goto C dX3_fill_87 49 (by decide) ?_
      refine z_lv (lv' := [(0, vr G 43), (1, vr G x1), (2, vi x2), (4, vi x4), (5, vi (x5 + 1))]) [1, 2, 3, 4, 0] rfl ?_
      exact ih x4 (x5 + 1) (up σ 49 (w32 ((x4 * 486) + x5)) r1)
set_option maxRecDepth 100000 in
set_option maxHeartbeats 4000000 in
theorem pX3_fill_L40 {X : MX} {G : GG} (C : CX X G 6 cX3_fill RX3) (R : RT X none) (hR : mR X = rmX3_fill) (F : Nat) (x1 : Int) (h1 : isK x1 (0, 0)) (x2 : Int) (x3 : Int)  : ∀ (n : Nat) (x4 : Int) (σ : St), ZZ X G 6 (QM X G vzV wzV (0, 0)) (0, 0) (gX3_fill_L40 F x1 x2 x3 n x4 σ) (w0 σ) 40 [(0, vr G 43), (1, vr G x1), (2, vi x2), (4, vi x4)] [] := by
  intro n
  induction n with
  | zero =>
    intro _ _
    exact z_none
  | succ n ih =>
    intro x4 σ
    show ZZ X G 6 (QM X G vzV wzV (0, 0)) (0, 0) (if w32 x4 < w32 x2 then some σ else gX3_fill_L49 F x1 x2 x3 (gX3_fill_L40 F x1 x2 x3 n) F x4 0 σ) (w0 σ) 40 [(0, vr G 43), (1, vr G x1), (2, vi x2), (4, vi x4)] []
    refine z_iload C 3 rfl dX3_fill_40 42 rfl ?_
    refine z_iload_n C 2 rfl 2 rfl dX3_fill_42 43 rfl ?_
    refine z_icmp_lt C dX3_fill_43 96 (by decide) 46 rfl rfl rfl (fun _ => ?_) (fun _ => ?_)
    · exact z_vret C R rfl rfl dX3_fill_96
    · refine z_iconst C dX3_fill_46 47 rfl ?_
      refine z_istore (lv' := [(5, vi 0), (0, vr G 43), (1, vr G x1), (2, vi x2), (4, vi x4)]) C (by decide) dX3_fill_47 49 rfl rfl ?_
      refine z_lv (lv' := [(0, vr G 43), (1, vr G x1), (2, vi x2), (4, vi x4), (5, vi 0)]) [1, 2, 3, 4, 0] rfl ?_
      exact pX3_fill_L49 C R hR F x1 h1 x2 x3 (gX3_fill_L40 F x1 x2 x3 n) ih F x4 0 σ
set_option maxRecDepth 100000 in
set_option maxHeartbeats 4000000 in
theorem pX3_fill_L3 {X : MX} {G : GG} (C : CX X G 6 cX3_fill RX3) (R : RT X none) (hR : mR X = rmX3_fill) (F : Nat) (x1 : Int) (h1 : isK x1 (0, 0)) (x2 : Int) (x3 : Int)  : ∀ (n : Nat) (x4 : Int) (σ : St), ZZ X G 6 (QM X G vzV wzV (0, 0)) (0, 0) (gX3_fill_L3 F x1 x2 x3 n x4 σ) (w0 σ) 3 [(0, vr G 43), (1, vr G x1), (2, vi x2), (3, vi x3), (4, vi x4)] [] := by
  intro n
  induction n with
  | zero =>
    intro _ _
    exact z_none
  | succ n ih =>
    intro x4 σ
    show ZZ X G 6 (QM X G vzV wzV (0, 0)) (0, 0) (if w32 x4 ≥ w32 (σ 45 3) then gX3_fill_L40 F x1 x2 x3 F (x3 - 1) σ else gd (0 ≤ w32 ((x3 * 486) + x4) ∧ w32 ((x3 * 486) + x4) < 4860) (gX3_fill_L3 F x1 x2 x3 n (x4 + 1) (up σ 49 (w32 ((x3 * 486) + x4)) 0))) (w0 σ) 3 [(0, vr G 43), (1, vr G x1), (2, vi x2), (3, vi x3), (4, vi x4)] []
    refine z_iload C 4 rfl dX3_fill_3 5 rfl ?_
    refine z_aload_n C 0 rfl 0 rfl dX3_fill_5 6 rfl ?_
    refine y_getR C fX3_18 one_3 lay_3_2 dX3_fill_6 9 rfl ?_
    refine y_getI C fX3_66 lay_3_2.2 dX3_fill_9 12 rfl ?_
    refine z_icmp_ge C dX3_fill_12 35 (by decide) 15 rfl rfl rfl (fun _ => ?_) (fun _ => ?_)
    · refine z_iload_n C 3 rfl 3 rfl dX3_fill_35 36 rfl ?_
      refine z_iconst C dX3_fill_36 37 rfl ?_
      refine z_isub C dX3_fill_37 38 rfl ?_
      refine z_istore (lv' := [(4, vi (x3 - 1)), (0, vr G 43), (1, vr G x1), (2, vi x2), (3, vi x3)]) C (by decide) dX3_fill_38 40 rfl rfl ?_
      refine z_lv (lv' := [(0, vr G 43), (1, vr G x1), (2, vi x2), (4, vi (x3 - 1))]) [1, 2, 3, 0] rfl ?_
      exact pX3_fill_L40 C R hR F x1 h1 x2 x3 F (x3 - 1) σ
    · refine z_aload_n C 0 rfl 0 rfl dX3_fill_15 16 rfl ?_
      refine y_getR C fX3_22 one_3 lay_3_3 dX3_fill_16 19 rfl ?_
      refine z_iload_n C 3 rfl 3 rfl dX3_fill_19 20 rfl ?_
      refine z_sipush C (by decide) dX3_fill_20 23 rfl ?_
      refine z_imul C dX3_fill_23 24 rfl ?_
      refine z_iload C 4 rfl dX3_fill_24 26 rfl ?_
      refine z_iadd C dX3_fill_26 27 rfl ?_
      refine z_iconst C dX3_fill_27 28 rfl ?_
      refine y_iast C lay_3_3.2 rfl dX3_fill_28 29 rfl rfl (fun _ => ?_)
      refine z_iinc (lv' := [(4, vi (x4 + 1)), (0, vr G 43), (1, vr G x1), (2, vi x2), (3, vi x3)]) C (by decide) 4 rfl dX3_fill_29 32 rfl rfl ?_
      refine z_goto C dX3_fill_32 3 (by decide) ?_
      refine z_lv (lv' := [(0, vr G 43), (1, vr G x1), (2, vi x2), (3, vi x3), (4, vi (x4 + 1))]) [1, 2, 3, 4, 0] rfl ?_
      exact ih (x4 + 1) (up σ 49 (w32 ((x3 * 486) + x4)) 0)
set_option maxRecDepth 100000 in
set_option maxHeartbeats 4000000 in
theorem tX3_fill (l : Launch) (G : GG) (F : Nat) (σ : St) (x1 : Int) (x2 : Int) (x3 : Int) (h1 : isK x1 (0, 0)) : Ctr l G yX3_fill cX3_fill 6 none rmX3_fill [vr G 43, vr G x1, vi x2, vi x3] (w0 σ) vzV wzV (gX3_fill F σ x1 x2 x3) := by
  refine ctr_of (by decide) (Nat.le_of_ble_eq_true rfl) mwX3_fill.1 (fun X hl hR C R hnm => ?_)
  subst hl
  refine z_lv (lv' := [(0, vr G 43), (1, vr G x1), (2, vi x2), (3, vi x3)]) [0, 1, 2, 3] rfl ?_
  show ZZ X G 6 (QM X G vzV wzV (0, 0)) (0, 0) (gX3_fill_L3 F x1 x2 x3 F 0 σ) (w0 σ) 0 [(0, vr G 43), (1, vr G x1), (2, vi x2), (3, vi x3)] []
  refine z_iconst C dX3_fill_0 1 rfl ?_
  refine z_istore (lv' := [(4, vi 0), (0, vr G 43), (1, vr G x1), (2, vi x2), (3, vi x3)]) C (by decide) dX3_fill_1 3 rfl rfl ?_
  refine z_lv (lv' := [(0, vr G 43), (1, vr G x1), (2, vi x2), (3, vi x3), (4, vi 0)]) [1, 2, 3, 4, 0] rfl ?_
  exact pX3_fill_L3 C R hR F x1 h1 x2 x3 F 0 σ
-- leastPost
def gX3_leastPost_L94 (F : Nat) (σ : St) (x1 : Int) (x2 : Int) (x3 : Int) (c14 : Int → Int → Option (Int)) (x4 : Int) (x5 : Int) : Option (Int) := c14 x4 (x5 + 1)
def gX3_leastPost_L14 (F : Nat) (σ : St) (x1 : Int) (x2 : Int) (x3 : Int) : Nat → Int → Int → Option (Int)
  | 0, _, _ => none
  | n + 1, x4, x5 => if w32 x5 ≥ w32 (σ x1 5) then some ((-4)) else gd (0 ≤ w32 ((x2 * 6) + x5) ∧ w32 ((x2 * 6) + x5) < 54) (if w32 (σ (x1 + 5) (w32 ((x2 * 6) + x5))) ≤ 0 then gX3_leastPost_L94 F σ x1 x2 x3 (gX3_leastPost_L14 F σ x1 x2 x3 n) x4 x5 else (gX4_isOpen σ 45 x3 x5).bind fun r1 => if w32 r1 = 0 then gX3_leastPost_L94 F σ x1 x2 x3 (gX3_leastPost_L14 F σ x1 x2 x3 n) x4 x5 else gd (0 ≤ w32 x5 ∧ w32 x5 < 6) (gd (0 ≤ w32 (x4 - (σ (45 + 1) (w32 x5))) ∧ w32 (x4 - (σ (45 + 1) (w32 x5))) < 4860) (gd (0 ≤ w32 ((x2 * 486) + x3) ∧ w32 ((x2 * 486) + x3) < 4860) (if w32 ((σ (x1 + 5) (w32 ((x2 * 6) + x5))) + (σ 49 (w32 (x4 - (σ (45 + 1) (w32 x5)))))) ≠ w32 (σ 49 (w32 ((x2 * 486) + x3))) then gX3_leastPost_L94 F σ x1 x2 x3 (gX3_leastPost_L14 F σ x1 x2 x3 n) x4 x5 else some x5))))
def gX3_leastPost (F : Nat) (σ : St) (x1 : Int) (x2 : Int) (x3 : Int) : Option (Int) := gX3_leastPost_L14 F σ x1 x2 x3 F (((x2 + 1) * 486) + x3) 0
def rmX3_leastPost : Room := { frames := 1, cells := 0, slots := 0, locals := 22 }
set_option maxRecDepth 100000 in
set_option maxHeartbeats 4000000 in
theorem pX3_leastPost_L94 {X : MX} {G : GG} (C : CX X G 7 cX3_leastPost RX3) (R : RT X (some .int)) (hR : mR X = rmX3_leastPost) (F : Nat) (σ : St) (x1 : Int) (h1 : isK x1 (0, 0)) (x2 : Int) (x3 : Int) (c14 : Int → Int → Option (Int)) (hc14 : ∀ (x4 : Int) (x5 : Int), ZZ X G 7 (QM X G vzI (wzR σ) (0, 0)) (0, 0) (c14 x4 x5) (w0 σ) 14 [(0, vr G 43), (1, vr G x1), (2, vi x2), (3, vi x3), (4, vi x4), (5, vi x5)] []) : ∀ (x4 : Int) (x5 : Int), ZZ X G 7 (QM X G vzI (wzR σ) (0, 0)) (0, 0) (gX3_leastPost_L94 F σ x1 x2 x3 c14 x4 x5) (w0 σ) 94 [(0, vr G 43), (1, vr G x1), (2, vi x2), (3, vi x3), (4, vi x4), (5, vi x5)] [] := by
  intro x4 x5
  show ZZ X G 7 (QM X G vzI (wzR σ) (0, 0)) (0, 0) (c14 x4 (x5 + 1)) (w0 σ) 94 [(0, vr G 43), (1, vr G x1), (2, vi x2), (3, vi x3), (4, vi x4), (5, vi x5)] []
  refine z_iinc (lv' := [(5, vi (x5 + 1)), (0, vr G 43), (1, vr G x1), (2, vi x2), (3, vi x3), (4, vi x4)]) C (by decide) 5 rfl dX3_leastPost_94 97 rfl rfl ?_
  refine z_goto C dX3_leastPost_97 14 (by decide) ?_
  refine z_lv (lv' := [(0, vr G 43), (1, vr G x1), (2, vi x2), (3, vi x3), (4, vi x4), (5, vi (x5 + 1))]) [1, 2, 3, 4, 5, 0] rfl ?_
  exact hc14 x4 (x5 + 1)
set_option maxRecDepth 100000 in
set_option maxHeartbeats 4000000 in
theorem pX3_leastPost_L14 {X : MX} {G : GG} (C : CX X G 7 cX3_leastPost RX3) (R : RT X (some .int)) (hR : mR X = rmX3_leastPost) (F : Nat) (σ : St) (x1 : Int) (h1 : isK x1 (0, 0)) (x2 : Int) (x3 : Int)  : ∀ (n : Nat) (x4 : Int) (x5 : Int), ZZ X G 7 (QM X G vzI (wzR σ) (0, 0)) (0, 0) (gX3_leastPost_L14 F σ x1 x2 x3 n x4 x5) (w0 σ) 14 [(0, vr G 43), (1, vr G x1), (2, vi x2), (3, vi x3), (4, vi x4), (5, vi x5)] [] := by
  intro n
  induction n with
  | zero =>
    intro _ _
    exact z_none
  | succ n ih =>
    intro x4 x5
    show ZZ X G 7 (QM X G vzI (wzR σ) (0, 0)) (0, 0) (if w32 x5 ≥ w32 (σ x1 5) then some ((-4)) else gd (0 ≤ w32 ((x2 * 6) + x5) ∧ w32 ((x2 * 6) + x5) < 54) (if w32 (σ (x1 + 5) (w32 ((x2 * 6) + x5))) ≤ 0 then gX3_leastPost_L94 F σ x1 x2 x3 (gX3_leastPost_L14 F σ x1 x2 x3 n) x4 x5 else (gX4_isOpen σ 45 x3 x5).bind fun r1 => if w32 r1 = 0 then gX3_leastPost_L94 F σ x1 x2 x3 (gX3_leastPost_L14 F σ x1 x2 x3 n) x4 x5 else gd (0 ≤ w32 x5 ∧ w32 x5 < 6) (gd (0 ≤ w32 (x4 - (σ (45 + 1) (w32 x5))) ∧ w32 (x4 - (σ (45 + 1) (w32 x5))) < 4860) (gd (0 ≤ w32 ((x2 * 486) + x3) ∧ w32 ((x2 * 486) + x3) < 4860) (if w32 ((σ (x1 + 5) (w32 ((x2 * 6) + x5))) + (σ 49 (w32 (x4 - (σ (45 + 1) (w32 x5)))))) ≠ w32 (σ 49 (w32 ((x2 * 486) + x3))) then gX3_leastPost_L94 F σ x1 x2 x3 (gX3_leastPost_L14 F σ x1 x2 x3 n) x4 x5 else some x5))))) (w0 σ) 14 [(0, vr G 43), (1, vr G x1), (2, vi x2), (3, vi x3), (4, vi x4), (5, vi x5)] []
    refine z_iload C 5 rfl dX3_leastPost_14 16 rfl ?_
    refine z_aload_n C 1 rfl 1 rfl dX3_leastPost_16 17 rfl ?_
    refine y_getI C fX3_73 h1 dX3_leastPost_17 20 rfl ?_
    refine z_icmp_ge C dX3_leastPost_20 100 (by decide) 23 rfl rfl rfl (fun _ => ?_) (fun _ => ?_)
    · refine z_bipush C (by decide) dX3_leastPost_100 102 rfl ?_
      exact z_iret C R rfl rfl dX3_leastPost_102
    · refine z_aload_n C 1 rfl 1 rfl dX3_leastPost_23 24 rfl ?_
      refine y_getR C fX3_76 h1 (lay_0_4 h1) dX3_leastPost_24 27 rfl ?_
      refine z_iload_n C 2 rfl 2 rfl dX3_leastPost_27 28 rfl ?_
      refine z_bipush C (by decide) dX3_leastPost_28 30 rfl ?_
      refine z_imul C dX3_leastPost_30 31 rfl ?_
      refine z_iload C 5 rfl dX3_leastPost_31 33 rfl ?_
      refine z_iadd C dX3_leastPost_33 34 rfl ?_
      refine y_iald C ((lay_0_4 h1).2) rfl dX3_leastPost_34 35 rfl rfl (fun _ => ?_)
      refine z_istore (lv' := [(6, vi (σ (x1 + 5) (w32 ((x2 * 6) + x5)))), (0, vr G 43), (1, vr G x1), (2, vi x2), (3, vi x3), (4, vi x4), (5, vi x5)]) C (by decide) dX3_leastPost_35 37 rfl rfl ?_
      refine z_iload C 0 rfl dX3_leastPost_37 39 rfl ?_
      refine z_if_le C dX3_leastPost_39 94 (by decide) 42 rfl rfl (fun _ => ?_) (fun _ => ?_)
      · refine z_lv (lv' := [(0, vr G 43), (1, vr G x1), (2, vi x2), (3, vi x3), (4, vi x4), (5, vi x5)]) [1, 2, 3, 4, 5, 6] rfl ?_
        exact pX3_leastPost_L94 C R hR F σ x1 h1 x2 x3 (gX3_leastPost_L14 F σ x1 x2 x3 n) ih x4 x5
      · refine z_aload_n C 0 rfl 1 rfl dX3_leastPost_42 43 rfl ?_
        refine y_getR C fX3_18 one_3 lay_3_2 dX3_leastPost_43 46 rfl ?_
        refine z_iload_n C 3 rfl 4 rfl dX3_leastPost_46 47 rfl ?_
        refine z_iload C 6 rfl dX3_leastPost_47 49 rfl ?_
        refine y_callVI C hR (tX4_isOpen (mL X) G σ 45 x3 x5 lay_3_2.2) ⟨mwX4_isOpen, mvX4_isOpen, lkX3_79⟩ lay_3_2.2 rfl rfl (Nat.le_of_ble_eq_true rfl) (by unfold rmOK; decide) dX3_leastPost_49 52 rfl (fun r1 _ => ?_)
        refine z_if_eq C dX3_leastPost_52 94 (by decide) 55 rfl rfl (fun _ => ?_) (fun _ => ?_)
        · refine z_lv (lv' := [(0, vr G 43), (1, vr G x1), (2, vi x2), (3, vi x3), (4, vi x4), (5, vi x5)]) [1, 2, 3, 4, 5, 6] rfl ?_
          exact pX3_leastPost_L94 C R hR F σ x1 h1 x2 x3 (gX3_leastPost_L14 F σ x1 x2 x3 n) ih x4 x5
        · refine z_iload C 0 rfl dX3_leastPost_55 57 rfl ?_
          refine z_aload_n C 0 rfl 1 rfl dX3_leastPost_57 58 rfl ?_
          refine y_getR C fX3_22 one_3 lay_3_3 dX3_leastPost_58 61 rfl ?_
          refine z_iload C 5 rfl dX3_leastPost_61 63 rfl ?_
          refine z_aload_n C 0 rfl 1 rfl dX3_leastPost_63 64 rfl ?_
          refine y_getR C fX3_18 one_3 lay_3_2 dX3_leastPost_64 67 rfl ?_
          refine y_getR C fX3_83 lay_3_2.2 (lay_4_0 lay_3_2.2) dX3_leastPost_67 70 rfl ?_
          refine z_iload C 6 rfl dX3_leastPost_70 72 rfl ?_
          refine y_iald C ((lay_4_0 lay_3_2.2).2) rfl dX3_leastPost_72 73 rfl rfl (fun _ => ?_)
          refine z_isub C dX3_leastPost_73 74 rfl ?_
          refine y_iald C lay_3_3.2 rfl dX3_leastPost_74 75 rfl rfl (fun _ => ?_)
          refine z_iadd C dX3_leastPost_75 76 rfl ?_
          refine z_aload_n C 0 rfl 1 rfl dX3_leastPost_76 77 rfl ?_
          refine y_getR C fX3_22 one_3 lay_3_3 dX3_leastPost_77 80 rfl ?_
          refine z_iload_n C 2 rfl 3 rfl dX3_leastPost_80 81 rfl ?_
          refine z_sipush C (by decide) dX3_leastPost_81 84 rfl ?_
          refine z_imul C dX3_leastPost_84 85 rfl ?_
          refine z_iload_n C 3 rfl 4 rfl dX3_leastPost_85 86 rfl ?_
          refine z_iadd C dX3_leastPost_86 87 rfl ?_
          refine y_iald C lay_3_3.2 rfl dX3_leastPost_87 88 rfl rfl (fun _ => ?_)
          refine z_icmp_ne C dX3_leastPost_88 94 (by decide) 91 rfl rfl rfl (fun _ => ?_) (fun _ => ?_)
          · refine z_lv (lv' := [(0, vr G 43), (1, vr G x1), (2, vi x2), (3, vi x3), (4, vi x4), (5, vi x5)]) [1, 2, 3, 4, 5, 6] rfl ?_
            exact pX3_leastPost_L94 C R hR F σ x1 h1 x2 x3 (gX3_leastPost_L14 F σ x1 x2 x3 n) ih x4 x5
          · refine z_iload C 6 rfl dX3_leastPost_91 93 rfl ?_
            exact z_iret C R rfl rfl dX3_leastPost_93
set_option maxRecDepth 100000 in
set_option maxHeartbeats 4000000 in
theorem tX3_leastPost (l : Launch) (G : GG) (F : Nat) (σ : St) (x1 : Int) (x2 : Int) (x3 : Int) (h1 : isK x1 (0, 0)) : Ctr l G yX3_leastPost cX3_leastPost 7 (some .int) rmX3_leastPost [vr G 43, vr G x1, vi x2, vi x3] (w0 σ) vzI (wzR σ) (gX3_leastPost F σ x1 x2 x3) := by
  refine ctr_of (by decide) (Nat.le_of_ble_eq_true rfl) mwX3_leastPost.1 (fun X hl hR C R hnm => ?_)
  subst hl
  refine z_lv (lv' := [(0, vr G 43), (1, vr G x1), (2, vi x2), (3, vi x3)]) [0, 1, 2, 3] rfl ?_
  show ZZ X G 7 (QM X G vzI (wzR σ) (0, 0)) (0, 0) (gX3_leastPost_L14 F σ x1 x2 x3 F (((x2 + 1) * 486) + x3) 0) (w0 σ) 0 [(0, vr G 43), (1, vr G x1), (2, vi x2), (3, vi x3)] []
  refine z_iload_n C 2 rfl 2 rfl dX3_leastPost_0 1 rfl ?_
  refine z_iconst C dX3_leastPost_1 2 rfl ?_
  refine z_iadd C dX3_leastPost_2 3 rfl ?_
  refine z_sipush C (by decide) dX3_leastPost_3 6 rfl ?_
  refine z_imul C dX3_leastPost_6 7 rfl ?_
  refine z_iload_n C 3 rfl 3 rfl dX3_leastPost_7 8 rfl ?_
  refine z_iadd C dX3_leastPost_8 9 rfl ?_
  refine z_istore (lv' := [(4, vi (((x2 + 1) * 486) + x3)), (0, vr G 43), (1, vr G x1), (2, vi x2), (3, vi x3)]) C (by decide) dX3_leastPost_9 11 rfl rfl ?_
  refine z_iconst C dX3_leastPost_11 12 rfl ?_
  refine z_istore (lv' := [(5, vi 0), (4, vi (((x2 + 1) * 486) + x3)), (0, vr G 43), (1, vr G x1), (2, vi x2), (3, vi x3)]) C (by decide) dX3_leastPost_12 14 rfl rfl ?_
  refine z_lv (lv' := [(0, vr G 43), (1, vr G x1), (2, vi x2), (3, vi x3), (4, vi (((x2 + 1) * 486) + x3)), (5, vi 0)]) [2, 3, 4, 5, 1, 0] rfl ?_
  exact pX3_leastPost_L14 C R hR F σ x1 h1 x2 x3 F (((x2 + 1) * 486) + x3) 0
-- pair
def gX3_pair_L55 (F : Nat) (x1 : Int) (x2 : Int) (x3 : Int) (x4 : Int) (c7 : Int → Int → St → Option (Int × St)) (x5 : Int) (x6 : Int) (σ : St) : Option (Int × St) := c7 x5 (x6 + 1) σ
def gX3_pair_L7 (F : Nat) (x1 : Int) (x2 : Int) (x3 : Int) (x4 : Int) : Nat → Int → Int → St → Option (Int × St)
  | 0, _, _, _ => none
  | n + 1, x5, x6, σ => if w32 x6 ≥ w32 x3 then some (x5, σ) else (gX3_leastPost F σ x1 x6 x5).bind fun r1 => gd (0 ≤ w32 x6 ∧ w32 x6 < 9) (if w32 r1 = (-4) then gX3_pair_L55 F x1 x2 x3 x4 (gX3_pair_L7 F x1 x2 x3 x4 n) x5 x6 (up σ 44 (w32 x6) r1) else gd (0 ≤ w32 r1 ∧ w32 r1 < 6) (gX3_pair_L55 F x1 x2 x3 x4 (gX3_pair_L7 F x1 x2 x3 x4 n) (x5 - ((up σ 44 (w32 x6) r1) (45 + 1) (w32 r1))) x6 (up σ 44 (w32 x6) r1)))
def gX3_pair (F : Nat) (σ : St) (x1 : Int) (x2 : Int) (x3 : Int) (x4 : Int) : Option (Int × St) := gX3_pair_L7 F x1 x2 x3 x4 F x4 x2 σ
def rmX3_pair : Room := { frames := 2, cells := 0, slots := 0, locals := 48 }
set_option maxRecDepth 100000 in
set_option maxHeartbeats 4000000 in
theorem pX3_pair_L55 {X : MX} {G : GG} (C : CX X G 8 cX3_pair RX3) (R : RT X (some .int)) (hR : mR X = rmX3_pair) (F : Nat) (x1 : Int) (h1 : isK x1 (0, 0)) (x2 : Int) (x3 : Int) (x4 : Int) (c7 : Int → Int → St → Option (Int × St)) (hc7 : ∀ (x5 : Int) (x6 : Int) (σ : St), ZZ X G 8 (QM X G vzIw wzW (0, 0)) (0, 0) (c7 x5 x6 σ) (w0 σ) 7 [(0, vr G 43), (1, vr G x1), (3, vi x3), (5, vi x5), (6, vi x6)] []) : ∀ (x5 : Int) (x6 : Int) (σ : St), ZZ X G 8 (QM X G vzIw wzW (0, 0)) (0, 0) (gX3_pair_L55 F x1 x2 x3 x4 c7 x5 x6 σ) (w0 σ) 55 [(0, vr G 43), (1, vr G x1), (3, vi x3), (5, vi x5), (6, vi x6)] [] := by
  intro x5 x6 σ
  show ZZ X G 8 (QM X G vzIw wzW (0, 0)) (0, 0) (c7 x5 (x6 + 1) σ) (w0 σ) 55 [(0, vr G 43), (1, vr G x1), (3, vi x3), (5, vi x5), (6, vi x6)] []
  refine z_iinc (lv' := [(6, vi (x6 + 1)), (0, vr G 43), (1, vr G x1), (3, vi x3), (5, vi x5)]) C (by decide) 4 rfl dX3_pair_55 58 rfl rfl ?_
  refine z_goto C dX3_pair_58 7 (by decide) ?_
  refine z_lv (lv' := [(0, vr G 43), (1, vr G x1), (3, vi x3), (5, vi x5), (6, vi (x6 + 1))]) [1, 2, 3, 4, 0] rfl ?_
  exact hc7 x5 (x6 + 1) σ
set_option maxRecDepth 100000 in
set_option maxHeartbeats 4000000 in
theorem pX3_pair_L7 {X : MX} {G : GG} (C : CX X G 8 cX3_pair RX3) (R : RT X (some .int)) (hR : mR X = rmX3_pair) (F : Nat) (x1 : Int) (h1 : isK x1 (0, 0)) (x2 : Int) (x3 : Int) (x4 : Int)  : ∀ (n : Nat) (x5 : Int) (x6 : Int) (σ : St), ZZ X G 8 (QM X G vzIw wzW (0, 0)) (0, 0) (gX3_pair_L7 F x1 x2 x3 x4 n x5 x6 σ) (w0 σ) 7 [(0, vr G 43), (1, vr G x1), (3, vi x3), (5, vi x5), (6, vi x6)] [] := by
  intro n
  induction n with
  | zero =>
    intro _ _ _
    exact z_none
  | succ n ih =>
    intro x5 x6 σ
    show ZZ X G 8 (QM X G vzIw wzW (0, 0)) (0, 0) (if w32 x6 ≥ w32 x3 then some (x5, σ) else (gX3_leastPost F σ x1 x6 x5).bind fun r1 => gd (0 ≤ w32 x6 ∧ w32 x6 < 9) (if w32 r1 = (-4) then gX3_pair_L55 F x1 x2 x3 x4 (gX3_pair_L7 F x1 x2 x3 x4 n) x5 x6 (up σ 44 (w32 x6) r1) else gd (0 ≤ w32 r1 ∧ w32 r1 < 6) (gX3_pair_L55 F x1 x2 x3 x4 (gX3_pair_L7 F x1 x2 x3 x4 n) (x5 - ((up σ 44 (w32 x6) r1) (45 + 1) (w32 r1))) x6 (up σ 44 (w32 x6) r1)))) (w0 σ) 7 [(0, vr G 43), (1, vr G x1), (3, vi x3), (5, vi x5), (6, vi x6)] []
    refine z_iload C 4 rfl dX3_pair_7 9 rfl ?_
    refine z_iload_n C 3 rfl 2 rfl dX3_pair_9 10 rfl ?_
    refine z_icmp_ge C dX3_pair_10 61 (by decide) 13 rfl rfl rfl (fun _ => ?_) (fun _ => ?_)
    · refine z_iload C 3 rfl dX3_pair_61 63 rfl ?_
      exact z_iret C R rfl rfl dX3_pair_63
    · refine z_aload_n C 0 rfl 0 rfl dX3_pair_13 14 rfl ?_
      refine z_aload_n C 1 rfl 1 rfl dX3_pair_14 15 rfl ?_
      refine z_iload C 4 rfl dX3_pair_15 17 rfl ?_
      refine z_iload C 3 rfl dX3_pair_17 19 rfl ?_
      refine y_callVI C hR (tX3_leastPost (mL X) G F σ x1 x6 x5 h1) ⟨mwX3_leastPost, mvX3_leastPost, lkX3_89⟩ one_3 rfl rfl (Nat.le_of_ble_eq_true rfl) (by unfold rmOK; decide) dX3_pair_19 22 rfl (fun r1 _ => ?_)
      refine z_istore (lv' := [(7, vi r1), (0, vr G 43), (1, vr G x1), (3, vi x3), (5, vi x5), (6, vi x6)]) C (by decide) dX3_pair_22 24 rfl rfl ?_
      refine z_aload_n C 0 rfl 1 rfl dX3_pair_24 25 rfl ?_
      refine y_getR C fX3_9 one_3 lay_3_0 dX3_pair_25 28 rfl ?_
      refine z_iload C 5 rfl dX3_pair_28 30 rfl ?_
      refine z_iload C 0 rfl dX3_pair_30 32 rfl ?_
      refine y_iast C lay_3_0.2 rfl dX3_pair_32 33 rfl rfl (fun _ => ?_)
      refine z_iload C 0 rfl dX3_pair_33 35 rfl ?_
      refine z_bipush C (by decide) dX3_pair_35 37 rfl ?_
      refine z_icmp_eq C dX3_pair_37 55 (by decide) 40 rfl rfl (w32_id (a := (-4)) (by decide)) (fun _ => ?_) (fun _ => ?_)
      · refine z_lv (lv' := [(0, vr G 43), (1, vr G x1), (3, vi x3), (5, vi x5), (6, vi x6)]) [1, 2, 3, 4, 5] rfl ?_
        exact pX3_pair_L55 C R hR F x1 h1 x2 x3 x4 (gX3_pair_L7 F x1 x2 x3 x4 n) ih x5 x6 (up σ 44 (w32 x6) r1)
      · refine z_iload C 4 rfl dX3_pair_40 42 rfl ?_
        refine z_aload_n C 0 rfl 1 rfl dX3_pair_42 43 rfl ?_
        refine y_getR C fX3_18 one_3 lay_3_2 dX3_pair_43 46 rfl ?_
        refine y_getR C fX3_83 lay_3_2.2 (lay_4_0 lay_3_2.2) dX3_pair_46 49 rfl ?_
        refine z_iload C 0 rfl dX3_pair_49 51 rfl ?_
        refine y_iald C ((lay_4_0 lay_3_2.2).2) rfl dX3_pair_51 52 rfl rfl (fun _ => ?_)
        refine z_isub C dX3_pair_52 53 rfl ?_
        refine z_istore (lv' := [(5, vi (x5 - ((up σ 44 (w32 x6) r1) (45 + 1) (w32 r1)))), (7, vi r1), (0, vr G 43), (1, vr G x1), (3, vi x3), (6, vi x6)]) C (by decide) dX3_pair_53 55 rfl rfl ?_
        refine z_lv (lv' := [(0, vr G 43), (1, vr G x1), (3, vi x3), (5, vi (x5 - ((up σ 44 (w32 x6) r1) (45 + 1) (w32 r1)))), (6, vi x6)]) [2, 3, 4, 0, 5] rfl ?_
        exact pX3_pair_L55 C R hR F x1 h1 x2 x3 x4 (gX3_pair_L7 F x1 x2 x3 x4 n) ih (x5 - ((up σ 44 (w32 x6) r1) (45 + 1) (w32 r1))) x6 (up σ 44 (w32 x6) r1)
set_option maxRecDepth 100000 in
set_option maxHeartbeats 4000000 in
theorem tX3_pair (l : Launch) (G : GG) (F : Nat) (σ : St) (x1 : Int) (x2 : Int) (x3 : Int) (x4 : Int) (h1 : isK x1 (0, 0)) : Ctr l G yX3_pair cX3_pair 8 (some .int) rmX3_pair [vr G 43, vr G x1, vi x2, vi x3, vi x4] (w0 σ) vzIw wzW (gX3_pair F σ x1 x2 x3 x4) := by
  refine ctr_of (by decide) (Nat.le_of_ble_eq_true rfl) mwX3_pair.1 (fun X hl hR C R hnm => ?_)
  subst hl
  refine z_lv (lv' := [(0, vr G 43), (1, vr G x1), (2, vi x2), (3, vi x3), (4, vi x4)]) [0, 1, 2, 3, 4] rfl ?_
  show ZZ X G 8 (QM X G vzIw wzW (0, 0)) (0, 0) (gX3_pair_L7 F x1 x2 x3 x4 F x4 x2 σ) (w0 σ) 0 [(0, vr G 43), (1, vr G x1), (2, vi x2), (3, vi x3), (4, vi x4)] []
  refine z_iload C 4 rfl dX3_pair_0 2 rfl ?_
  refine z_istore (lv' := [(5, vi x4), (0, vr G 43), (1, vr G x1), (2, vi x2), (3, vi x3), (4, vi x4)]) C (by decide) dX3_pair_2 4 rfl rfl ?_
  refine z_iload_n C 2 rfl 3 rfl dX3_pair_4 5 rfl ?_
  refine z_istore (lv' := [(6, vi x2), (5, vi x4), (0, vr G 43), (1, vr G x1), (2, vi x2), (3, vi x3), (4, vi x4)]) C (by decide) dX3_pair_5 7 rfl rfl ?_
  refine z_lv (lv' := [(0, vr G 43), (1, vr G x1), (3, vi x3), (5, vi x4), (6, vi x2)]) [2, 3, 5, 1, 0] rfl ?_
  exact pX3_pair_L7 C R hR F x1 h1 x2 x3 x4 F x4 x2 σ
-- make
def gX3_make_L64 (F : Nat) (x1 : Int) (x2 : Int) : Nat → Int → Int → St → Option (St)
  | 0, _, _, _ => none
  | n + 1, x3, x4, σ => if w32 x4 ≥ w32 (σ x1 6) then some σ else (gX3_fill F σ x1 x4 (if w32 (σ x1 6) < w32 (x4 + x2) then σ x1 6 else x4 + x2)).bind fun r1 => gd (0 ≤ w32 ((x4 * 486) + x3) ∧ w32 ((x4 * 486) + x3) < 4860) ((gX3_pair F (up r1 43 1 ((r1 43 1) + (r1 49 (w32 ((x4 * 486) + x3))))) x1 x4 (if w32 (σ x1 6) < w32 (x4 + x2) then σ x1 6 else x4 + x2) x3).bind fun r2 => gX3_make_L64 F x1 x2 n r2.1 (x4 + x2) r2.2)
def gX3_make_L19 (F : Nat) (x1 : Int) (x2 : Int) (σ : St) : Option (St) := if w32 x2 ≥ 1 then (gX4_shape F (up (up (up σ 43 4 (σ x1 7)) 43 5 x2) 43 1 0) 45 x1 ((-4))).bind fun r1 => (gX4_allFree r1 45).bind fun r2 => gX3_make_L64 F x1 x2 F r2 0 r1 else some σ
def gX3_make (F : Nat) (σ : St) (x1 : Int) (x2 : Int) : Option (St) := if w32 (σ 43 4) ≠ w32 (σ x1 7) then gX3_make_L19 F x1 x2 σ else if w32 (σ 43 5) = w32 x2 then some σ else gX3_make_L19 F x1 x2 σ
def rmX3_make : Room := { frames := 3, cells := 0, slots := 0, locals := 75 }
set_option maxRecDepth 100000 in
set_option maxHeartbeats 4000000 in
theorem pX3_make_L64 {X : MX} {G : GG} (C : CX X G 6 cX3_make RX3) (R : RT X none) (hR : mR X = rmX3_make) (F : Nat) (x1 : Int) (h1 : isK x1 (0, 0)) (x2 : Int)  : ∀ (n : Nat) (x3 : Int) (x4 : Int) (σ : St), ZZ X G 6 (QM X G vzV wzV (0, 0)) (0, 0) (gX3_make_L64 F x1 x2 n x3 x4 σ) (w0 σ) 64 [(0, vr G 43), (1, vr G x1), (2, vi x2), (3, vi x3), (4, vi x4)] [] := by
  intro n
  induction n with
  | zero =>
    intro _ _ _
    exact z_none
  | succ n ih =>
    intro x3 x4 σ
    show ZZ X G 6 (QM X G vzV wzV (0, 0)) (0, 0) (if w32 x4 ≥ w32 (σ x1 6) then some σ else (gX3_fill F σ x1 x4 (if w32 (σ x1 6) < w32 (x4 + x2) then σ x1 6 else x4 + x2)).bind fun r1 => gd (0 ≤ w32 ((x4 * 486) + x3) ∧ w32 ((x4 * 486) + x3) < 4860) ((gX3_pair F (up r1 43 1 ((r1 43 1) + (r1 49 (w32 ((x4 * 486) + x3))))) x1 x4 (if w32 (σ x1 6) < w32 (x4 + x2) then σ x1 6 else x4 + x2) x3).bind fun r2 => gX3_make_L64 F x1 x2 n r2.1 (x4 + x2) r2.2)) (w0 σ) 64 [(0, vr G 43), (1, vr G x1), (2, vi x2), (3, vi x3), (4, vi x4)] []
    refine z_iload C 4 rfl dX3_make_64 66 rfl ?_
    refine z_aload_n C 1 rfl 1 rfl dX3_make_66 67 rfl ?_
    refine y_getI C fX3_49 h1 dX3_make_67 70 rfl ?_
    refine z_icmp_ge C dX3_make_70 137 (by decide) 73 rfl rfl rfl (fun _ => ?_) (fun _ => ?_)
    · exact z_vret C R rfl rfl dX3_make_137
    · refine z_iload C 4 rfl dX3_make_73 75 rfl ?_
      refine z_iload_n C 2 rfl 2 rfl dX3_make_75 76 rfl ?_
      refine z_iadd C dX3_make_76 77 rfl ?_
      refine z_aload_n C 1 rfl 1 rfl dX3_make_77 78 rfl ?_
      refine y_getI C fX3_49 h1 dX3_make_78 81 rfl ?_
      refine y_minI C hR lkX3_52 (Nat.le_of_ble_eq_true rfl) (by decide) dX3_make_81 84 rfl ?_
      refine z_istore (lv' := [(5, vi (if w32 (σ x1 6) < w32 (x4 + x2) then σ x1 6 else x4 + x2)), (0, vr G 43), (1, vr G x1), (2, vi x2), (3, vi x3), (4, vi x4)]) C (by decide) dX3_make_84 86 rfl rfl ?_
      refine z_aload_n C 0 rfl 1 rfl dX3_make_86 87 rfl ?_
      refine z_aload_n C 1 rfl 2 rfl dX3_make_87 88 rfl ?_
      refine z_iload C 5 rfl dX3_make_88 90 rfl ?_
      refine z_iload C 0 rfl dX3_make_90 92 rfl ?_
      refine y_callVv C hR (tX3_fill (mL X) G F σ x1 x4 (if w32 (σ x1 6) < w32 (x4 + x2) then σ x1 6 else x4 + x2) h1) ⟨mwX3_fill, mvX3_fill, lkX3_58⟩ one_3 rfl rfl (Nat.le_of_ble_eq_true rfl) (by unfold rmOK; decide) dX3_make_92 95 rfl (fun r1 _ => ?_)
      refine z_aload_n C 0 rfl 1 rfl dX3_make_95 96 rfl ?_
      refine z_dup C rfl dX3_make_96 97 rfl ?_
      refine y_getI C fX3_39 one_3 dX3_make_97 100 rfl ?_
      refine z_aload_n C 0 rfl 1 rfl dX3_make_100 101 rfl ?_
      refine y_getR C fX3_22 one_3 lay_3_3 dX3_make_101 104 rfl ?_
      refine z_iload C 5 rfl dX3_make_104 106 rfl ?_
      refine z_sipush C (by decide) dX3_make_106 109 rfl ?_
      refine z_imul C dX3_make_109 110 rfl ?_
      refine z_iload_n C 3 rfl 4 rfl dX3_make_110 111 rfl ?_
      refine z_iadd C dX3_make_111 112 rfl ?_
      refine y_iald C lay_3_3.2 rfl dX3_make_112 113 rfl rfl (fun _ => ?_)
      refine z_iadd C dX3_make_113 114 rfl ?_
      refine y_putI C fX3_39 one_3 ⟨rfl, rfl⟩ dX3_make_114 117 rfl ?_
      refine z_aload_n C 0 rfl 1 rfl dX3_make_117 118 rfl ?_
      refine z_aload_n C 1 rfl 2 rfl dX3_make_118 119 rfl ?_
      refine z_iload C 5 rfl dX3_make_119 121 rfl ?_
      refine z_iload C 0 rfl dX3_make_121 123 rfl ?_
      refine z_iload_n C 3 rfl 4 rfl dX3_make_123 124 rfl ?_
      refine y_callVIw C hR (tX3_pair (mL X) G F (up r1 43 1 ((r1 43 1) + (r1 49 (w32 ((x4 * 486) + x3))))) x1 x4 (if w32 (σ x1 6) < w32 (x4 + x2) then σ x1 6 else x4 + x2) x3 h1) ⟨mwX3_pair, mvX3_pair, lkX3_62⟩ one_3 rfl rfl (Nat.le_of_ble_eq_true rfl) (by unfold rmOK; decide) dX3_make_124 127 rfl (fun r2 _ => ?_)
      refine z_istore_n (lv' := [(3, vi r2.1), (5, vi (if w32 (σ x1 6) < w32 (x4 + x2) then σ x1 6 else x4 + x2)), (0, vr G 43), (1, vr G x1), (2, vi x2), (4, vi x4)]) C 3 rfl (by decide) dX3_make_127 128 rfl rfl ?_
      refine z_iload C 5 rfl dX3_make_128 130 rfl ?_
      refine z_iload_n C 2 rfl 4 rfl dX3_make_130 131 rfl ?_
      refine z_iadd C dX3_make_131 132 rfl ?_
      refine z_istore (lv' := [(4, vi (x4 + x2)), (3, vi r2.1), (5, vi (if w32 (σ x1 6) < w32 (x4 + x2) then σ x1 6 else x4 + x2)), (0, vr G 43), (1, vr G x1), (2, vi x2)]) C (by decide) dX3_make_132 134 rfl rfl ?_
      refine z_goto C dX3_make_134 64 (by decide) ?_
      refine z_lv (lv' := [(0, vr G 43), (1, vr G x1), (2, vi x2), (3, vi r2.1), (4, vi (x4 + x2))]) [3, 4, 5, 1, 0] rfl ?_
      exact ih r2.1 (x4 + x2) r2.2
set_option maxRecDepth 100000 in
set_option maxHeartbeats 4000000 in
theorem pX3_make_L19 {X : MX} {G : GG} (C : CX X G 6 cX3_make RX3) (R : RT X none) (hR : mR X = rmX3_make) (F : Nat) (x1 : Int) (h1 : isK x1 (0, 0)) (x2 : Int)  : ∀ (σ : St), ZZ X G 6 (QM X G vzV wzV (0, 0)) (0, 0) (gX3_make_L19 F x1 x2 σ) (w0 σ) 19 [(0, vr G 43), (1, vr G x1), (2, vi x2)] [] := by
  intro σ
  show ZZ X G 6 (QM X G vzV wzV (0, 0)) (0, 0) (if w32 x2 ≥ 1 then (gX4_shape F (up (up (up σ 43 4 (σ x1 7)) 43 5 x2) 43 1 0) 45 x1 ((-4))).bind fun r1 => (gX4_allFree r1 45).bind fun r2 => gX3_make_L64 F x1 x2 F r2 0 r1 else some σ) (w0 σ) 19 [(0, vr G 43), (1, vr G x1), (2, vi x2)] []
  refine z_iload_n C 2 rfl 2 rfl dX3_make_19 20 rfl ?_
  refine z_iconst C dX3_make_20 21 rfl ?_
  refine z_icmp_ge C dX3_make_21 25 (by decide) 24 rfl rfl (w32_id (a := 1) (by decide)) (fun _ => ?_) (fun _ => ?_)
  · refine z_aload_n C 0 rfl 0 rfl dX3_make_25 26 rfl ?_
    refine z_aload_n C 1 rfl 1 rfl dX3_make_26 27 rfl ?_
    refine y_getI C fX3_33 h1 dX3_make_27 30 rfl ?_
    refine y_putI C fX3_25 one_3 ⟨rfl, rfl⟩ dX3_make_30 33 rfl ?_
    refine z_aload_n C 0 rfl 0 rfl dX3_make_33 34 rfl ?_
    refine z_iload_n C 2 rfl 2 rfl dX3_make_34 35 rfl ?_
    refine y_putI C fX3_36 one_3 ⟨rfl, rfl⟩ dX3_make_35 38 rfl ?_
    refine z_aload_n C 0 rfl 0 rfl dX3_make_38 39 rfl ?_
    refine z_iconst C dX3_make_39 40 rfl ?_
    refine y_putI C fX3_39 one_3 ⟨rfl, rfl⟩ dX3_make_40 43 rfl ?_
    refine z_aload_n C 0 rfl 0 rfl dX3_make_43 44 rfl ?_
    refine y_getR C fX3_18 one_3 lay_3_2 dX3_make_44 47 rfl ?_
    refine z_aload_n C 1 rfl 1 rfl dX3_make_47 48 rfl ?_
    refine z_bipush C (by decide) dX3_make_48 50 rfl ?_
    refine y_callVv C hR (tX4_shape (mL X) G F (up (up (up σ 43 4 (σ x1 7)) 43 5 x2) 43 1 0) 45 x1 ((-4)) lay_3_2.2 h1) ⟨mwX4_shape, mvX4_shape, lkX3_42⟩ lay_3_2.2 rfl rfl (Nat.le_of_ble_eq_true rfl) (by unfold rmOK; decide) dX3_make_50 53 rfl (fun r1 _ => ?_)
    refine z_aload_n C 0 rfl 0 rfl dX3_make_53 54 rfl ?_
    refine y_getR C fX3_18 one_3 lay_3_2 dX3_make_54 57 rfl ?_
    refine y_callVI C hR (tX4_allFree (mL X) G r1 45 lay_3_2.2) ⟨mwX4_allFree, mvX4_allFree, lkX3_45⟩ lay_3_2.2 rfl rfl (Nat.le_of_ble_eq_true rfl) (by unfold rmOK; decide) dX3_make_57 60 rfl (fun r2 _ => ?_)
    refine z_istore_n (lv' := [(3, vi r2), (0, vr G 43), (1, vr G x1), (2, vi x2)]) C 3 rfl (by decide) dX3_make_60 61 rfl rfl ?_
    refine z_iconst C dX3_make_61 62 rfl ?_
    refine z_istore (lv' := [(4, vi 0), (3, vi r2), (0, vr G 43), (1, vr G x1), (2, vi x2)]) C (by decide) dX3_make_62 64 rfl rfl ?_
    refine z_lv (lv' := [(0, vr G 43), (1, vr G x1), (2, vi x2), (3, vi r2), (4, vi 0)]) [2, 3, 4, 1, 0] rfl ?_
    exact pX3_make_L64 C R hR F x1 h1 x2 F r2 0 r1
  · exact z_vret C R rfl rfl dX3_make_24
set_option maxRecDepth 100000 in
set_option maxHeartbeats 4000000 in
theorem tX3_make (l : Launch) (G : GG) (F : Nat) (σ : St) (x1 : Int) (x2 : Int) (h1 : isK x1 (0, 0)) : Ctr l G yX3_make cX3_make 6 none rmX3_make [vr G 43, vr G x1, vi x2] (w0 σ) vzV wzV (gX3_make F σ x1 x2) := by
  refine ctr_of (by decide) (Nat.le_of_ble_eq_true rfl) mwX3_make.1 (fun X hl hR C R hnm => ?_)
  subst hl
  refine z_lv (lv' := [(0, vr G 43), (1, vr G x1), (2, vi x2)]) [0, 1, 2] rfl ?_
  show ZZ X G 6 (QM X G vzV wzV (0, 0)) (0, 0) (if w32 (σ 43 4) ≠ w32 (σ x1 7) then gX3_make_L19 F x1 x2 σ else if w32 (σ 43 5) = w32 x2 then some σ else gX3_make_L19 F x1 x2 σ) (w0 σ) 0 [(0, vr G 43), (1, vr G x1), (2, vi x2)] []
  refine z_aload_n C 0 rfl 0 rfl dX3_make_0 1 rfl ?_
  refine y_getI C fX3_25 one_3 dX3_make_1 4 rfl ?_
  refine z_aload_n C 1 rfl 1 rfl dX3_make_4 5 rfl ?_
  refine y_getI C fX3_33 h1 dX3_make_5 8 rfl ?_
  refine z_icmp_ne C dX3_make_8 19 (by decide) 11 rfl rfl rfl (fun _ => ?_) (fun _ => ?_)
  · exact pX3_make_L19 C R hR F x1 h1 x2 σ
  · refine z_aload_n C 0 rfl 0 rfl dX3_make_11 12 rfl ?_
    refine y_getI C fX3_36 one_3 dX3_make_12 15 rfl ?_
    refine z_iload_n C 2 rfl 2 rfl dX3_make_15 16 rfl ?_
    refine z_icmp_eq C dX3_make_16 24 (by decide) 19 rfl rfl rfl (fun _ => ?_) (fun _ => ?_)
    · exact z_vret C R rfl rfl dX3_make_24
    · exact pX3_make_L19 C R hR F x1 h1 x2 σ
-- makeBest
def gX3_makeBest (F : Nat) (σ : St) (x1 : Int) : Option (St) := (gX3_make F σ x1 9).bind fun r1 => some r1
def rmX3_makeBest : Room := { frames := 4, cells := 0, slots := 0, locals := 100 }
set_option maxRecDepth 100000 in
set_option maxHeartbeats 4000000 in
theorem tX3_makeBest (l : Launch) (G : GG) (F : Nat) (σ : St) (x1 : Int) (h1 : isK x1 (0, 0)) : Ctr l G yX3_makeBest cX3_makeBest 2 none rmX3_makeBest [vr G 43, vr G x1] (w0 σ) vzV wzV (gX3_makeBest F σ x1) := by
  refine ctr_of (by decide) (Nat.le_of_ble_eq_true rfl) mwX3_makeBest.1 (fun X hl hR C R hnm => ?_)
  subst hl
  refine z_lv (lv' := [(0, vr G 43), (1, vr G x1)]) [0, 1] rfl ?_
  show ZZ X G 2 (QM X G vzV wzV (0, 0)) (0, 0) ((gX3_make F σ x1 9).bind fun r1 => some r1) (w0 σ) 0 [(0, vr G 43), (1, vr G x1)] []
  refine z_aload_n C 0 rfl 0 rfl dX3_makeBest_0 1 rfl ?_
  refine z_aload_n C 1 rfl 1 rfl dX3_makeBest_1 2 rfl ?_
  refine z_bipush C (by decide) dX3_makeBest_2 4 rfl ?_
  refine y_callVv C hR (tX3_make (mL X) G F σ x1 9 h1) ⟨mwX3_make, mvX3_make, lkX3_29⟩ one_3 rfl rfl (Nat.le_of_ble_eq_true rfl) (by unfold rmOK; decide) dX3_makeBest_4 7 rfl (fun r1 _ => ?_)
  exact z_vret C R rfl rfl dX3_makeBest_7
-- greatest
def gX3_greatest (F : Nat) (σ : St) (x1 : Int) (x2 : Int) : Option (Int × St) := (gX4_shape F σ 45 x1 x2).bind fun r1 => (gX3_fill F r1 x1 0 (r1 x1 6)).bind fun r2 => (gX4_allFree r2 45).bind fun r3 => gd (0 ≤ w32 r3 ∧ w32 r3 < 4860) (some (r2 49 (w32 r3), r2))
def rmX3_greatest : Room := { frames := 3, cells := 0, slots := 0, locals := 75 }
set_option maxRecDepth 100000 in
set_option maxHeartbeats 4000000 in
theorem tX3_greatest (l : Launch) (G : GG) (F : Nat) (σ : St) (x1 : Int) (x2 : Int) (h1 : isK x1 (0, 0)) : Ctr l G yX3_greatest cX3_greatest 3 (some .int) rmX3_greatest [vr G 43, vr G x1, vi x2] (w0 σ) vzIw wzW (gX3_greatest F σ x1 x2) := by
  refine ctr_of (by decide) (Nat.le_of_ble_eq_true rfl) mwX3_greatest.1 (fun X hl hR C R hnm => ?_)
  subst hl
  refine z_lv (lv' := [(0, vr G 43), (1, vr G x1), (2, vi x2)]) [0, 1, 2] rfl ?_
  show ZZ X G 3 (QM X G vzIw wzW (0, 0)) (0, 0) ((gX4_shape F σ 45 x1 x2).bind fun r1 => (gX3_fill F r1 x1 0 (r1 x1 6)).bind fun r2 => (gX4_allFree r2 45).bind fun r3 => gd (0 ≤ w32 r3 ∧ w32 r3 < 4860) (some (r2 49 (w32 r3), r2))) (w0 σ) 0 [(0, vr G 43), (1, vr G x1), (2, vi x2)] []
  refine z_aload_n C 0 rfl 0 rfl dX3_greatest_0 1 rfl ?_
  refine y_getR C fX3_18 one_3 lay_3_2 dX3_greatest_1 4 rfl ?_
  refine z_aload_n C 1 rfl 1 rfl dX3_greatest_4 5 rfl ?_
  refine z_iload_n C 2 rfl 2 rfl dX3_greatest_5 6 rfl ?_
  refine y_callVv C hR (tX4_shape (mL X) G F σ 45 x1 x2 lay_3_2.2 h1) ⟨mwX4_shape, mvX4_shape, lkX3_42⟩ lay_3_2.2 rfl rfl (Nat.le_of_ble_eq_true rfl) (by unfold rmOK; decide) dX3_greatest_6 9 rfl (fun r1 _ => ?_)
  refine z_aload_n C 0 rfl 0 rfl dX3_greatest_9 10 rfl ?_
  refine z_aload_n C 1 rfl 1 rfl dX3_greatest_10 11 rfl ?_
  refine z_iconst C dX3_greatest_11 12 rfl ?_
  refine z_aload_n C 1 rfl 1 rfl dX3_greatest_12 13 rfl ?_
  refine y_getI C fX3_49 h1 dX3_greatest_13 16 rfl ?_
  refine y_callVv C hR (tX3_fill (mL X) G F r1 x1 0 (r1 x1 6) h1) ⟨mwX3_fill, mvX3_fill, lkX3_58⟩ one_3 rfl rfl (Nat.le_of_ble_eq_true rfl) (by unfold rmOK; decide) dX3_greatest_16 19 rfl (fun r2 _ => ?_)
  refine z_aload_n C 0 rfl 0 rfl dX3_greatest_19 20 rfl ?_
  refine y_getR C fX3_22 one_3 lay_3_3 dX3_greatest_20 23 rfl ?_
  refine z_aload_n C 0 rfl 0 rfl dX3_greatest_23 24 rfl ?_
  refine y_getR C fX3_18 one_3 lay_3_2 dX3_greatest_24 27 rfl ?_
  refine y_callVI C hR (tX4_allFree (mL X) G r2 45 lay_3_2.2) ⟨mwX4_allFree, mvX4_allFree, lkX3_45⟩ lay_3_2.2 rfl rfl (Nat.le_of_ble_eq_true rfl) (by unfold rmOK; decide) dX3_greatest_27 30 rfl (fun r3 _ => ?_)
  refine y_iald C lay_3_3.2 rfl dX3_greatest_30 31 rfl rfl (fun _ => ?_)
  exact z_iret C R rfl rfl dX3_greatest_31
-- byPost
def gX1_byPost (σ : St) (x1 : Int) (x2 : Int) (x3 : Int) (x4 : Int) : Option (Int) := (gX0_worthAt σ 1 x1 x4).bind fun r1 => gd (0 ≤ w32 (x2 - 1) ∧ w32 (x2 - 1) < 7) (gd (0 ≤ w32 x4 ∧ w32 x4 < 6) (gd (0 ≤ w32 ((((x2 - 1) * 324) + x3) - (σ (52 + 1) (w32 x4))) ∧ w32 ((((x2 - 1) * 324) + x3) - (σ (52 + 1) (w32 x4))) < 2268) (some (((w32 r1) * (σ 51 (w32 (x2 - 1)))) + (σ 56 (w32 ((((x2 - 1) * 324) + x3) - (σ (52 + 1) (w32 x4)))))))))
def rmX1_byPost : Room := { frames := 1, cells := 0, slots := 0, locals := 22 }
set_option maxRecDepth 100000 in
set_option maxHeartbeats 4000000 in
theorem tX1_byPost (l : Launch) (G : GG) (σ : St) (x1 : Int) (x2 : Int) (x3 : Int) (x4 : Int) : Ctr l G yX1_byPost cX1_byPost 5 (some .long) rmX1_byPost [vr G 50, vi x1, vi x2, vi x3, vi x4] (w0 σ) vzJ (wzR σ) (gX1_byPost σ x1 x2 x3 x4) := by
  refine ctr_of (by decide) (Nat.le_of_ble_eq_true rfl) mwX1_byPost.1 (fun X hl hR C R hnm => ?_)
  subst hl
  refine z_lv (lv' := [(0, vr G 50), (1, vi x1), (2, vi x2), (3, vi x3), (4, vi x4)]) [0, 1, 2, 3, 4] rfl ?_
  show ZZ X G 5 (QM X G vzJ (wzR σ) (0, 0)) (0, 0) ((gX0_worthAt σ 1 x1 x4).bind fun r1 => gd (0 ≤ w32 (x2 - 1) ∧ w32 (x2 - 1) < 7) (gd (0 ≤ w32 x4 ∧ w32 x4 < 6) (gd (0 ≤ w32 ((((x2 - 1) * 324) + x3) - (σ (52 + 1) (w32 x4))) ∧ w32 ((((x2 - 1) * 324) + x3) - (σ (52 + 1) (w32 x4))) < 2268) (some (((w32 r1) * (σ 51 (w32 (x2 - 1)))) + (σ 56 (w32 ((((x2 - 1) * 324) + x3) - (σ (52 + 1) (w32 x4)))))))))) (w0 σ) 0 [(0, vr G 50), (1, vi x1), (2, vi x2), (3, vi x3), (4, vi x4)] []
  refine z_aload_n C 0 rfl 0 rfl dX1_byPost_0 1 rfl ?_
  refine y_getR C fX1_29 one_1 lay_1_2 dX1_byPost_1 4 rfl ?_
  refine z_iload_n C 1 rfl 1 rfl dX1_byPost_4 5 rfl ?_
  refine z_iload C 4 rfl dX1_byPost_5 7 rfl ?_
  refine y_callVI C hR (tX0_worthAt (mL X) G σ 1 x1 x4 lay_1_2.2) ⟨mwX0_worthAt, mvX0_worthAt, lkX1_71⟩ lay_1_2.2 rfl rfl (Nat.le_of_ble_eq_true rfl) (by unfold rmOK; decide) dX1_byPost_7 10 rfl (fun r1 _ => ?_)
  refine z_i2l C dX1_byPost_10 11 rfl ?_
  refine z_aload_n C 0 rfl 0 rfl dX1_byPost_11 12 rfl ?_
  refine y_getR C fX1_9 one_1 lay_1_0 dX1_byPost_12 15 rfl ?_
  refine z_iload_n C 2 rfl 2 rfl dX1_byPost_15 16 rfl ?_
  refine z_iconst C dX1_byPost_16 17 rfl ?_
  refine z_isub C dX1_byPost_17 18 rfl ?_
  refine y_lald C lay_1_0.2 rfl dX1_byPost_18 19 rfl rfl (fun _ => ?_)
  refine z_lmul C dX1_byPost_19 20 rfl ?_
  refine z_aload_n C 0 rfl 0 rfl dX1_byPost_20 21 rfl ?_
  refine y_getR C fX1_22 one_1 lay_1_4 dX1_byPost_21 24 rfl ?_
  refine z_iload_n C 2 rfl 2 rfl dX1_byPost_24 25 rfl ?_
  refine z_iconst C dX1_byPost_25 26 rfl ?_
  refine z_isub C dX1_byPost_26 27 rfl ?_
  refine z_sipush C (by decide) dX1_byPost_27 30 rfl ?_
  refine z_imul C dX1_byPost_30 31 rfl ?_
  refine z_iload_n C 3 rfl 3 rfl dX1_byPost_31 32 rfl ?_
  refine z_iadd C dX1_byPost_32 33 rfl ?_
  refine z_aload_n C 0 rfl 0 rfl dX1_byPost_33 34 rfl ?_
  refine y_getR C fX1_18 one_1 lay_1_3 dX1_byPost_34 37 rfl ?_
  refine y_getR C fX1_89 lay_1_3.2 (lay_4_0 lay_1_3.2) dX1_byPost_37 40 rfl ?_
  refine z_iload C 4 rfl dX1_byPost_40 42 rfl ?_
  refine y_iald C ((lay_4_0 lay_1_3.2).2) rfl dX1_byPost_42 43 rfl rfl (fun _ => ?_)
  refine z_isub C dX1_byPost_43 44 rfl ?_
  refine y_lald C lay_1_4.2 rfl dX1_byPost_44 45 rfl rfl (fun _ => ?_)
  refine z_ladd C dX1_byPost_45 46 rfl ?_
  exact z_lret C R rfl rfl dX1_byPost_46
-- greatestFor
def gX1_greatestFor_L73 (F : Nat) (σ : St) (x1 : Int) (x2 : Int) (x3 : Int) (c19 : Int → Int → Option (Int)) (x4 : Int) (x6 : Int) : Option (Int) := c19 x4 (x6 + 1)
def gX1_greatestFor_L19 (F : Nat) (σ : St) (x1 : Int) (x2 : Int) (x3 : Int) : Nat → Int → Int → Option (Int)
  | 0, _, _ => none
  | n + 1, x4, x6 => if w32 x6 ≥ w32 (σ 1 5) then some x4 else (gX0_worthAt σ 1 x1 x6).bind fun r1 => if w32 r1 ≤ 0 then gX1_greatestFor_L73 F σ x1 x2 x3 (gX1_greatestFor_L19 F σ x1 x2 x3 n) x4 x6 else (gX4_isOpen σ 52 x3 x6).bind fun r2 => if w32 r2 = 0 then gX1_greatestFor_L73 F σ x1 x2 x3 (gX1_greatestFor_L19 F σ x1 x2 x3 n) x4 x6 else (gX1_byPost σ x1 x2 x3 x6).bind fun r3 => gX1_greatestFor_L73 F σ x1 x2 x3 (gX1_greatestFor_L19 F σ x1 x2 x3 n) (if w64 r3 < w64 x4 then x4 else r3) x6
def gX1_greatestFor (F : Nat) (σ : St) (x1 : Int) (x2 : Int) (x3 : Int) : Option (Int) := gd (0 ≤ w32 (((x2 - 1) * 324) + x3) ∧ w32 (((x2 - 1) * 324) + x3) < 2268) (gX1_greatestFor_L19 F σ x1 x2 x3 F (σ 56 (w32 (((x2 - 1) * 324) + x3))) 0)
def rmX1_greatestFor : Room := { frames := 2, cells := 0, slots := 0, locals := 46 }
set_option maxRecDepth 100000 in
set_option maxHeartbeats 4000000 in
theorem pX1_greatestFor_L73 {X : MX} {G : GG} (C : CX X G 7 cX1_greatestFor RX1) (R : RT X (some .long)) (hR : mR X = rmX1_greatestFor) (F : Nat) (σ : St) (x1 : Int) (x2 : Int) (x3 : Int) (c19 : Int → Int → Option (Int)) (hc19 : ∀ (x4 : Int) (x6 : Int), ZZ X G 7 (QM X G vzJ (wzR σ) (0, 0)) (0, 0) (c19 x4 x6) (w0 σ) 19 [(0, vr G 50), (1, vi x1), (2, vi x2), (3, vi x3), (4, vl x4), (6, vi x6)] []) : ∀ (x4 : Int) (x6 : Int), ZZ X G 7 (QM X G vzJ (wzR σ) (0, 0)) (0, 0) (gX1_greatestFor_L73 F σ x1 x2 x3 c19 x4 x6) (w0 σ) 73 [(0, vr G 50), (1, vi x1), (2, vi x2), (3, vi x3), (4, vl x4), (6, vi x6)] [] := by
  intro x4 x6
  show ZZ X G 7 (QM X G vzJ (wzR σ) (0, 0)) (0, 0) (c19 x4 (x6 + 1)) (w0 σ) 73 [(0, vr G 50), (1, vi x1), (2, vi x2), (3, vi x3), (4, vl x4), (6, vi x6)] []
  refine z_iinc (lv' := [(6, vi (x6 + 1)), (0, vr G 50), (1, vi x1), (2, vi x2), (3, vi x3), (4, vl x4)]) C (by decide) 5 rfl dX1_greatestFor_73 76 rfl rfl ?_
  refine z_goto C dX1_greatestFor_76 19 (by decide) ?_
  refine z_lv (lv' := [(0, vr G 50), (1, vi x1), (2, vi x2), (3, vi x3), (4, vl x4), (6, vi (x6 + 1))]) [1, 2, 3, 4, 5, 0] rfl ?_
  exact hc19 x4 (x6 + 1)
set_option maxRecDepth 100000 in
set_option maxHeartbeats 4000000 in
theorem pX1_greatestFor_L19 {X : MX} {G : GG} (C : CX X G 7 cX1_greatestFor RX1) (R : RT X (some .long)) (hR : mR X = rmX1_greatestFor) (F : Nat) (σ : St) (x1 : Int) (x2 : Int) (x3 : Int)  : ∀ (n : Nat) (x4 : Int) (x6 : Int), ZZ X G 7 (QM X G vzJ (wzR σ) (0, 0)) (0, 0) (gX1_greatestFor_L19 F σ x1 x2 x3 n x4 x6) (w0 σ) 19 [(0, vr G 50), (1, vi x1), (2, vi x2), (3, vi x3), (4, vl x4), (6, vi x6)] [] := by
  intro n
  induction n with
  | zero =>
    intro _ _
    exact z_none
  | succ n ih =>
    intro x4 x6
    show ZZ X G 7 (QM X G vzJ (wzR σ) (0, 0)) (0, 0) (if w32 x6 ≥ w32 (σ 1 5) then some x4 else (gX0_worthAt σ 1 x1 x6).bind fun r1 => if w32 r1 ≤ 0 then gX1_greatestFor_L73 F σ x1 x2 x3 (gX1_greatestFor_L19 F σ x1 x2 x3 n) x4 x6 else (gX4_isOpen σ 52 x3 x6).bind fun r2 => if w32 r2 = 0 then gX1_greatestFor_L73 F σ x1 x2 x3 (gX1_greatestFor_L19 F σ x1 x2 x3 n) x4 x6 else (gX1_byPost σ x1 x2 x3 x6).bind fun r3 => gX1_greatestFor_L73 F σ x1 x2 x3 (gX1_greatestFor_L19 F σ x1 x2 x3 n) (if w64 r3 < w64 x4 then x4 else r3) x6) (w0 σ) 19 [(0, vr G 50), (1, vi x1), (2, vi x2), (3, vi x3), (4, vl x4), (6, vi x6)] []
    refine z_iload C 5 rfl dX1_greatestFor_19 21 rfl ?_
    refine z_aload_n C 0 rfl 0 rfl dX1_greatestFor_21 22 rfl ?_
    refine y_getR C fX1_29 one_1 lay_1_2 dX1_greatestFor_22 25 rfl ?_
    refine y_getI C fX1_68 lay_1_2.2 dX1_greatestFor_25 28 rfl ?_
    refine z_icmp_ge C dX1_greatestFor_28 79 (by decide) 31 rfl rfl rfl (fun _ => ?_) (fun _ => ?_)
    · refine z_lload C 4 rfl dX1_greatestFor_79 81 rfl ?_
      exact z_lret C R rfl rfl dX1_greatestFor_81
    · refine z_aload_n C 0 rfl 0 rfl dX1_greatestFor_31 32 rfl ?_
      refine y_getR C fX1_29 one_1 lay_1_2 dX1_greatestFor_32 35 rfl ?_
      refine z_iload_n C 1 rfl 1 rfl dX1_greatestFor_35 36 rfl ?_
      refine z_iload C 5 rfl dX1_greatestFor_36 38 rfl ?_
      refine y_callVI C hR (tX0_worthAt (mL X) G σ 1 x1 x6 lay_1_2.2) ⟨mwX0_worthAt, mvX0_worthAt, lkX1_71⟩ lay_1_2.2 rfl rfl (Nat.le_of_ble_eq_true rfl) (by unfold rmOK; decide) dX1_greatestFor_38 41 rfl (fun r1 _ => ?_)
      refine z_if_le C dX1_greatestFor_41 73 (by decide) 44 rfl rfl (fun _ => ?_) (fun _ => ?_)
      · exact pX1_greatestFor_L73 C R hR F σ x1 x2 x3 (gX1_greatestFor_L19 F σ x1 x2 x3 n) ih x4 x6
      · refine z_aload_n C 0 rfl 0 rfl dX1_greatestFor_44 45 rfl ?_
        refine y_getR C fX1_18 one_1 lay_1_3 dX1_greatestFor_45 48 rfl ?_
        refine z_iload_n C 3 rfl 3 rfl dX1_greatestFor_48 49 rfl ?_
        refine z_iload C 5 rfl dX1_greatestFor_49 51 rfl ?_
        refine y_callVI C hR (tX4_isOpen (mL X) G σ 52 x3 x6 lay_1_3.2) ⟨mwX4_isOpen, mvX4_isOpen, lkX1_75⟩ lay_1_3.2 rfl rfl (Nat.le_of_ble_eq_true rfl) (by unfold rmOK; decide) dX1_greatestFor_51 54 rfl (fun r2 _ => ?_)
        refine z_if_eq C dX1_greatestFor_54 73 (by decide) 57 rfl rfl (fun _ => ?_) (fun _ => ?_)
        · exact pX1_greatestFor_L73 C R hR F σ x1 x2 x3 (gX1_greatestFor_L19 F σ x1 x2 x3 n) ih x4 x6
        · refine z_lload C 4 rfl dX1_greatestFor_57 59 rfl ?_
          refine z_aload_n C 0 rfl 0 rfl dX1_greatestFor_59 60 rfl ?_
          refine z_iload_n C 1 rfl 1 rfl dX1_greatestFor_60 61 rfl ?_
          refine z_iload_n C 2 rfl 2 rfl dX1_greatestFor_61 62 rfl ?_
          refine z_iload_n C 3 rfl 3 rfl dX1_greatestFor_62 63 rfl ?_
          refine z_iload C 5 rfl dX1_greatestFor_63 65 rfl ?_
          refine y_callVJ C hR (tX1_byPost (mL X) G σ x1 x2 x3 x6) ⟨mwX1_byPost, mvX1_byPost, lkX1_79⟩ one_1 rfl rfl (Nat.le_of_ble_eq_true rfl) (by unfold rmOK; decide) dX1_greatestFor_65 68 rfl (fun r3 _ => ?_)
          refine y_maxJ C hR lkX1_83 (Nat.le_of_ble_eq_true rfl) (by decide) dX1_greatestFor_68 71 rfl ?_
          refine z_lstore (lv' := [(4, vl (if w64 r3 < w64 x4 then x4 else r3)), (0, vr G 50), (1, vi x1), (2, vi x2), (3, vi x3), (6, vi x6)]) C (by decide) dX1_greatestFor_71 73 rfl rfl ?_
          refine z_lv (lv' := [(0, vr G 50), (1, vi x1), (2, vi x2), (3, vi x3), (4, vl (if w64 r3 < w64 x4 then x4 else r3)), (6, vi x6)]) [1, 2, 3, 4, 0, 5] rfl ?_
          exact pX1_greatestFor_L73 C R hR F σ x1 x2 x3 (gX1_greatestFor_L19 F σ x1 x2 x3 n) ih (if w64 r3 < w64 x4 then x4 else r3) x6
set_option maxRecDepth 100000 in
set_option maxHeartbeats 4000000 in
theorem tX1_greatestFor (l : Launch) (G : GG) (F : Nat) (σ : St) (x1 : Int) (x2 : Int) (x3 : Int) : Ctr l G yX1_greatestFor cX1_greatestFor 7 (some .long) rmX1_greatestFor [vr G 50, vi x1, vi x2, vi x3] (w0 σ) vzJ (wzR σ) (gX1_greatestFor F σ x1 x2 x3) := by
  refine ctr_of (by decide) (Nat.le_of_ble_eq_true rfl) mwX1_greatestFor.1 (fun X hl hR C R hnm => ?_)
  subst hl
  refine z_lv (lv' := [(0, vr G 50), (1, vi x1), (2, vi x2), (3, vi x3)]) [0, 1, 2, 3] rfl ?_
  show ZZ X G 7 (QM X G vzJ (wzR σ) (0, 0)) (0, 0) (gd (0 ≤ w32 (((x2 - 1) * 324) + x3) ∧ w32 (((x2 - 1) * 324) + x3) < 2268) (gX1_greatestFor_L19 F σ x1 x2 x3 F (σ 56 (w32 (((x2 - 1) * 324) + x3))) 0)) (w0 σ) 0 [(0, vr G 50), (1, vi x1), (2, vi x2), (3, vi x3)] []
  refine z_aload_n C 0 rfl 0 rfl dX1_greatestFor_0 1 rfl ?_
  refine y_getR C fX1_22 one_1 lay_1_4 dX1_greatestFor_1 4 rfl ?_
  refine z_iload_n C 2 rfl 2 rfl dX1_greatestFor_4 5 rfl ?_
  refine z_iconst C dX1_greatestFor_5 6 rfl ?_
  refine z_isub C dX1_greatestFor_6 7 rfl ?_
  refine z_sipush C (by decide) dX1_greatestFor_7 10 rfl ?_
  refine z_imul C dX1_greatestFor_10 11 rfl ?_
  refine z_iload_n C 3 rfl 3 rfl dX1_greatestFor_11 12 rfl ?_
  refine z_iadd C dX1_greatestFor_12 13 rfl ?_
  refine y_lald C lay_1_4.2 rfl dX1_greatestFor_13 14 rfl rfl (fun _ => ?_)
  refine z_lstore (lv' := [(4, vl (σ 56 (w32 (((x2 - 1) * 324) + x3)))), (0, vr G 50), (1, vi x1), (2, vi x2), (3, vi x3)]) C (by decide) dX1_greatestFor_14 16 rfl rfl ?_
  refine z_iconst C dX1_greatestFor_16 17 rfl ?_
  refine z_istore (lv' := [(6, vi 0), (4, vl (σ 56 (w32 (((x2 - 1) * 324) + x3)))), (0, vr G 50), (1, vi x1), (2, vi x2), (3, vi x3)]) C (by decide) dX1_greatestFor_17 19 rfl rfl ?_
  refine z_lv (lv' := [(0, vr G 50), (1, vi x1), (2, vi x2), (3, vi x3), (4, vl (σ 56 (w32 (((x2 - 1) * 324) + x3)))), (6, vi 0)]) [2, 3, 4, 5, 1, 0] rfl ?_
  exact pX1_greatestFor_L19 C R hR F σ x1 x2 x3 F (σ 56 (w32 (((x2 - 1) * 324) + x3))) 0
-- fill
def gX1_fill_L110 (F : Nat) (x1 : Int) (c18 : Int → Int → St → Option (St)) (x2 : Int) (x3 : Int) (σ : St) : Option (St) := c18 x2 (x3 + 1) σ
def gX1_fill_L53 (F : Nat) (x1 : Int) (c18 : Int → Int → St → Option (St)) : Nat → Int → Int → Int → Int → St → Option (St)
  | 0, _, _, _, _, _ => none
  | n + 1, x2, x3, x4, x6, σ => if w32 x6 ≥ w32 (σ 1 6) then gd (0 ≤ w32 ((x1 * 324) + x3) ∧ w32 ((x1 * 324) + x3) < 2268) (gX1_fill_L110 F x1 c18 x2 x3 (up σ 56 (w32 ((x1 * 324) + x3)) x4)) else gd (0 ≤ w32 x6 ∧ w32 x6 < 9) ((gX1_greatestFor F σ x6 x1 x3).bind fun r1 => gX1_fill_L53 F x1 c18 n x2 x3 (x4 + ((w32 (σ (1 + 4) (w32 x6))) * r1)) (x6 + 1) σ)
def gX1_fill_L18 (F : Nat) (x1 : Int) : Nat → Int → Int → St → Option (St)
  | 0, _, _, _ => none
  | n + 1, x2, x3, σ => if w32 x3 ≥ w32 (σ 52 3) then some σ else gd (0 ≤ w32 x3 ∧ w32 x3 < 486) (if w32 (x2 - (σ (52 + 3) (w32 x3))) > w32 (6 - x1) then gX1_fill_L110 F x1 (gX1_fill_L18 F x1 n) x2 x3 σ else gX1_fill_L53 F x1 (gX1_fill_L18 F x1 n) F x2 x3 0 0 σ)
def gX1_fill (F : Nat) (σ : St) (x1 : Int) : Option (St) := (gX4_allFree σ 52).bind fun r1 => gd (0 ≤ w32 r1 ∧ w32 r1 < 486) (gX1_fill_L18 F x1 F (σ (52 + 3) (w32 r1)) 0 σ)
def rmX1_fill : Room := { frames := 3, cells := 0, slots := 0, locals := 72 }
set_option maxRecDepth 100000 in
set_option maxHeartbeats 4000000 in
theorem pX1_fill_L110 {X : MX} {G : GG} (C : CX X G 7 cX1_fill RX1) (R : RT X none) (hR : mR X = rmX1_fill) (F : Nat) (x1 : Int) (c18 : Int → Int → St → Option (St)) (hc18 : ∀ (x2 : Int) (x3 : Int) (σ : St), ZZ X G 7 (QM X G vzV wzV (0, 0)) (0, 0) (c18 x2 x3 σ) (w0 σ) 18 [(0, vr G 50), (1, vi x1), (2, vi x2), (3, vi x3)] []) : ∀ (x2 : Int) (x3 : Int) (σ : St), ZZ X G 7 (QM X G vzV wzV (0, 0)) (0, 0) (gX1_fill_L110 F x1 c18 x2 x3 σ) (w0 σ) 110 [(0, vr G 50), (1, vi x1), (2, vi x2), (3, vi x3)] [] := by
  intro x2 x3 σ
  show ZZ X G 7 (QM X G vzV wzV (0, 0)) (0, 0) (c18 x2 (x3 + 1) σ) (w0 σ) 110 [(0, vr G 50), (1, vi x1), (2, vi x2), (3, vi x3)] []
  refine z_iinc (lv' := [(3, vi (x3 + 1)), (0, vr G 50), (1, vi x1), (2, vi x2)]) C (by decide) 3 rfl dX1_fill_110 113 rfl rfl ?_
  refine z_goto C dX1_fill_113 18 (by decide) ?_
  refine z_lv (lv' := [(0, vr G 50), (1, vi x1), (2, vi x2), (3, vi (x3 + 1))]) [1, 2, 3, 0] rfl ?_
  exact hc18 x2 (x3 + 1) σ
set_option maxRecDepth 100000 in
set_option maxHeartbeats 4000000 in
theorem pX1_fill_L53 {X : MX} {G : GG} (C : CX X G 7 cX1_fill RX1) (R : RT X none) (hR : mR X = rmX1_fill) (F : Nat) (x1 : Int) (c18 : Int → Int → St → Option (St)) (hc18 : ∀ (x2 : Int) (x3 : Int) (σ : St), ZZ X G 7 (QM X G vzV wzV (0, 0)) (0, 0) (c18 x2 x3 σ) (w0 σ) 18 [(0, vr G 50), (1, vi x1), (2, vi x2), (3, vi x3)] []) : ∀ (n : Nat) (x2 : Int) (x3 : Int) (x4 : Int) (x6 : Int) (σ : St), ZZ X G 7 (QM X G vzV wzV (0, 0)) (0, 0) (gX1_fill_L53 F x1 c18 n x2 x3 x4 x6 σ) (w0 σ) 53 [(0, vr G 50), (1, vi x1), (2, vi x2), (3, vi x3), (4, vl x4), (6, vi x6)] [] := by
  intro n
  induction n with
  | zero =>
    intro _ _ _ _ _
    exact z_none
  | succ n ih =>
    intro x2 x3 x4 x6 σ
    show ZZ X G 7 (QM X G vzV wzV (0, 0)) (0, 0) (if w32 x6 ≥ w32 (σ 1 6) then gd (0 ≤ w32 ((x1 * 324) + x3) ∧ w32 ((x1 * 324) + x3) < 2268) (gX1_fill_L110 F x1 c18 x2 x3 (up σ 56 (w32 ((x1 * 324) + x3)) x4)) else gd (0 ≤ w32 x6 ∧ w32 x6 < 9) ((gX1_greatestFor F σ x6 x1 x3).bind fun r1 => gX1_fill_L53 F x1 c18 n x2 x3 (x4 + ((w32 (σ (1 + 4) (w32 x6))) * r1)) (x6 + 1) σ)) (w0 σ) 53 [(0, vr G 50), (1, vi x1), (2, vi x2), (3, vi x3), (4, vl x4), (6, vi x6)] []
    refine z_iload C 5 rfl dX1_fill_53 55 rfl ?_
    refine z_aload_n C 0 rfl 0 rfl dX1_fill_55 56 rfl ?_
    refine y_getR C fX1_29 one_1 lay_1_2 dX1_fill_56 59 rfl ?_
    refine y_getI C fX1_43 lay_1_2.2 dX1_fill_59 62 rfl ?_
    refine z_icmp_ge C dX1_fill_62 96 (by decide) 65 rfl rfl rfl (fun _ => ?_) (fun _ => ?_)
    · refine z_aload_n C 0 rfl 0 rfl dX1_fill_96 97 rfl ?_
      refine y_getR C fX1_22 one_1 lay_1_4 dX1_fill_97 100 rfl ?_
      refine z_iload_n C 1 rfl 1 rfl dX1_fill_100 101 rfl ?_
      refine z_sipush C (by decide) dX1_fill_101 104 rfl ?_
      refine z_imul C dX1_fill_104 105 rfl ?_
      refine z_iload_n C 3 rfl 3 rfl dX1_fill_105 106 rfl ?_
      refine z_iadd C dX1_fill_106 107 rfl ?_
      refine z_lload C 4 rfl dX1_fill_107 109 rfl ?_
      refine y_last C lay_1_4.2 rfl dX1_fill_109 110 rfl rfl (fun _ => ?_)
      refine z_lv (lv' := [(0, vr G 50), (1, vi x1), (2, vi x2), (3, vi x3)]) [0, 1, 2, 3] rfl ?_
      exact pX1_fill_L110 C R hR F x1 c18 hc18 x2 x3 (up σ 56 (w32 ((x1 * 324) + x3)) x4)
    · refine z_lload C 4 rfl dX1_fill_65 67 rfl ?_
      refine z_aload_n C 0 rfl 0 rfl dX1_fill_67 68 rfl ?_
      refine y_getR C fX1_29 one_1 lay_1_2 dX1_fill_68 71 rfl ?_
      refine y_getR C fX1_46 lay_1_2.2 (lay_0_3 lay_1_2.2) dX1_fill_71 74 rfl ?_
      refine z_iload C 5 rfl dX1_fill_74 76 rfl ?_
      refine y_iald C ((lay_0_3 lay_1_2.2).2) rfl dX1_fill_76 77 rfl rfl (fun _ => ?_)
      refine z_i2l C dX1_fill_77 78 rfl ?_
      refine z_aload_n C 0 rfl 0 rfl dX1_fill_78 79 rfl ?_
      refine z_iload C 5 rfl dX1_fill_79 81 rfl ?_
      refine z_iload_n C 1 rfl 1 rfl dX1_fill_81 82 rfl ?_
      refine z_iload_n C 3 rfl 3 rfl dX1_fill_82 83 rfl ?_
      refine y_callVJ C hR (tX1_greatestFor (mL X) G F σ x6 x1 x3) ⟨mwX1_greatestFor, mvX1_greatestFor, lkX1_64⟩ one_1 rfl rfl (Nat.le_of_ble_eq_true rfl) (by unfold rmOK; decide) dX1_fill_83 86 rfl (fun r1 _ => ?_)
      refine z_lmul C dX1_fill_86 87 rfl ?_
      refine z_ladd C dX1_fill_87 88 rfl ?_
      refine z_lstore (lv' := [(4, vl (x4 + ((w32 (σ (1 + 4) (w32 x6))) * r1))), (0, vr G 50), (1, vi x1), (2, vi x2), (3, vi x3), (6, vi x6)]) C (by decide) dX1_fill_88 90 rfl rfl ?_
      refine z_iinc (lv' := [(6, vi (x6 + 1)), (4, vl (x4 + ((w32 (σ (1 + 4) (w32 x6))) * r1))), (0, vr G 50), (1, vi x1), (2, vi x2), (3, vi x3)]) C (by decide) 5 rfl dX1_fill_90 93 rfl rfl ?_
      refine z_goto C dX1_fill_93 53 (by decide) ?_
      refine z_lv (lv' := [(0, vr G 50), (1, vi x1), (2, vi x2), (3, vi x3), (4, vl (x4 + ((w32 (σ (1 + 4) (w32 x6))) * r1))), (6, vi (x6 + 1))]) [2, 3, 4, 5, 1, 0] rfl ?_
      exact ih x2 x3 (x4 + ((w32 (σ (1 + 4) (w32 x6))) * r1)) (x6 + 1) σ
set_option maxRecDepth 100000 in
set_option maxHeartbeats 4000000 in
theorem pX1_fill_L18 {X : MX} {G : GG} (C : CX X G 7 cX1_fill RX1) (R : RT X none) (hR : mR X = rmX1_fill) (F : Nat) (x1 : Int)  : ∀ (n : Nat) (x2 : Int) (x3 : Int) (σ : St), ZZ X G 7 (QM X G vzV wzV (0, 0)) (0, 0) (gX1_fill_L18 F x1 n x2 x3 σ) (w0 σ) 18 [(0, vr G 50), (1, vi x1), (2, vi x2), (3, vi x3)] [] := by
  intro n
  induction n with
  | zero =>
    intro _ _ _
    exact z_none
  | succ n ih =>
    intro x2 x3 σ
    show ZZ X G 7 (QM X G vzV wzV (0, 0)) (0, 0) (if w32 x3 ≥ w32 (σ 52 3) then some σ else gd (0 ≤ w32 x3 ∧ w32 x3 < 486) (if w32 (x2 - (σ (52 + 3) (w32 x3))) > w32 (6 - x1) then gX1_fill_L110 F x1 (gX1_fill_L18 F x1 n) x2 x3 σ else gX1_fill_L53 F x1 (gX1_fill_L18 F x1 n) F x2 x3 0 0 σ)) (w0 σ) 18 [(0, vr G 50), (1, vi x1), (2, vi x2), (3, vi x3)] []
    refine z_iload_n C 3 rfl 3 rfl dX1_fill_18 19 rfl ?_
    refine z_aload_n C 0 rfl 0 rfl dX1_fill_19 20 rfl ?_
    refine y_getR C fX1_18 one_1 lay_1_3 dX1_fill_20 23 rfl ?_
    refine y_getI C fX1_61 lay_1_3.2 dX1_fill_23 26 rfl ?_
    refine z_icmp_ge C dX1_fill_26 116 (by decide) 29 rfl rfl rfl (fun _ => ?_) (fun _ => ?_)
    · exact z_vret C R rfl rfl dX1_fill_116
    · refine z_iload_n C 2 rfl 2 rfl dX1_fill_29 30 rfl ?_
      refine z_aload_n C 0 rfl 0 rfl dX1_fill_30 31 rfl ?_
      refine y_getR C fX1_18 one_1 lay_1_3 dX1_fill_31 34 rfl ?_
      refine y_getR C fX1_54 lay_1_3.2 (lay_4_2 lay_1_3.2) dX1_fill_34 37 rfl ?_
      refine z_iload_n C 3 rfl 3 rfl dX1_fill_37 38 rfl ?_
      refine y_iald C ((lay_4_2 lay_1_3.2).2) rfl dX1_fill_38 39 rfl rfl (fun _ => ?_)
      refine z_isub C dX1_fill_39 40 rfl ?_
      refine z_bipush C (by decide) dX1_fill_40 42 rfl ?_
      refine z_iload_n C 1 rfl 1 rfl dX1_fill_42 43 rfl ?_
      refine z_isub C dX1_fill_43 44 rfl ?_
      refine z_icmp_gt C dX1_fill_44 110 (by decide) 47 rfl rfl rfl (fun _ => ?_) (fun _ => ?_)
      · exact pX1_fill_L110 C R hR F x1 (gX1_fill_L18 F x1 n) ih x2 x3 σ
      · refine z_lconst (v := 0) C (by decide) dX1_fill_47 48 rfl ?_
        refine z_lstore (lv' := [(4, vl 0), (0, vr G 50), (1, vi x1), (2, vi x2), (3, vi x3)]) C (by decide) dX1_fill_48 50 rfl rfl ?_
        refine z_iconst C dX1_fill_50 51 rfl ?_
        refine z_istore (lv' := [(6, vi 0), (4, vl 0), (0, vr G 50), (1, vi x1), (2, vi x2), (3, vi x3)]) C (by decide) dX1_fill_51 53 rfl rfl ?_
        refine z_lv (lv' := [(0, vr G 50), (1, vi x1), (2, vi x2), (3, vi x3), (4, vl 0), (6, vi 0)]) [2, 3, 4, 5, 1, 0] rfl ?_
        exact pX1_fill_L53 C R hR F x1 (gX1_fill_L18 F x1 n) ih F x2 x3 0 0 σ
set_option maxRecDepth 100000 in
set_option maxHeartbeats 4000000 in
theorem tX1_fill (l : Launch) (G : GG) (F : Nat) (σ : St) (x1 : Int) : Ctr l G yX1_fill cX1_fill 7 none rmX1_fill [vr G 50, vi x1] (w0 σ) vzV wzV (gX1_fill F σ x1) := by
  refine ctr_of (by decide) (Nat.le_of_ble_eq_true rfl) mwX1_fill.1 (fun X hl hR C R hnm => ?_)
  subst hl
  refine z_lv (lv' := [(0, vr G 50), (1, vi x1)]) [0, 1] rfl ?_
  show ZZ X G 7 (QM X G vzV wzV (0, 0)) (0, 0) ((gX4_allFree σ 52).bind fun r1 => gd (0 ≤ w32 r1 ∧ w32 r1 < 486) (gX1_fill_L18 F x1 F (σ (52 + 3) (w32 r1)) 0 σ)) (w0 σ) 0 [(0, vr G 50), (1, vi x1)] []
  refine z_aload_n C 0 rfl 0 rfl dX1_fill_0 1 rfl ?_
  refine y_getR C fX1_18 one_1 lay_1_3 dX1_fill_1 4 rfl ?_
  refine y_getR C fX1_54 lay_1_3.2 (lay_4_2 lay_1_3.2) dX1_fill_4 7 rfl ?_
  refine z_aload_n C 0 rfl 0 rfl dX1_fill_7 8 rfl ?_
  refine y_getR C fX1_18 one_1 lay_1_3 dX1_fill_8 11 rfl ?_
  refine y_callVI C hR (tX4_allFree (mL X) G σ 52 lay_1_3.2) ⟨mwX4_allFree, mvX4_allFree, lkX1_57⟩ lay_1_3.2 rfl rfl (Nat.le_of_ble_eq_true rfl) (by unfold rmOK; decide) dX1_fill_11 14 rfl (fun r1 _ => ?_)
  refine y_iald C ((lay_4_2 lay_1_3.2).2) rfl dX1_fill_14 15 rfl rfl (fun _ => ?_)
  refine z_istore_n (lv' := [(2, vi (σ (52 + 3) (w32 r1))), (0, vr G 50), (1, vi x1)]) C 2 rfl (by decide) dX1_fill_15 16 rfl rfl ?_
  refine z_iconst C dX1_fill_16 17 rfl ?_
  refine z_istore_n (lv' := [(3, vi 0), (2, vi (σ (52 + 3) (w32 r1))), (0, vr G 50), (1, vi x1)]) C 3 rfl (by decide) dX1_fill_17 18 rfl rfl ?_
  refine z_lv (lv' := [(0, vr G 50), (1, vi x1), (2, vi (σ (52 + 3) (w32 r1))), (3, vi 0)]) [2, 3, 1, 0] rfl ?_
  exact pX1_fill_L18 C R hR F x1 F (σ (52 + 3) (w32 r1)) 0 σ
-- bringUp
def gX1_bringUp_L90 (F : Nat) : Nat → Int → St → Option (St)
  | 0, _, _ => none
  | n + 1, x1, σ => if w32 x1 > 6 then some σ else gd (0 ≤ w32 (x1 - 1) ∧ w32 (x1 - 1) < 7) (gd (0 ≤ w32 x1 ∧ w32 x1 < 7) ((gX1_fill F (up σ 51 (w32 x1) ((σ 51 (w32 (x1 - 1))) * (w32 (σ 50 1)))) x1).bind fun r1 => gX1_bringUp_L90 F n (x1 + 1) r1))
def gX1_bringUp_L46 (F : Nat) : Nat → Int → St → Option (St)
  | 0, _, _ => none
  | n + 1, x1, σ => if w32 x1 ≥ w32 (σ 1 6) then gd (0 ≤ 0 ∧ 0 < 7) (gX1_bringUp_L90 F F 1 (up σ 51 0 1)) else gd (0 ≤ w32 x1 ∧ w32 x1 < 9) (gX1_bringUp_L46 F n (x1 + 1) (up σ 50 1 ((σ 50 1) + (σ (1 + 4) (w32 x1)))))
def gX1_bringUp (F : Nat) (σ : St) : Option (St) := if w32 (σ 50 5) ≠ w32 (σ 1 7) then (gX4_shape F (up σ 50 5 (σ 1 7)) 52 1 ((-4))).bind fun r1 => gX1_bringUp_L46 F F 0 (up r1 50 1 0) else some σ
def rmX1_bringUp : Room := { frames := 4, cells := 0, slots := 0, locals := 98 }
set_option maxRecDepth 100000 in
set_option maxHeartbeats 4000000 in
theorem pX1_bringUp_L90 {X : MX} {G : GG} (C : CX X G 2 cX1_bringUp RX1) (R : RT X none) (hR : mR X = rmX1_bringUp) (F : Nat)  : ∀ (n : Nat) (x1 : Int) (σ : St), ZZ X G 2 (QM X G vzV wzV (0, 0)) (0, 0) (gX1_bringUp_L90 F n x1 σ) (w0 σ) 90 [(0, vr G 50), (1, vi x1)] [] := by
  intro n
  induction n with
  | zero =>
    intro _ _
    exact z_none
  | succ n ih =>
    intro x1 σ
    show ZZ X G 2 (QM X G vzV wzV (0, 0)) (0, 0) (if w32 x1 > 6 then some σ else gd (0 ≤ w32 (x1 - 1) ∧ w32 (x1 - 1) < 7) (gd (0 ≤ w32 x1 ∧ w32 x1 < 7) ((gX1_fill F (up σ 51 (w32 x1) ((σ 51 (w32 (x1 - 1))) * (w32 (σ 50 1)))) x1).bind fun r1 => gX1_bringUp_L90 F n (x1 + 1) r1))) (w0 σ) 90 [(0, vr G 50), (1, vi x1)] []
    refine z_iload_n C 1 rfl 1 rfl dX1_bringUp_90 91 rfl ?_
    refine z_bipush C (by decide) dX1_bringUp_91 93 rfl ?_
    refine z_icmp_gt C dX1_bringUp_93 127 (by decide) 96 rfl rfl (w32_id (a := 6) (by decide)) (fun _ => ?_) (fun _ => ?_)
    · exact z_vret C R rfl rfl dX1_bringUp_127
    · refine z_aload_n C 0 rfl 0 rfl dX1_bringUp_96 97 rfl ?_
      refine y_getR C fX1_9 one_1 lay_1_0 dX1_bringUp_97 100 rfl ?_
      refine z_iload_n C 1 rfl 1 rfl dX1_bringUp_100 101 rfl ?_
      refine z_aload_n C 0 rfl 0 rfl dX1_bringUp_101 102 rfl ?_
      refine y_getR C fX1_9 one_1 lay_1_0 dX1_bringUp_102 105 rfl ?_
      refine z_iload_n C 1 rfl 1 rfl dX1_bringUp_105 106 rfl ?_
      refine z_iconst C dX1_bringUp_106 107 rfl ?_
      refine z_isub C dX1_bringUp_107 108 rfl ?_
      refine y_lald C lay_1_0.2 rfl dX1_bringUp_108 109 rfl rfl (fun _ => ?_)
      refine z_aload_n C 0 rfl 0 rfl dX1_bringUp_109 110 rfl ?_
      refine y_getI C fX1_40 one_1 dX1_bringUp_110 113 rfl ?_
      refine z_i2l C dX1_bringUp_113 114 rfl ?_
      refine z_lmul C dX1_bringUp_114 115 rfl ?_
      refine y_last C lay_1_0.2 rfl dX1_bringUp_115 116 rfl rfl (fun _ => ?_)
      refine z_aload_n C 0 rfl 0 rfl dX1_bringUp_116 117 rfl ?_
      refine z_iload_n C 1 rfl 1 rfl dX1_bringUp_117 118 rfl ?_
      refine y_callVv C hR (tX1_fill (mL X) G F (up σ 51 (w32 x1) ((σ 51 (w32 (x1 - 1))) * (w32 (σ 50 1)))) x1) ⟨mwX1_fill, mvX1_fill, lkX1_50⟩ one_1 rfl rfl (Nat.le_of_ble_eq_true rfl) (by unfold rmOK; decide) dX1_bringUp_118 121 rfl (fun r1 _ => ?_)
      refine z_iinc (lv' := [(1, vi (x1 + 1)), (0, vr G 50)]) C (by decide) 1 rfl dX1_bringUp_121 124 rfl rfl ?_
      refine z_goto C dX1_bringUp_124 90 (by decide) ?_
      refine z_lv (lv' := [(0, vr G 50), (1, vi (x1 + 1))]) [1, 0] rfl ?_
      exact ih (x1 + 1) r1
set_option maxRecDepth 100000 in
set_option maxHeartbeats 4000000 in
theorem pX1_bringUp_L46 {X : MX} {G : GG} (C : CX X G 2 cX1_bringUp RX1) (R : RT X none) (hR : mR X = rmX1_bringUp) (F : Nat)  : ∀ (n : Nat) (x1 : Int) (σ : St), ZZ X G 2 (QM X G vzV wzV (0, 0)) (0, 0) (gX1_bringUp_L46 F n x1 σ) (w0 σ) 46 [(0, vr G 50), (1, vi x1)] [] := by
  intro n
  induction n with
  | zero =>
    intro _ _
    exact z_none
  | succ n ih =>
    intro x1 σ
    show ZZ X G 2 (QM X G vzV wzV (0, 0)) (0, 0) (if w32 x1 ≥ w32 (σ 1 6) then gd (0 ≤ 0 ∧ 0 < 7) (gX1_bringUp_L90 F F 1 (up σ 51 0 1)) else gd (0 ≤ w32 x1 ∧ w32 x1 < 9) (gX1_bringUp_L46 F n (x1 + 1) (up σ 50 1 ((σ 50 1) + (σ (1 + 4) (w32 x1)))))) (w0 σ) 46 [(0, vr G 50), (1, vi x1)] []
    refine z_iload_n C 1 rfl 1 rfl dX1_bringUp_46 47 rfl ?_
    refine z_aload_n C 0 rfl 0 rfl dX1_bringUp_47 48 rfl ?_
    refine y_getR C fX1_29 one_1 lay_1_2 dX1_bringUp_48 51 rfl ?_
    refine y_getI C fX1_43 lay_1_2.2 dX1_bringUp_51 54 rfl ?_
    refine z_icmp_ge C dX1_bringUp_54 81 (by decide) 57 rfl rfl rfl (fun _ => ?_) (fun _ => ?_)
    · refine z_aload_n C 0 rfl 0 rfl dX1_bringUp_81 82 rfl ?_
      refine y_getR C fX1_9 one_1 lay_1_0 dX1_bringUp_82 85 rfl ?_
      refine z_iconst C dX1_bringUp_85 86 rfl ?_
      refine z_lconst (v := 1) C (by decide) dX1_bringUp_86 87 rfl ?_
      refine y_last C lay_1_0.2 rfl dX1_bringUp_87 88 rfl (w32_id (a := 0) (by decide)) (fun _ => ?_)
      refine z_iconst C dX1_bringUp_88 89 rfl ?_
      refine z_istore_n (lv' := [(1, vi 1), (0, vr G 50)]) C 1 rfl (by decide) dX1_bringUp_89 90 rfl rfl ?_
      refine z_lv (lv' := [(0, vr G 50), (1, vi 1)]) [1, 0] rfl ?_
      exact pX1_bringUp_L90 C R hR F F 1 (up σ 51 0 1)
    · refine z_aload_n C 0 rfl 0 rfl dX1_bringUp_57 58 rfl ?_
      refine z_dup C rfl dX1_bringUp_58 59 rfl ?_
      refine y_getI C fX1_40 one_1 dX1_bringUp_59 62 rfl ?_
      refine z_aload_n C 0 rfl 0 rfl dX1_bringUp_62 63 rfl ?_
      refine y_getR C fX1_29 one_1 lay_1_2 dX1_bringUp_63 66 rfl ?_
      refine y_getR C fX1_46 lay_1_2.2 (lay_0_3 lay_1_2.2) dX1_bringUp_66 69 rfl ?_
      refine z_iload_n C 1 rfl 1 rfl dX1_bringUp_69 70 rfl ?_
      refine y_iald C ((lay_0_3 lay_1_2.2).2) rfl dX1_bringUp_70 71 rfl rfl (fun _ => ?_)
      refine z_iadd C dX1_bringUp_71 72 rfl ?_
      refine y_putI C fX1_40 one_1 ⟨rfl, rfl⟩ dX1_bringUp_72 75 rfl ?_
      refine z_iinc (lv' := [(1, vi (x1 + 1)), (0, vr G 50)]) C (by decide) 1 rfl dX1_bringUp_75 78 rfl rfl ?_
      refine z_goto C dX1_bringUp_78 46 (by decide) ?_
      refine z_lv (lv' := [(0, vr G 50), (1, vi (x1 + 1))]) [1, 0] rfl ?_
      exact ih (x1 + 1) (up σ 50 1 ((σ 50 1) + (σ (1 + 4) (w32 x1))))
set_option maxRecDepth 100000 in
set_option maxHeartbeats 4000000 in
theorem tX1_bringUp (l : Launch) (G : GG) (F : Nat) (σ : St) : Ctr l G yX1_bringUp cX1_bringUp 2 none rmX1_bringUp [vr G 50] (w0 σ) vzV wzV (gX1_bringUp F σ) := by
  refine ctr_of (by decide) (Nat.le_of_ble_eq_true rfl) mwX1_bringUp.1 (fun X hl hR C R hnm => ?_)
  subst hl
  refine z_lv (lv' := [(0, vr G 50)]) [0] rfl ?_
  show ZZ X G 2 (QM X G vzV wzV (0, 0)) (0, 0) (if w32 (σ 50 5) ≠ w32 (σ 1 7) then (gX4_shape F (up σ 50 5 (σ 1 7)) 52 1 ((-4))).bind fun r1 => gX1_bringUp_L46 F F 0 (up r1 50 1 0) else some σ) (w0 σ) 0 [(0, vr G 50)] []
  refine z_aload_n C 0 rfl 0 rfl dX1_bringUp_0 1 rfl ?_
  refine y_getI C fX1_25 one_1 dX1_bringUp_1 4 rfl ?_
  refine z_aload_n C 0 rfl 0 rfl dX1_bringUp_4 5 rfl ?_
  refine y_getR C fX1_29 one_1 lay_1_2 dX1_bringUp_5 8 rfl ?_
  refine y_getI C fX1_33 lay_1_2.2 dX1_bringUp_8 11 rfl ?_
  refine z_icmp_ne C dX1_bringUp_11 15 (by decide) 14 rfl rfl rfl (fun _ => ?_) (fun _ => ?_)
  · refine z_aload_n C 0 rfl 0 rfl dX1_bringUp_15 16 rfl ?_
    refine z_aload_n C 0 rfl 0 rfl dX1_bringUp_16 17 rfl ?_
    refine y_getR C fX1_29 one_1 lay_1_2 dX1_bringUp_17 20 rfl ?_
    refine y_getI C fX1_33 lay_1_2.2 dX1_bringUp_20 23 rfl ?_
    refine y_putI C fX1_25 one_1 ⟨rfl, rfl⟩ dX1_bringUp_23 26 rfl ?_
    refine z_aload_n C 0 rfl 0 rfl dX1_bringUp_26 27 rfl ?_
    refine y_getR C fX1_18 one_1 lay_1_3 dX1_bringUp_27 30 rfl ?_
    refine z_aload_n C 0 rfl 0 rfl dX1_bringUp_30 31 rfl ?_
    refine y_getR C fX1_29 one_1 lay_1_2 dX1_bringUp_31 34 rfl ?_
    refine z_bipush C (by decide) dX1_bringUp_34 36 rfl ?_
    refine y_callVv C hR (tX4_shape (mL X) G F (up σ 50 5 (σ 1 7)) 52 1 ((-4)) lay_1_3.2 lay_1_2.2) ⟨mwX4_shape, mvX4_shape, lkX1_36⟩ lay_1_3.2 rfl rfl (Nat.le_of_ble_eq_true rfl) (by unfold rmOK; decide) dX1_bringUp_36 39 rfl (fun r1 _ => ?_)
    refine z_aload_n C 0 rfl 0 rfl dX1_bringUp_39 40 rfl ?_
    refine z_iconst C dX1_bringUp_40 41 rfl ?_
    refine y_putI C fX1_40 one_1 ⟨rfl, rfl⟩ dX1_bringUp_41 44 rfl ?_
    refine z_iconst C dX1_bringUp_44 45 rfl ?_
    refine z_istore_n (lv' := [(1, vi 0), (0, vr G 50)]) C 1 rfl (by decide) dX1_bringUp_45 46 rfl rfl ?_
    refine z_lv (lv' := [(0, vr G 50), (1, vi 0)]) [1, 0] rfl ?_
    exact pX1_bringUp_L46 C R hR F F 0 (up r1 50 1 0)
  · exact z_vret C R rfl rfl dX1_bringUp_14
-- atStart
def gX1_atStart (σ : St) (x1 : Int) : Option (Int) := (gX4_allFree σ 52).bind fun r1 => gd (0 ≤ w32 ((x1 * 324) + r1) ∧ w32 ((x1 * 324) + r1) < 2268) (some (σ 56 (w32 ((x1 * 324) + r1))))
def rmX1_atStart : Room := { frames := 1, cells := 0, slots := 0, locals := 20 }
set_option maxRecDepth 100000 in
set_option maxHeartbeats 4000000 in
theorem tX1_atStart (l : Launch) (G : GG) (σ : St) (x1 : Int) : Ctr l G yX1_atStart cX1_atStart 2 (some .long) rmX1_atStart [vr G 50, vi x1] (w0 σ) vzJ (wzR σ) (gX1_atStart σ x1) := by
  refine ctr_of (by decide) (Nat.le_of_ble_eq_true rfl) mwX1_atStart.1 (fun X hl hR C R hnm => ?_)
  subst hl
  refine z_lv (lv' := [(0, vr G 50), (1, vi x1)]) [0, 1] rfl ?_
  show ZZ X G 2 (QM X G vzJ (wzR σ) (0, 0)) (0, 0) ((gX4_allFree σ 52).bind fun r1 => gd (0 ≤ w32 ((x1 * 324) + r1) ∧ w32 ((x1 * 324) + r1) < 2268) (some (σ 56 (w32 ((x1 * 324) + r1))))) (w0 σ) 0 [(0, vr G 50), (1, vi x1)] []
  refine z_aload_n C 0 rfl 0 rfl dX1_atStart_0 1 rfl ?_
  refine y_getR C fX1_22 one_1 lay_1_4 dX1_atStart_1 4 rfl ?_
  refine z_iload_n C 1 rfl 1 rfl dX1_atStart_4 5 rfl ?_
  refine z_sipush C (by decide) dX1_atStart_5 8 rfl ?_
  refine z_imul C dX1_atStart_8 9 rfl ?_
  refine z_aload_n C 0 rfl 0 rfl dX1_atStart_9 10 rfl ?_
  refine y_getR C fX1_18 one_1 lay_1_3 dX1_atStart_10 13 rfl ?_
  refine y_callVI C hR (tX4_allFree (mL X) G σ 52 lay_1_3.2) ⟨mwX4_allFree, mvX4_allFree, lkX1_57⟩ lay_1_3.2 rfl rfl (Nat.le_of_ble_eq_true rfl) (by unfold rmOK; decide) dX1_atStart_13 16 rfl (fun r1 _ => ?_)
  refine z_iadd C dX1_atStart_16 17 rfl ?_
  refine y_lald C lay_1_4.2 rfl dX1_atStart_17 18 rfl rfl (fun _ => ?_)
  exact z_lret C R rfl rfl dX1_atStart_18
-- firstPost
def gX1_firstPost_L63 (F : Nat) (σ : St) (x1 : Int) (x2 : Int) (c20 : Int → Int → Int → Option (Int)) (x3 : Int) (x4 : Int) (x6 : Int) : Option (Int) := c20 x3 x4 (x6 + 1)
def gX1_firstPost_L20 (F : Nat) (σ : St) (x1 : Int) (x2 : Int) : Nat → Int → Int → Int → Option (Int)
  | 0, _, _, _ => none
  | n + 1, x3, x4, x6 => if w32 x6 ≥ w32 (σ 1 5) then some ((-4)) else (gX0_worthAt σ 1 x1 x6).bind fun r1 => if w32 r1 ≤ 0 then gX1_firstPost_L63 F σ x1 x2 (gX1_firstPost_L20 F σ x1 x2 n) x3 x4 x6 else (gX1_byPost σ x1 x2 x3 x6).bind fun r2 => if w64 r2 ≠ w64 x4 then gX1_firstPost_L63 F σ x1 x2 (gX1_firstPost_L20 F σ x1 x2 n) x3 x4 x6 else some x6
def gX1_firstPost (F : Nat) (σ : St) (x1 : Int) (x2 : Int) : Option (Int) := (gX4_allFree σ 52).bind fun r1 => (gX1_greatestFor F σ x1 x2 r1).bind fun r2 => gX1_firstPost_L20 F σ x1 x2 F r1 r2 0
def rmX1_firstPost : Room := { frames := 3, cells := 0, slots := 0, locals := 72 }
set_option maxRecDepth 100000 in
set_option maxHeartbeats 4000000 in
theorem pX1_firstPost_L63 {X : MX} {G : GG} (C : CX X G 7 cX1_firstPost RX1) (R : RT X (some .int)) (hR : mR X = rmX1_firstPost) (F : Nat) (σ : St) (x1 : Int) (x2 : Int) (c20 : Int → Int → Int → Option (Int)) (hc20 : ∀ (x3 : Int) (x4 : Int) (x6 : Int), ZZ X G 7 (QM X G vzI (wzR σ) (0, 0)) (0, 0) (c20 x3 x4 x6) (w0 σ) 20 [(0, vr G 50), (1, vi x1), (2, vi x2), (3, vi x3), (4, vl x4), (6, vi x6)] []) : ∀ (x3 : Int) (x4 : Int) (x6 : Int), ZZ X G 7 (QM X G vzI (wzR σ) (0, 0)) (0, 0) (gX1_firstPost_L63 F σ x1 x2 c20 x3 x4 x6) (w0 σ) 63 [(0, vr G 50), (1, vi x1), (2, vi x2), (3, vi x3), (4, vl x4), (6, vi x6)] [] := by
  intro x3 x4 x6
  show ZZ X G 7 (QM X G vzI (wzR σ) (0, 0)) (0, 0) (c20 x3 x4 (x6 + 1)) (w0 σ) 63 [(0, vr G 50), (1, vi x1), (2, vi x2), (3, vi x3), (4, vl x4), (6, vi x6)] []
  refine z_iinc (lv' := [(6, vi (x6 + 1)), (0, vr G 50), (1, vi x1), (2, vi x2), (3, vi x3), (4, vl x4)]) C (by decide) 5 rfl dX1_firstPost_63 66 rfl rfl ?_
  refine z_goto C dX1_firstPost_66 20 (by decide) ?_
  refine z_lv (lv' := [(0, vr G 50), (1, vi x1), (2, vi x2), (3, vi x3), (4, vl x4), (6, vi (x6 + 1))]) [1, 2, 3, 4, 5, 0] rfl ?_
  exact hc20 x3 x4 (x6 + 1)
set_option maxRecDepth 100000 in
set_option maxHeartbeats 4000000 in
theorem pX1_firstPost_L20 {X : MX} {G : GG} (C : CX X G 7 cX1_firstPost RX1) (R : RT X (some .int)) (hR : mR X = rmX1_firstPost) (F : Nat) (σ : St) (x1 : Int) (x2 : Int)  : ∀ (n : Nat) (x3 : Int) (x4 : Int) (x6 : Int), ZZ X G 7 (QM X G vzI (wzR σ) (0, 0)) (0, 0) (gX1_firstPost_L20 F σ x1 x2 n x3 x4 x6) (w0 σ) 20 [(0, vr G 50), (1, vi x1), (2, vi x2), (3, vi x3), (4, vl x4), (6, vi x6)] [] := by
  intro n
  induction n with
  | zero =>
    intro _ _ _
    exact z_none
  | succ n ih =>
    intro x3 x4 x6
    show ZZ X G 7 (QM X G vzI (wzR σ) (0, 0)) (0, 0) (if w32 x6 ≥ w32 (σ 1 5) then some ((-4)) else (gX0_worthAt σ 1 x1 x6).bind fun r1 => if w32 r1 ≤ 0 then gX1_firstPost_L63 F σ x1 x2 (gX1_firstPost_L20 F σ x1 x2 n) x3 x4 x6 else (gX1_byPost σ x1 x2 x3 x6).bind fun r2 => if w64 r2 ≠ w64 x4 then gX1_firstPost_L63 F σ x1 x2 (gX1_firstPost_L20 F σ x1 x2 n) x3 x4 x6 else some x6) (w0 σ) 20 [(0, vr G 50), (1, vi x1), (2, vi x2), (3, vi x3), (4, vl x4), (6, vi x6)] []
    refine z_iload C 5 rfl dX1_firstPost_20 22 rfl ?_
    refine z_aload_n C 0 rfl 0 rfl dX1_firstPost_22 23 rfl ?_
    refine y_getR C fX1_29 one_1 lay_1_2 dX1_firstPost_23 26 rfl ?_
    refine y_getI C fX1_68 lay_1_2.2 dX1_firstPost_26 29 rfl ?_
    refine z_icmp_ge C dX1_firstPost_29 69 (by decide) 32 rfl rfl rfl (fun _ => ?_) (fun _ => ?_)
    · refine z_bipush C (by decide) dX1_firstPost_69 71 rfl ?_
      exact z_iret C R rfl rfl dX1_firstPost_71
    · refine z_aload_n C 0 rfl 0 rfl dX1_firstPost_32 33 rfl ?_
      refine y_getR C fX1_29 one_1 lay_1_2 dX1_firstPost_33 36 rfl ?_
      refine z_iload_n C 1 rfl 1 rfl dX1_firstPost_36 37 rfl ?_
      refine z_iload C 5 rfl dX1_firstPost_37 39 rfl ?_
      refine y_callVI C hR (tX0_worthAt (mL X) G σ 1 x1 x6 lay_1_2.2) ⟨mwX0_worthAt, mvX0_worthAt, lkX1_71⟩ lay_1_2.2 rfl rfl (Nat.le_of_ble_eq_true rfl) (by unfold rmOK; decide) dX1_firstPost_39 42 rfl (fun r1 _ => ?_)
      refine z_if_le C dX1_firstPost_42 63 (by decide) 45 rfl rfl (fun _ => ?_) (fun _ => ?_)
      · exact pX1_firstPost_L63 C R hR F σ x1 x2 (gX1_firstPost_L20 F σ x1 x2 n) ih x3 x4 x6
      · refine z_aload_n C 0 rfl 0 rfl dX1_firstPost_45 46 rfl ?_
        refine z_iload_n C 1 rfl 1 rfl dX1_firstPost_46 47 rfl ?_
        refine z_iload_n C 2 rfl 2 rfl dX1_firstPost_47 48 rfl ?_
        refine z_iload_n C 3 rfl 3 rfl dX1_firstPost_48 49 rfl ?_
        refine z_iload C 5 rfl dX1_firstPost_49 51 rfl ?_
        refine y_callVJ C hR (tX1_byPost (mL X) G σ x1 x2 x3 x6) ⟨mwX1_byPost, mvX1_byPost, lkX1_79⟩ one_1 rfl rfl (Nat.le_of_ble_eq_true rfl) (by unfold rmOK; decide) dX1_firstPost_51 54 rfl (fun r2 _ => ?_)
        refine z_lload C 4 rfl dX1_firstPost_54 56 rfl ?_
        refine z_lif_ne C dX1_firstPost_56 57 rfl dX1_firstPost_57 63 (by decide) 60 rfl rfl rfl (fun _ => ?_) (fun _ => ?_)
        · exact pX1_firstPost_L63 C R hR F σ x1 x2 (gX1_firstPost_L20 F σ x1 x2 n) ih x3 x4 x6
        · refine z_iload C 5 rfl dX1_firstPost_60 62 rfl ?_
          exact z_iret C R rfl rfl dX1_firstPost_62
set_option maxRecDepth 100000 in
set_option maxHeartbeats 4000000 in
theorem tX1_firstPost (l : Launch) (G : GG) (F : Nat) (σ : St) (x1 : Int) (x2 : Int) : Ctr l G yX1_firstPost cX1_firstPost 7 (some .int) rmX1_firstPost [vr G 50, vi x1, vi x2] (w0 σ) vzI (wzR σ) (gX1_firstPost F σ x1 x2) := by
  refine ctr_of (by decide) (Nat.le_of_ble_eq_true rfl) mwX1_firstPost.1 (fun X hl hR C R hnm => ?_)
  subst hl
  refine z_lv (lv' := [(0, vr G 50), (1, vi x1), (2, vi x2)]) [0, 1, 2] rfl ?_
  show ZZ X G 7 (QM X G vzI (wzR σ) (0, 0)) (0, 0) ((gX4_allFree σ 52).bind fun r1 => (gX1_greatestFor F σ x1 x2 r1).bind fun r2 => gX1_firstPost_L20 F σ x1 x2 F r1 r2 0) (w0 σ) 0 [(0, vr G 50), (1, vi x1), (2, vi x2)] []
  refine z_aload_n C 0 rfl 0 rfl dX1_firstPost_0 1 rfl ?_
  refine y_getR C fX1_18 one_1 lay_1_3 dX1_firstPost_1 4 rfl ?_
  refine y_callVI C hR (tX4_allFree (mL X) G σ 52 lay_1_3.2) ⟨mwX4_allFree, mvX4_allFree, lkX1_57⟩ lay_1_3.2 rfl rfl (Nat.le_of_ble_eq_true rfl) (by unfold rmOK; decide) dX1_firstPost_4 7 rfl (fun r1 _ => ?_)
  refine z_istore_n (lv' := [(3, vi r1), (0, vr G 50), (1, vi x1), (2, vi x2)]) C 3 rfl (by decide) dX1_firstPost_7 8 rfl rfl ?_
  refine z_aload_n C 0 rfl 1 rfl dX1_firstPost_8 9 rfl ?_
  refine z_iload_n C 1 rfl 2 rfl dX1_firstPost_9 10 rfl ?_
  refine z_iload_n C 2 rfl 3 rfl dX1_firstPost_10 11 rfl ?_
  refine z_iload_n C 3 rfl 0 rfl dX1_firstPost_11 12 rfl ?_
  refine y_callVJ C hR (tX1_greatestFor (mL X) G F σ x1 x2 r1) ⟨mwX1_greatestFor, mvX1_greatestFor, lkX1_64⟩ one_1 rfl rfl (Nat.le_of_ble_eq_true rfl) (by unfold rmOK; decide) dX1_firstPost_12 15 rfl (fun r2 _ => ?_)
  refine z_lstore (lv' := [(4, vl r2), (3, vi r1), (0, vr G 50), (1, vi x1), (2, vi x2)]) C (by decide) dX1_firstPost_15 17 rfl rfl ?_
  refine z_iconst C dX1_firstPost_17 18 rfl ?_
  refine z_istore (lv' := [(6, vi 0), (4, vl r2), (3, vi r1), (0, vr G 50), (1, vi x1), (2, vi x2)]) C (by decide) dX1_firstPost_18 20 rfl rfl ?_
  refine z_lv (lv' := [(0, vr G 50), (1, vi x1), (2, vi x2), (3, vi r1), (4, vl r2), (6, vi 0)]) [3, 4, 5, 2, 1, 0] rfl ?_
  exact pX1_firstPost_L20 C R hR F σ x1 x2 F r1 r2 0
