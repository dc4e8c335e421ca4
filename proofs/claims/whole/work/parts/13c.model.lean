-- runBy
def gX11_runBy_L27 (F : Nat) (x1 : Int) (x2 : Int) : Nat → Int → Int → Int → St → Option (Int × St)
  | 0, _, _, _, _ => none
  | n + 1, x3, x4, x5, σ => if w32 x5 < 0 then if w32 x3 > 0 then some ((-1), σ) else if w32 x4 = w32 ((ishl 1 (σ 143 4)) - 1) then (gX11_loadMain F σ).bind fun r1 => (gX11_runByOrder F r1 x1).bind fun r2 => some (r2.1, r2.2) else some ((-1), σ) else gd (w32 10 ≠ 0) (gd (0 ≤ w32 x5 ∧ w32 x5 < 9) (gd (w32 10 ≠ 0) (gd (0 ≤ w32 x5 ∧ w32 x5 < 9) (gX11_runBy_L27 F x1 x2 n (idv x3 10) (ior x4 (ishl 1 ((up σ 166 (w32 x5) (irm x3 10)) 166 (w32 x5)))) (x5 + (-1)) (up σ 166 (w32 x5) (irm x3 10))))))
def gX11_runBy (F : Nat) (σ : St) (x1 : Int) (x2 : Int) : Option (Int × St) := (gX11_isRule σ x1).bind fun r1 => if w32 r1 = 0 then some ((-1), σ) else if w32 x2 ≥ 0 then gX11_runBy_L27 F x1 x2 F x2 0 ((σ 143 4) - 1) σ else some ((-1), σ)
def rmX11_runBy : Room := { frames := 5, cells := 0, slots := 0, locals := 121 }
set_option maxRecDepth 100000 in
set_option maxHeartbeats 4000000 in
theorem pX11_runBy_L27 {X : MX} {G : GG} (C : CX X G 6 cX11_runBy RX11) (R : RT X (some .int)) (hR : mR X = rmX11_runBy) (F : Nat) (x1 : Int) (x2 : Int)  : ∀ (n : Nat) (x3 : Int) (x4 : Int) (x5 : Int) (σ : St), ZZ X G 6 (QM X G vzIw wzW (0, 0)) (0, 0) (gX11_runBy_L27 F x1 x2 n x3 x4 x5 σ) (w0 σ) 27 [(0, vr G 143), (1, vi x1), (3, vi x3), (4, vi x4), (5, vi x5)] [] := by
  intro n
  induction n with
  | zero =>
    intro _ _ _ _
    exact z_none
  | succ n ih =>
    intro x3 x4 x5 σ
    show ZZ X G 6 (QM X G vzIw wzW (0, 0)) (0, 0) (if w32 x5 < 0 then if w32 x3 > 0 then some ((-1), σ) else if w32 x4 = w32 ((ishl 1 (σ 143 4)) - 1) then (gX11_loadMain F σ).bind fun r1 => (gX11_runByOrder F r1 x1).bind fun r2 => some (r2.1, r2.2) else some ((-1), σ) else gd (w32 10 ≠ 0) (gd (0 ≤ w32 x5 ∧ w32 x5 < 9) (gd (w32 10 ≠ 0) (gd (0 ≤ w32 x5 ∧ w32 x5 < 9) (gX11_runBy_L27 F x1 x2 n (idv x3 10) (ior x4 (ishl 1 ((up σ 166 (w32 x5) (irm x3 10)) 166 (w32 x5)))) (x5 + (-1)) (up σ 166 (w32 x5) (irm x3 10))))))) (w0 σ) 27 [(0, vr G 143), (1, vi x1), (3, vi x3), (4, vi x4), (5, vi x5)] []
    refine z_iload C 4 rfl dX11_runBy_27 29 rfl ?_
    refine z_if_lt C dX11_runBy_29 68 (by decide) 32 rfl rfl (fun _ => ?_) (fun _ => ?_)
    · refine z_iload_n C 3 rfl 2 rfl dX11_runBy_68 69 rfl ?_
      refine z_if_gt C dX11_runBy_69 85 (by decide) 72 rfl rfl (fun _ => ?_) (fun _ => ?_)
      · refine z_iconst C dX11_runBy_85 86 rfl ?_
        exact z_iret C R rfl rfl dX11_runBy_86
      · refine z_iload C 3 rfl dX11_runBy_72 74 rfl ?_
        refine z_iconst C dX11_runBy_74 75 rfl ?_
        refine z_aload_n C 0 rfl 0 rfl dX11_runBy_75 76 rfl ?_
        refine y_getI C fX11_130 one_11 dX11_runBy_76 79 rfl ?_
        refine z_ishl C dX11_runBy_79 80 rfl ?_
        refine z_iconst C dX11_runBy_80 81 rfl ?_
        refine z_isub C dX11_runBy_81 82 rfl ?_
        refine z_icmp_eq C dX11_runBy_82 87 (by decide) 85 rfl rfl rfl (fun _ => ?_) (fun _ => ?_)
        · refine z_aload_n C 0 rfl 0 rfl dX11_runBy_87 88 rfl ?_
          refine y_callVv C hR (tX11_loadMain (mL X) G F σ) ⟨mwX11_loadMain, mvX11_loadMain, lkX11_273⟩ one_11 rfl rfl (Nat.le_of_ble_eq_true rfl) (by unfold rmOK; decide) dX11_runBy_88 91 rfl (fun r1 _ => ?_)
          refine z_aload_n C 0 rfl 0 rfl dX11_runBy_91 92 rfl ?_
          refine z_iload_n C 1 rfl 1 rfl dX11_runBy_92 93 rfl ?_
          refine y_callVIw C hR (tX11_runByOrder (mL X) G F r1 x1) ⟨mwX11_runByOrder, mvX11_runByOrder, lkX11_285⟩ one_11 rfl rfl (Nat.le_of_ble_eq_true rfl) (by unfold rmOK; decide) dX11_runBy_93 96 rfl (fun r2 _ => ?_)
          exact z_iret C R rfl rfl dX11_runBy_96
        · refine z_iconst C dX11_runBy_85 86 rfl ?_
          exact z_iret C R rfl rfl dX11_runBy_86
    · refine z_aload_n C 0 rfl 0 rfl dX11_runBy_32 33 rfl ?_
      refine y_getR C fX11_76 one_11 lay_11_37 dX11_runBy_33 36 rfl ?_
      refine z_iload C 4 rfl dX11_runBy_36 38 rfl ?_
      refine z_iload_n C 3 rfl 2 rfl dX11_runBy_38 39 rfl ?_
      refine z_bipush C (by decide) dX11_runBy_39 41 rfl ?_
      refine z_irem C dX11_runBy_41 42 rfl ?_
      refine y_iast C lay_11_37.2 rfl dX11_runBy_42 43 rfl rfl (fun _ => ?_)
      refine z_iload_n C 3 rfl 2 rfl dX11_runBy_43 44 rfl ?_
      refine z_bipush C (by decide) dX11_runBy_44 46 rfl ?_
      refine z_idiv C dX11_runBy_46 47 rfl ?_
      refine z_istore_n (lv' := [(3, vi (idv x3 10)), (0, vr G 143), (1, vi x1), (4, vi x4), (5, vi x5)]) C 3 rfl (by decide) dX11_runBy_47 48 rfl rfl ?_
      refine z_iload C 3 rfl dX11_runBy_48 50 rfl ?_
      refine z_iconst C dX11_runBy_50 51 rfl ?_
      refine z_aload_n C 0 rfl 1 rfl dX11_runBy_51 52 rfl ?_
      refine y_getR C fX11_76 one_11 lay_11_37 dX11_runBy_52 55 rfl ?_
      refine z_iload C 4 rfl dX11_runBy_55 57 rfl ?_
      refine y_iald C lay_11_37.2 rfl dX11_runBy_57 58 rfl rfl (fun _ => ?_)
      refine z_ishl C dX11_runBy_58 59 rfl ?_
      refine z_ior C dX11_runBy_59 60 rfl ?_
      refine z_istore (lv' := [(4, vi (ior x4 (ishl 1 ((up σ 166 (w32 x5) (irm x3 10)) 166 (w32 x5))))), (3, vi (idv x3 10)), (0, vr G 143), (1, vi x1), (5, vi x5)]) C (by decide) dX11_runBy_60 62 rfl rfl ?_
      refine z_iinc (lv' := [(5, vi (x5 + (-1))), (4, vi (ior x4 (ishl 1 ((up σ 166 (w32 x5) (irm x3 10)) 166 (w32 x5))))), (3, vi (idv x3 10)), (0, vr G 143), (1, vi x1)]) C (by decide) 4 rfl dX11_runBy_62 65 rfl rfl ?_
      refine z_goto C dX11_runBy_65 27 (by decide) ?_
      refine z_lv (lv' := [(0, vr G 143), (1, vi x1), (3, vi (idv x3 10)), (4, vi (ior x4 (ishl 1 ((up σ 166 (w32 x5) (irm x3 10)) 166 (w32 x5))))), (5, vi (x5 + (-1)))]) [3, 4, 2, 1, 0] rfl ?_
      exact ih (idv x3 10) (ior x4 (ishl 1 ((up σ 166 (w32 x5) (irm x3 10)) 166 (w32 x5)))) (x5 + (-1)) (up σ 166 (w32 x5) (irm x3 10))
set_option maxRecDepth 100000 in
set_option maxHeartbeats 4000000 in
theorem tX11_runBy (l : Launch) (G : GG) (F : Nat) (σ : St) (x1 : Int) (x2 : Int) : Ctr l G yX11_runBy cX11_runBy 6 (some .int) rmX11_runBy [vr G 143, vi x1, vi x2] (w0 σ) vzIw wzW (gX11_runBy F σ x1 x2) := by
  refine ctr_of (by decide) (Nat.le_of_ble_eq_true rfl) mwX11_runBy.1 (fun X hl hR C R hnm => ?_)
  subst hl
  refine z_lv (lv' := [(0, vr G 143), (1, vi x1), (2, vi x2)]) [0, 1, 2] rfl ?_
  show ZZ X G 6 (QM X G vzIw wzW (0, 0)) (0, 0) ((gX11_isRule σ x1).bind fun r1 => if w32 r1 = 0 then some ((-1), σ) else if w32 x2 ≥ 0 then gX11_runBy_L27 F x1 x2 F x2 0 ((σ 143 4) - 1) σ else some ((-1), σ)) (w0 σ) 0 [(0, vr G 143), (1, vi x1), (2, vi x2)] []
  refine z_aload_n C 0 rfl 0 rfl dX11_runBy_0 1 rfl ?_
  refine z_iload_n C 1 rfl 1 rfl dX11_runBy_1 2 rfl ?_
  refine y_callVI C hR (tX11_isRule (mL X) G σ x1) ⟨mwX11_isRule, mvX11_isRule, lkX11_229⟩ one_11 rfl rfl (Nat.le_of_ble_eq_true rfl) (by unfold rmOK; decide) dX11_runBy_2 5 rfl (fun r1 _ => ?_)
  refine z_if_eq C dX11_runBy_5 12 (by decide) 8 rfl rfl (fun _ => ?_) (fun _ => ?_)
  · refine z_iconst C dX11_runBy_12 13 rfl ?_
    exact z_iret C R rfl rfl dX11_runBy_13
  · refine z_iload_n C 2 rfl 2 rfl dX11_runBy_8 9 rfl ?_
    refine z_if_ge C dX11_runBy_9 14 (by decide) 12 rfl rfl (fun _ => ?_) (fun _ => ?_)
    · refine z_iload_n C 2 rfl 2 rfl dX11_runBy_14 15 rfl ?_
      refine z_istore_n (lv' := [(3, vi x2), (0, vr G 143), (1, vi x1), (2, vi x2)]) C 3 rfl (by decide) dX11_runBy_15 16 rfl rfl ?_
      refine z_iconst C dX11_runBy_16 17 rfl ?_
      refine z_istore (lv' := [(4, vi 0), (3, vi x2), (0, vr G 143), (1, vi x1), (2, vi x2)]) C (by decide) dX11_runBy_17 19 rfl rfl ?_
      refine z_aload_n C 0 rfl 2 rfl dX11_runBy_19 20 rfl ?_
      refine y_getI C fX11_130 one_11 dX11_runBy_20 23 rfl ?_
      refine z_iconst C dX11_runBy_23 24 rfl ?_
      refine z_isub C dX11_runBy_24 25 rfl ?_
      refine z_istore (lv' := [(5, vi ((σ 143 4) - 1)), (4, vi 0), (3, vi x2), (0, vr G 143), (1, vi x1), (2, vi x2)]) C (by decide) dX11_runBy_25 27 rfl rfl ?_
      refine z_lv (lv' := [(0, vr G 143), (1, vi x1), (3, vi x2), (4, vi 0), (5, vi ((σ 143 4) - 1))]) [3, 4, 2, 1, 0] rfl ?_
      exact pX11_runBy_L27 C R hR F x1 x2 F x2 0 ((σ 143 4) - 1) σ
    · refine z_iconst C dX11_runBy_12 13 rfl ?_
      exact z_iret C R rfl rfl dX11_runBy_13
-- layFigures
def gX11_layFigures_L7 (F : Nat) : Nat → Int → St → Option (St)
  | 0, _, _ => none
  | n + 1, x1, σ => if w32 x1 ≥ w32 (σ 143 0) then some σ else gd (0 ≤ w32 x1 ∧ w32 x1 < 6) (gd (0 ≤ w32 x1 ∧ w32 x1 < 6) (gX11_layFigures_L7 F n (x1 + 1) (up (up σ 168 (w32 x1) (σ 143 40)) 143 40 (((up σ 168 (w32 x1) (σ 143 40)) 143 40) * (((up σ 168 (w32 x1) (σ 143 40)) 167 (w32 x1)) + 1)))))
def gX11_layFigures (F : Nat) (σ : St) : Option (St) := gX11_layFigures_L7 F F 0 (up σ 143 40 1)
def rmX11_layFigures : Room := { frames := 0, cells := 0, slots := 0, locals := 0 }
set_option maxRecDepth 100000 in
set_option maxHeartbeats 4000000 in
theorem pX11_layFigures_L7 {X : MX} {G : GG} (C : CX X G 2 cX11_layFigures RX11) (R : RT X none) (hR : mR X = rmX11_layFigures) (F : Nat)  : ∀ (n : Nat) (x1 : Int) (σ : St), ZZ X G 2 (QM X G vzV wzV (0, 0)) (0, 0) (gX11_layFigures_L7 F n x1 σ) (w0 σ) 7 [(0, vr G 143), (1, vi x1)] [] := by
  intro n
  induction n with
  | zero =>
    intro _ _
    exact z_none
  | succ n ih =>
    intro x1 σ
    show ZZ X G 2 (QM X G vzV wzV (0, 0)) (0, 0) (if w32 x1 ≥ w32 (σ 143 0) then some σ else gd (0 ≤ w32 x1 ∧ w32 x1 < 6) (gd (0 ≤ w32 x1 ∧ w32 x1 < 6) (gX11_layFigures_L7 F n (x1 + 1) (up (up σ 168 (w32 x1) (σ 143 40)) 143 40 (((up σ 168 (w32 x1) (σ 143 40)) 143 40) * (((up σ 168 (w32 x1) (σ 143 40)) 167 (w32 x1)) + 1)))))) (w0 σ) 7 [(0, vr G 143), (1, vi x1)] []
    refine z_iload_n C 1 rfl 1 rfl dX11_layFigures_7 8 rfl ?_
    refine z_aload_n C 0 rfl 0 rfl dX11_layFigures_8 9 rfl ?_
    refine y_getI C fX11_122 one_11 dX11_layFigures_9 12 rfl ?_
    refine z_icmp_ge C dX11_layFigures_12 48 (by decide) 15 rfl rfl rfl (fun _ => ?_) (fun _ => ?_)
    · exact z_vret C R rfl rfl dX11_layFigures_48
    · refine z_aload_n C 0 rfl 0 rfl dX11_layFigures_15 16 rfl ?_
      refine y_getR C fX11_82 one_11 lay_11_39 dX11_layFigures_16 19 rfl ?_
      refine z_iload_n C 1 rfl 1 rfl dX11_layFigures_19 20 rfl ?_
      refine z_aload_n C 0 rfl 0 rfl dX11_layFigures_20 21 rfl ?_
      refine y_getI C fX11_288 one_11 dX11_layFigures_21 24 rfl ?_
      refine y_iast C lay_11_39.2 rfl dX11_layFigures_24 25 rfl rfl (fun _ => ?_)
      refine z_aload_n C 0 rfl 0 rfl dX11_layFigures_25 26 rfl ?_
      refine z_dup C rfl dX11_layFigures_26 27 rfl ?_
      refine y_getI C fX11_288 one_11 dX11_layFigures_27 30 rfl ?_
      refine z_aload_n C 0 rfl 0 rfl dX11_layFigures_30 31 rfl ?_
      refine y_getR C fX11_79 one_11 lay_11_38 dX11_layFigures_31 34 rfl ?_
      refine z_iload_n C 1 rfl 1 rfl dX11_layFigures_34 35 rfl ?_
      refine y_iald C lay_11_38.2 rfl dX11_layFigures_35 36 rfl rfl (fun _ => ?_)
      refine z_iconst C dX11_layFigures_36 37 rfl ?_
      refine z_iadd C dX11_layFigures_37 38 rfl ?_
      refine z_imul C dX11_layFigures_38 39 rfl ?_
      refine y_putI C fX11_288 one_11 ⟨rfl, rfl⟩ dX11_layFigures_39 42 rfl ?_
      refine z_iinc (lv' := [(1, vi (x1 + 1)), (0, vr G 143)]) C (by decide) 1 rfl dX11_layFigures_42 45 rfl rfl ?_
      refine z_goto C dX11_layFigures_45 7 (by decide) ?_
      refine z_lv (lv' := [(0, vr G 143), (1, vi (x1 + 1))]) [1, 0] rfl ?_
      exact ih (x1 + 1) (up (up σ 168 (w32 x1) (σ 143 40)) 143 40 (((up σ 168 (w32 x1) (σ 143 40)) 143 40) * (((up σ 168 (w32 x1) (σ 143 40)) 167 (w32 x1)) + 1)))
set_option maxRecDepth 100000 in
set_option maxHeartbeats 4000000 in
theorem tX11_layFigures (l : Launch) (G : GG) (F : Nat) (σ : St) : Ctr l G yX11_layFigures cX11_layFigures 2 none rmX11_layFigures [vr G 143] (w0 σ) vzV wzV (gX11_layFigures F σ) := by
  refine ctr_of (by decide) (Nat.le_of_ble_eq_true rfl) mwX11_layFigures.1 (fun X hl hR C R hnm => ?_)
  subst hl
  refine z_lv (lv' := [(0, vr G 143)]) [0] rfl ?_
  show ZZ X G 2 (QM X G vzV wzV (0, 0)) (0, 0) (gX11_layFigures_L7 F F 0 (up σ 143 40 1)) (w0 σ) 0 [(0, vr G 143)] []
  refine z_aload_n C 0 rfl 0 rfl dX11_layFigures_0 1 rfl ?_
  refine z_iconst C dX11_layFigures_1 2 rfl ?_
  refine y_putI C fX11_288 one_11 ⟨rfl, rfl⟩ dX11_layFigures_2 5 rfl ?_
  refine z_iconst C dX11_layFigures_5 6 rfl ?_
  refine z_istore_n (lv' := [(1, vi 0), (0, vr G 143)]) C 1 rfl (by decide) dX11_layFigures_6 7 rfl rfl ?_
  refine z_lv (lv' := [(0, vr G 143), (1, vi 0)]) [1, 0] rfl ?_
  exact pX11_layFigures_L7 C R hR F F 0 (up σ 143 40 1)
-- hasRoom
def gX11_hasRoom (σ : St) (x1 : Int) (x2 : Int) : Option (Int) := gd (0 ≤ w32 x2 ∧ w32 x2 < 6) (gd (w32 (σ 168 (w32 x2)) ≠ 0) (gd (0 ≤ w32 x2 ∧ w32 x2 < 6) (gd (w32 ((σ 167 (w32 x2)) + 1) ≠ 0) (if irm (idv x1 (σ 168 (w32 x2))) ((σ 167 (w32 x2)) + 1) ≤ 0 then some 0 else some 1))))
def rmX11_hasRoom : Room := { frames := 0, cells := 0, slots := 0, locals := 0 }
set_option maxRecDepth 100000 in
set_option maxHeartbeats 4000000 in
theorem tX11_hasRoom (l : Launch) (G : GG) (σ : St) (x1 : Int) (x2 : Int) : Ctr l G yX11_hasRoom cX11_hasRoom 3 (some .boolean) rmX11_hasRoom [vr G 143, vi x1, vi x2] (w0 σ) vzI (wzR σ) (gX11_hasRoom σ x1 x2) := by
  refine ctr_of (by decide) (Nat.le_of_ble_eq_true rfl) mwX11_hasRoom.1 (fun X hl hR C R hnm => ?_)
  subst hl
  refine z_lv (lv' := [(0, vr G 143), (1, vi x1), (2, vi x2)]) [0, 1, 2] rfl ?_
  show ZZ X G 3 (QM X G vzI (wzR σ) (0, 0)) (0, 0) (gd (0 ≤ w32 x2 ∧ w32 x2 < 6) (gd (w32 (σ 168 (w32 x2)) ≠ 0) (gd (0 ≤ w32 x2 ∧ w32 x2 < 6) (gd (w32 ((σ 167 (w32 x2)) + 1) ≠ 0) (if irm (idv x1 (σ 168 (w32 x2))) ((σ 167 (w32 x2)) + 1) ≤ 0 then some 0 else some 1))))) (w0 σ) 0 [(0, vr G 143), (1, vi x1), (2, vi x2)] []
  refine z_iload_n C 1 rfl 1 rfl dX11_hasRoom_0 1 rfl ?_
  refine z_aload_n C 0 rfl 0 rfl dX11_hasRoom_1 2 rfl ?_
  refine y_getR C fX11_82 one_11 lay_11_39 dX11_hasRoom_2 5 rfl ?_
  refine z_iload_n C 2 rfl 2 rfl dX11_hasRoom_5 6 rfl ?_
  refine y_iald C lay_11_39.2 rfl dX11_hasRoom_6 7 rfl rfl (fun _ => ?_)
  refine z_idiv C dX11_hasRoom_7 8 rfl ?_
  refine z_aload_n C 0 rfl 0 rfl dX11_hasRoom_8 9 rfl ?_
  refine y_getR C fX11_79 one_11 lay_11_38 dX11_hasRoom_9 12 rfl ?_
  refine z_iload_n C 2 rfl 2 rfl dX11_hasRoom_12 13 rfl ?_
  refine y_iald C lay_11_38.2 rfl dX11_hasRoom_13 14 rfl rfl (fun _ => ?_)
  refine z_iconst C dX11_hasRoom_14 15 rfl ?_
  refine z_iadd C dX11_hasRoom_15 16 rfl ?_
  refine z_irem C dX11_hasRoom_16 17 rfl ?_
  refine z_if_le C dX11_hasRoom_17 24 (by decide) 20 rfl (w32_irm _ _) (fun _ => ?_) (fun _ => ?_)
  · refine z_iconst C dX11_hasRoom_24 25 rfl ?_
    exact z_zret C R nz0 rfl rfl dX11_hasRoom_25
  · refine z_iconst C dX11_hasRoom_20 21 rfl ?_
    refine z_goto C dX11_hasRoom_21 25 (by decide) ?_
    exact z_zret C R nz1 rfl rfl dX11_hasRoom_25
-- whole
def gX11_whole (σ : St) : Option (Int) := some ((σ 143 40) - 1)
def rmX11_whole : Room := { frames := 0, cells := 0, slots := 0, locals := 0 }
set_option maxRecDepth 100000 in
set_option maxHeartbeats 4000000 in
theorem tX11_whole (l : Launch) (G : GG) (σ : St) : Ctr l G yX11_whole cX11_whole 1 (some .int) rmX11_whole [vr G 143] (w0 σ) vzI (wzR σ) (gX11_whole σ) := by
  refine ctr_of (by decide) (Nat.le_of_ble_eq_true rfl) mwX11_whole.1 (fun X hl hR C R hnm => ?_)
  subst hl
  refine z_lv (lv' := [(0, vr G 143)]) [0] rfl ?_
  show ZZ X G 1 (QM X G vzI (wzR σ) (0, 0)) (0, 0) (some ((σ 143 40) - 1)) (w0 σ) 0 [(0, vr G 143)] []
  refine z_aload_n C 0 rfl 0 rfl dX11_whole_0 1 rfl ?_
  refine y_getI C fX11_288 one_11 dX11_whole_1 4 rfl ?_
  refine z_iconst C dX11_whole_4 5 rfl ?_
  refine z_isub C dX11_whole_5 6 rfl ?_
  exact z_iret C R rfl rfl dX11_whole_6
-- layBest
def gX11_layBest_L153 (F : Nat) (x1 : Int) (x2 : Int) (c33 : Int → St → Option (St)) (c41 : Int → Int → St → Option (St)) (c70 : Int → Int → Int → Int → St → Option (St)) (x3 : Int) (x4 : Int) (x5 : Int) (x6 : Int) (σ : St) : Option (St) := c70 x3 x4 x5 (x6 + 1) σ
def gX11_layBest_L151 (F : Nat) (x1 : Int) (x2 : Int) (c33 : Int → St → Option (St)) (c41 : Int → Int → St → Option (St)) (c70 : Int → Int → Int → Int → St → Option (St)) (x3 : Int) (x4 : Int) (x6 : Int) (s0 : Int) (σ : St) : Option (St) := gX11_layBest_L153 F x1 x2 c33 c41 c70 x3 x4 s0 x6 σ
def gX11_layBest_L70 (F : Nat) (x1 : Int) (x2 : Int) (c33 : Int → St → Option (St)) (c41 : Int → Int → St → Option (St)) : Nat → Int → Int → Int → Int → St → Option (St)
  | 0, _, _, _, _, _ => none
  | n + 1, x3, x4, x5, x6, σ => if w32 x6 ≥ w32 (σ 143 0) then gd (0 ≤ w32 ((512 * x3) + x4) ∧ w32 ((512 * x3) + x4) < 5120) (c41 x3 (x4 + 1) (up σ 169 (w32 ((512 * x3) + x4)) x5)) else gd (0 ≤ w32 ((6 * x3) + x6) ∧ w32 ((6 * x3) + x6) < 54) (if w32 (σ 148 (w32 ((6 * x3) + x6))) ≤ 0 then gX11_layBest_L153 F x1 x2 c33 c41 (gX11_layBest_L70 F x1 x2 c33 c41 n) x3 x4 x5 x6 σ else (gX11_hasRoom σ x4 x6).bind fun r1 => if w32 r1 = 0 then gX11_layBest_L153 F x1 x2 c33 c41 (gX11_layBest_L70 F x1 x2 c33 c41 n) x3 x4 x5 x6 σ else gd (0 ≤ w32 x6 ∧ w32 x6 < 6) (gd (0 ≤ w32 (((512 * (x3 + 1)) + x4) - (σ 168 (w32 x6))) ∧ w32 (((512 * (x3 + 1)) + x4) - (σ 168 (w32 x6))) < 5120) (if w32 ((σ 148 (w32 ((6 * x3) + x6))) + (σ 169 (w32 (((512 * (x3 + 1)) + x4) - (σ 168 (w32 x6)))))) ≤ w32 x5 then gX11_layBest_L151 F x1 x2 c33 c41 (gX11_layBest_L70 F x1 x2 c33 c41 n) x3 x4 x6 x5 σ else gX11_layBest_L151 F x1 x2 c33 c41 (gX11_layBest_L70 F x1 x2 c33 c41 n) x3 x4 x6 ((σ 148 (w32 ((6 * x3) + x6))) + (σ 169 (w32 (((512 * (x3 + 1)) + x4) - (σ 168 (w32 x6)))))) σ)))
def gX11_layBest_L41 (F : Nat) (x1 : Int) (x2 : Int) (c33 : Int → St → Option (St)) : Nat → Int → Int → St → Option (St)
  | 0, _, _, _ => none
  | n + 1, x3, x4, σ => if w32 x4 ≥ w32 (σ 143 40) then c33 (x3 + (-1)) σ else gd (0 ≤ w32 ((512 * (x3 + 1)) + x4) ∧ w32 ((512 * (x3 + 1)) + x4) < 5120) (gX11_layBest_L70 F x1 x2 c33 (gX11_layBest_L41 F x1 x2 c33 n) F x3 x4 (σ 169 (w32 ((512 * (x3 + 1)) + x4))) 0 σ)
def gX11_layBest_L33 (F : Nat) (x1 : Int) (x2 : Int) : Nat → Int → St → Option (St)
  | 0, _, _ => none
  | n + 1, x3, σ => if w32 x3 < w32 x1 then some σ else gX11_layBest_L41 F x1 x2 (gX11_layBest_L33 F x1 x2 n) F x3 0 σ
def gX11_layBest_L2 (F : Nat) (x1 : Int) (x2 : Int) : Nat → Int → St → Option (St)
  | 0, _, _ => none
  | n + 1, x3, σ => if w32 x3 ≥ w32 (σ 143 40) then gX11_layBest_L33 F x1 x2 F (x2 - 1) σ else gd (0 ≤ w32 ((512 * x2) + x3) ∧ w32 ((512 * x2) + x3) < 5120) (gX11_layBest_L2 F x1 x2 n (x3 + 1) (up σ 169 (w32 ((512 * x2) + x3)) 0))
def gX11_layBest (F : Nat) (σ : St) (x1 : Int) (x2 : Int) : Option (St) := gX11_layBest_L2 F x1 x2 F 0 σ
def rmX11_layBest : Room := { frames := 1, cells := 0, slots := 0, locals := 22 }
set_option maxRecDepth 100000 in
set_option maxHeartbeats 4000000 in
theorem pX11_layBest_L153 {X : MX} {G : GG} (C : CX X G 9 cX11_layBest RX11) (R : RT X none) (hR : mR X = rmX11_layBest) (F : Nat) (x1 : Int) (x2 : Int) (c33 : Int → St → Option (St)) (hc33 : ∀ (x3 : Int) (σ : St), ZZ X G 9 (QM X G vzV wzV (0, 0)) (0, 0) (c33 x3 σ) (w0 σ) 33 [(0, vr G 143), (1, vi x1), (3, vi x3)] []) (c41 : Int → Int → St → Option (St)) (hc41 : ∀ (x3 : Int) (x4 : Int) (σ : St), ZZ X G 9 (QM X G vzV wzV (0, 0)) (0, 0) (c41 x3 x4 σ) (w0 σ) 41 [(0, vr G 143), (1, vi x1), (3, vi x3), (4, vi x4)] []) (c70 : Int → Int → Int → Int → St → Option (St)) (hc70 : ∀ (x3 : Int) (x4 : Int) (x5 : Int) (x6 : Int) (σ : St), ZZ X G 9 (QM X G vzV wzV (0, 0)) (0, 0) (c70 x3 x4 x5 x6 σ) (w0 σ) 70 [(0, vr G 143), (1, vi x1), (3, vi x3), (4, vi x4), (5, vi x5), (6, vi x6)] []) : ∀ (x3 : Int) (x4 : Int) (x5 : Int) (x6 : Int) (σ : St), ZZ X G 9 (QM X G vzV wzV (0, 0)) (0, 0) (gX11_layBest_L153 F x1 x2 c33 c41 c70 x3 x4 x5 x6 σ) (w0 σ) 153 [(0, vr G 143), (1, vi x1), (3, vi x3), (4, vi x4), (5, vi x5), (6, vi x6)] [] := by
  intro x3 x4 x5 x6 σ
  show ZZ X G 9 (QM X G vzV wzV (0, 0)) (0, 0) (c70 x3 x4 x5 (x6 + 1) σ) (w0 σ) 153 [(0, vr G 143), (1, vi x1), (3, vi x3), (4, vi x4), (5, vi x5), (6, vi x6)] []
  refine z_iinc (lv' := [(6, vi (x6 + 1)), (0, vr G 143), (1, vi x1), (3, vi x3), (4, vi x4), (5, vi x5)]) C (by decide) 5 rfl dX11_layBest_153 156 rfl rfl ?_
  refine z_goto C dX11_layBest_156 70 (by decide) ?_
  refine z_lv (lv' := [(0, vr G 143), (1, vi x1), (3, vi x3), (4, vi x4), (5, vi x5), (6, vi (x6 + 1))]) [1, 2, 3, 4, 5, 0] rfl ?_
  exact hc70 x3 x4 x5 (x6 + 1) σ
set_option maxRecDepth 100000 in
set_option maxHeartbeats 4000000 in
theorem pX11_layBest_L151 {X : MX} {G : GG} (C : CX X G 9 cX11_layBest RX11) (R : RT X none) (hR : mR X = rmX11_layBest) (F : Nat) (x1 : Int) (x2 : Int) (c33 : Int → St → Option (St)) (hc33 : ∀ (x3 : Int) (σ : St), ZZ X G 9 (QM X G vzV wzV (0, 0)) (0, 0) (c33 x3 σ) (w0 σ) 33 [(0, vr G 143), (1, vi x1), (3, vi x3)] []) (c41 : Int → Int → St → Option (St)) (hc41 : ∀ (x3 : Int) (x4 : Int) (σ : St), ZZ X G 9 (QM X G vzV wzV (0, 0)) (0, 0) (c41 x3 x4 σ) (w0 σ) 41 [(0, vr G 143), (1, vi x1), (3, vi x3), (4, vi x4)] []) (c70 : Int → Int → Int → Int → St → Option (St)) (hc70 : ∀ (x3 : Int) (x4 : Int) (x5 : Int) (x6 : Int) (σ : St), ZZ X G 9 (QM X G vzV wzV (0, 0)) (0, 0) (c70 x3 x4 x5 x6 σ) (w0 σ) 70 [(0, vr G 143), (1, vi x1), (3, vi x3), (4, vi x4), (5, vi x5), (6, vi x6)] []) : ∀ (x3 : Int) (x4 : Int) (x6 : Int) (s0 : Int) (σ : St), ZZ X G 9 (QM X G vzV wzV (0, 0)) (0, 0) (gX11_layBest_L151 F x1 x2 c33 c41 c70 x3 x4 x6 s0 σ) (w0 σ) 151 [(0, vr G 143), (1, vi x1), (3, vi x3), (4, vi x4), (6, vi x6)] [vi s0] := by
  intro x3 x4 x6 s0 σ
  show ZZ X G 9 (QM X G vzV wzV (0, 0)) (0, 0) (gX11_layBest_L153 F x1 x2 c33 c41 c70 x3 x4 s0 x6 σ) (w0 σ) 151 [(0, vr G 143), (1, vi x1), (3, vi x3), (4, vi x4), (6, vi x6)] [vi s0]
  refine z_istore (lv' := [(5, vi s0), (0, vr G 143), (1, vi x1), (3, vi x3), (4, vi x4), (6, vi x6)]) C (by decide) dX11_layBest_151 153 rfl rfl ?_
  refine z_lv (lv' := [(0, vr G 143), (1, vi x1), (3, vi x3), (4, vi x4), (5, vi s0), (6, vi x6)]) [1, 2, 3, 4, 0, 5] rfl ?_
  exact pX11_layBest_L153 C R hR F x1 x2 c33 hc33 c41 hc41 c70 hc70 x3 x4 s0 x6 σ
set_option maxRecDepth 100000 in
set_option maxHeartbeats 4000000 in
theorem pX11_layBest_L70 {X : MX} {G : GG} (C : CX X G 9 cX11_layBest RX11) (R : RT X none) (hR : mR X = rmX11_layBest) (F : Nat) (x1 : Int) (x2 : Int) (c33 : Int → St → Option (St)) (hc33 : ∀ (x3 : Int) (σ : St), ZZ X G 9 (QM X G vzV wzV (0, 0)) (0, 0) (c33 x3 σ) (w0 σ) 33 [(0, vr G 143), (1, vi x1), (3, vi x3)] []) (c41 : Int → Int → St → Option (St)) (hc41 : ∀ (x3 : Int) (x4 : Int) (σ : St), ZZ X G 9 (QM X G vzV wzV (0, 0)) (0, 0) (c41 x3 x4 σ) (w0 σ) 41 [(0, vr G 143), (1, vi x1), (3, vi x3), (4, vi x4)] []) : ∀ (n : Nat) (x3 : Int) (x4 : Int) (x5 : Int) (x6 : Int) (σ : St), ZZ X G 9 (QM X G vzV wzV (0, 0)) (0, 0) (gX11_layBest_L70 F x1 x2 c33 c41 n x3 x4 x5 x6 σ) (w0 σ) 70 [(0, vr G 143), (1, vi x1), (3, vi x3), (4, vi x4), (5, vi x5), (6, vi x6)] [] := by
  intro n
  induction n with
  | zero =>
    intro _ _ _ _ _
    exact z_none
  | succ n ih =>
    intro x3 x4 x5 x6 σ
    show ZZ X G 9 (QM X G vzV wzV (0, 0)) (0, 0) (if w32 x6 ≥ w32 (σ 143 0) then gd (0 ≤ w32 ((512 * x3) + x4) ∧ w32 ((512 * x3) + x4) < 5120) (c41 x3 (x4 + 1) (up σ 169 (w32 ((512 * x3) + x4)) x5)) else gd (0 ≤ w32 ((6 * x3) + x6) ∧ w32 ((6 * x3) + x6) < 54) (if w32 (σ 148 (w32 ((6 * x3) + x6))) ≤ 0 then gX11_layBest_L153 F x1 x2 c33 c41 (gX11_layBest_L70 F x1 x2 c33 c41 n) x3 x4 x5 x6 σ else (gX11_hasRoom σ x4 x6).bind fun r1 => if w32 r1 = 0 then gX11_layBest_L153 F x1 x2 c33 c41 (gX11_layBest_L70 F x1 x2 c33 c41 n) x3 x4 x5 x6 σ else gd (0 ≤ w32 x6 ∧ w32 x6 < 6) (gd (0 ≤ w32 (((512 * (x3 + 1)) + x4) - (σ 168 (w32 x6))) ∧ w32 (((512 * (x3 + 1)) + x4) - (σ 168 (w32 x6))) < 5120) (if w32 ((σ 148 (w32 ((6 * x3) + x6))) + (σ 169 (w32 (((512 * (x3 + 1)) + x4) - (σ 168 (w32 x6)))))) ≤ w32 x5 then gX11_layBest_L151 F x1 x2 c33 c41 (gX11_layBest_L70 F x1 x2 c33 c41 n) x3 x4 x6 x5 σ else gX11_layBest_L151 F x1 x2 c33 c41 (gX11_layBest_L70 F x1 x2 c33 c41 n) x3 x4 x6 ((σ 148 (w32 ((6 * x3) + x6))) + (σ 169 (w32 (((512 * (x3 + 1)) + x4) - (σ 168 (w32 x6)))))) σ)))) (w0 σ) 70 [(0, vr G 143), (1, vi x1), (3, vi x3), (4, vi x4), (5, vi x5), (6, vi x6)] []
    refine z_iload C 5 rfl dX11_layBest_70 72 rfl ?_
    refine z_aload_n C 0 rfl 0 rfl dX11_layBest_72 73 rfl ?_
    refine y_getI C fX11_122 one_11 dX11_layBest_73 76 rfl ?_
    refine z_icmp_ge C dX11_layBest_76 159 (by decide) 79 rfl rfl rfl (fun _ => ?_) (fun _ => ?_)
    · refine z_aload_n C 0 rfl 0 rfl dX11_layBest_159 160 rfl ?_
      refine y_getR C fX11_85 one_11 lay_11_41 dX11_layBest_160 163 rfl ?_
      refine z_sipush C (by decide) dX11_layBest_163 166 rfl ?_
      refine z_iload_n C 3 rfl 2 rfl dX11_layBest_166 167 rfl ?_
      refine z_imul C dX11_layBest_167 168 rfl ?_
      refine z_iload C 3 rfl dX11_layBest_168 170 rfl ?_
      refine z_iadd C dX11_layBest_170 171 rfl ?_
      refine z_iload C 4 rfl dX11_layBest_171 173 rfl ?_
      refine y_iast C lay_11_41.2 rfl dX11_layBest_173 174 rfl rfl (fun _ => ?_)
      refine z_iinc (lv' := [(4, vi (x4 + 1)), (0, vr G 143), (1, vi x1), (3, vi x3), (5, vi x5), (6, vi x6)]) C (by decide) 3 rfl dX11_layBest_174 177 rfl rfl ?_
      refine z_goto C dX11_layBest_177 41 (by decide) ?_
      refine z_lv (lv' := [(0, vr G 143), (1, vi x1), (3, vi x3), (4, vi (x4 + 1))]) [1, 2, 3, 0] rfl ?_
      exact hc41 x3 (x4 + 1) (up σ 169 (w32 ((512 * x3) + x4)) x5)
    · refine z_aload_n C 0 rfl 0 rfl dX11_layBest_79 80 rfl ?_
      refine y_getR C fX11_22 one_11 lay_11_6 dX11_layBest_80 83 rfl ?_
      refine z_bipush C (by decide) dX11_layBest_83 85 rfl ?_
      refine z_iload_n C 3 rfl 2 rfl dX11_layBest_85 86 rfl ?_
      refine z_imul C dX11_layBest_86 87 rfl ?_
      refine z_iload C 5 rfl dX11_layBest_87 89 rfl ?_
      refine z_iadd C dX11_layBest_89 90 rfl ?_
      refine y_iald C lay_11_6.2 rfl dX11_layBest_90 91 rfl rfl (fun _ => ?_)
      refine z_istore (lv' := [(7, vi (σ 148 (w32 ((6 * x3) + x6)))), (0, vr G 143), (1, vi x1), (3, vi x3), (4, vi x4), (5, vi x5), (6, vi x6)]) C (by decide) dX11_layBest_91 93 rfl rfl ?_
      refine z_iload C 0 rfl dX11_layBest_93 95 rfl ?_
      refine z_if_le C dX11_layBest_95 153 (by decide) 98 rfl rfl (fun _ => ?_) (fun _ => ?_)
      · refine z_lv (lv' := [(0, vr G 143), (1, vi x1), (3, vi x3), (4, vi x4), (5, vi x5), (6, vi x6)]) [1, 2, 3, 4, 5, 6] rfl ?_
        exact pX11_layBest_L153 C R hR F x1 x2 c33 hc33 c41 hc41 (gX11_layBest_L70 F x1 x2 c33 c41 n) ih x3 x4 x5 x6 σ
      · refine z_aload_n C 0 rfl 1 rfl dX11_layBest_98 99 rfl ?_
        refine z_iload C 4 rfl dX11_layBest_99 101 rfl ?_
        refine z_iload C 6 rfl dX11_layBest_101 103 rfl ?_
        refine y_callVI C hR (tX11_hasRoom (mL X) G σ x4 x6) ⟨mwX11_hasRoom, mvX11_hasRoom, lkX11_291⟩ one_11 rfl rfl (Nat.le_of_ble_eq_true rfl) (by unfold rmOK; decide) dX11_layBest_103 106 rfl (fun r1 _ => ?_)
        refine z_if_eq C dX11_layBest_106 153 (by decide) 109 rfl rfl (fun _ => ?_) (fun _ => ?_)
        · refine z_lv (lv' := [(0, vr G 143), (1, vi x1), (3, vi x3), (4, vi x4), (5, vi x5), (6, vi x6)]) [1, 2, 3, 4, 5, 6] rfl ?_
          exact pX11_layBest_L153 C R hR F x1 x2 c33 hc33 c41 hc41 (gX11_layBest_L70 F x1 x2 c33 c41 n) ih x3 x4 x5 x6 σ
        · refine z_iload C 0 rfl dX11_layBest_109 111 rfl ?_
          refine z_aload_n C 0 rfl 1 rfl dX11_layBest_111 112 rfl ?_
          refine y_getR C fX11_85 one_11 lay_11_41 dX11_layBest_112 115 rfl ?_
          refine z_sipush C (by decide) dX11_layBest_115 118 rfl ?_
          refine z_iload_n C 3 rfl 3 rfl dX11_layBest_118 119 rfl ?_
          refine z_iconst C dX11_layBest_119 120 rfl ?_
          refine z_iadd C dX11_layBest_120 121 rfl ?_
          refine z_imul C dX11_layBest_121 122 rfl ?_
          refine z_iload C 4 rfl dX11_layBest_122 124 rfl ?_
          refine z_iadd C dX11_layBest_124 125 rfl ?_
          refine z_aload_n C 0 rfl 1 rfl dX11_layBest_125 126 rfl ?_
          refine y_getR C fX11_82 one_11 lay_11_39 dX11_layBest_126 129 rfl ?_
          refine z_iload C 6 rfl dX11_layBest_129 131 rfl ?_
          refine y_iald C lay_11_39.2 rfl dX11_layBest_131 132 rfl rfl (fun _ => ?_)
          refine z_isub C dX11_layBest_132 133 rfl ?_
          refine y_iald C lay_11_41.2 rfl dX11_layBest_133 134 rfl rfl (fun _ => ?_)
          refine z_iadd C dX11_layBest_134 135 rfl ?_
          refine z_istore (lv' := [(8, vi ((σ 148 (w32 ((6 * x3) + x6))) + (σ 169 (w32 (((512 * (x3 + 1)) + x4) - (σ 168 (w32 x6))))))), (7, vi (σ 148 (w32 ((6 * x3) + x6)))), (0, vr G 143), (1, vi x1), (3, vi x3), (4, vi x4), (5, vi x5), (6, vi x6)]) C (by decide) dX11_layBest_135 137 rfl rfl ?_
          refine z_iload C 0 rfl dX11_layBest_137 139 rfl ?_
          refine z_iload C 6 rfl dX11_layBest_139 141 rfl ?_
          refine z_icmp_le C dX11_layBest_141 149 (by decide) 144 rfl rfl rfl (fun _ => ?_) (fun _ => ?_)
          · refine z_iload C 6 rfl dX11_layBest_149 151 rfl ?_
            refine z_lv (lv' := [(0, vr G 143), (1, vi x1), (3, vi x3), (4, vi x4), (6, vi x6)]) [2, 3, 4, 5, 7] rfl ?_
            exact pX11_layBest_L151 C R hR F x1 x2 c33 hc33 c41 hc41 (gX11_layBest_L70 F x1 x2 c33 c41 n) ih x3 x4 x6 x5 σ
          · refine z_iload C 0 rfl dX11_layBest_144 146 rfl ?_
            refine z_goto C dX11_layBest_146 151 (by decide) ?_
            refine z_lv (lv' := [(0, vr G 143), (1, vi x1), (3, vi x3), (4, vi x4), (6, vi x6)]) [2, 3, 4, 5, 7] rfl ?_
            exact pX11_layBest_L151 C R hR F x1 x2 c33 hc33 c41 hc41 (gX11_layBest_L70 F x1 x2 c33 c41 n) ih x3 x4 x6 ((σ 148 (w32 ((6 * x3) + x6))) + (σ 169 (w32 (((512 * (x3 + 1)) + x4) - (σ 168 (w32 x6)))))) σ
set_option maxRecDepth 100000 in
set_option maxHeartbeats 4000000 in
theorem pX11_layBest_L41 {X : MX} {G : GG} (C : CX X G 9 cX11_layBest RX11) (R : RT X none) (hR : mR X = rmX11_layBest) (F : Nat) (x1 : Int) (x2 : Int) (c33 : Int → St → Option (St)) (hc33 : ∀ (x3 : Int) (σ : St), ZZ X G 9 (QM X G vzV wzV (0, 0)) (0, 0) (c33 x3 σ) (w0 σ) 33 [(0, vr G 143), (1, vi x1), (3, vi x3)] []) : ∀ (n : Nat) (x3 : Int) (x4 : Int) (σ : St), ZZ X G 9 (QM X G vzV wzV (0, 0)) (0, 0) (gX11_layBest_L41 F x1 x2 c33 n x3 x4 σ) (w0 σ) 41 [(0, vr G 143), (1, vi x1), (3, vi x3), (4, vi x4)] [] := by
  intro n
  induction n with
  | zero =>
    intro _ _ _
    exact z_none
  | succ n ih =>
    intro x3 x4 σ
    show ZZ X G 9 (QM X G vzV wzV (0, 0)) (0, 0) (if w32 x4 ≥ w32 (σ 143 40) then c33 (x3 + (-1)) σ else gd (0 ≤ w32 ((512 * (x3 + 1)) + x4) ∧ w32 ((512 * (x3 + 1)) + x4) < 5120) (gX11_layBest_L70 F x1 x2 c33 (gX11_layBest_L41 F x1 x2 c33 n) F x3 x4 (σ 169 (w32 ((512 * (x3 + 1)) + x4))) 0 σ)) (w0 σ) 41 [(0, vr G 143), (1, vi x1), (3, vi x3), (4, vi x4)] []
    refine z_iload C 3 rfl dX11_layBest_41 43 rfl ?_
    refine z_aload_n C 0 rfl 0 rfl dX11_layBest_43 44 rfl ?_
    refine y_getI C fX11_288 one_11 dX11_layBest_44 47 rfl ?_
    refine z_icmp_ge C dX11_layBest_47 180 (by decide) 50 rfl rfl rfl (fun _ => ?_) (fun _ => ?_)
    · refine z_iinc (lv' := [(3, vi (x3 + (-1))), (0, vr G 143), (1, vi x1), (4, vi x4)]) C (by decide) 2 rfl dX11_layBest_180 183 rfl rfl ?_
      refine z_goto C dX11_layBest_183 33 (by decide) ?_
      refine z_lv (lv' := [(0, vr G 143), (1, vi x1), (3, vi (x3 + (-1)))]) [1, 2, 0] rfl ?_
      exact hc33 (x3 + (-1)) σ
    · refine z_aload_n C 0 rfl 0 rfl dX11_layBest_50 51 rfl ?_
      refine y_getR C fX11_85 one_11 lay_11_41 dX11_layBest_51 54 rfl ?_
      refine z_sipush C (by decide) dX11_layBest_54 57 rfl ?_
      refine z_iload_n C 3 rfl 2 rfl dX11_layBest_57 58 rfl ?_
      refine z_iconst C dX11_layBest_58 59 rfl ?_
      refine z_iadd C dX11_layBest_59 60 rfl ?_
      refine z_imul C dX11_layBest_60 61 rfl ?_
      refine z_iload C 3 rfl dX11_layBest_61 63 rfl ?_
      refine z_iadd C dX11_layBest_63 64 rfl ?_
      refine y_iald C lay_11_41.2 rfl dX11_layBest_64 65 rfl rfl (fun _ => ?_)
      refine z_istore (lv' := [(5, vi (σ 169 (w32 ((512 * (x3 + 1)) + x4)))), (0, vr G 143), (1, vi x1), (3, vi x3), (4, vi x4)]) C (by decide) dX11_layBest_65 67 rfl rfl ?_
      refine z_iconst C dX11_layBest_67 68 rfl ?_
      refine z_istore (lv' := [(6, vi 0), (5, vi (σ 169 (w32 ((512 * (x3 + 1)) + x4)))), (0, vr G 143), (1, vi x1), (3, vi x3), (4, vi x4)]) C (by decide) dX11_layBest_68 70 rfl rfl ?_
      refine z_lv (lv' := [(0, vr G 143), (1, vi x1), (3, vi x3), (4, vi x4), (5, vi (σ 169 (w32 ((512 * (x3 + 1)) + x4)))), (6, vi 0)]) [2, 3, 4, 5, 1, 0] rfl ?_
      exact pX11_layBest_L70 C R hR F x1 x2 c33 hc33 (gX11_layBest_L41 F x1 x2 c33 n) ih F x3 x4 (σ 169 (w32 ((512 * (x3 + 1)) + x4))) 0 σ
set_option maxRecDepth 100000 in
set_option maxHeartbeats 4000000 in
theorem pX11_layBest_L33 {X : MX} {G : GG} (C : CX X G 9 cX11_layBest RX11) (R : RT X none) (hR : mR X = rmX11_layBest) (F : Nat) (x1 : Int) (x2 : Int)  : ∀ (n : Nat) (x3 : Int) (σ : St), ZZ X G 9 (QM X G vzV wzV (0, 0)) (0, 0) (gX11_layBest_L33 F x1 x2 n x3 σ) (w0 σ) 33 [(0, vr G 143), (1, vi x1), (3, vi x3)] [] := by
  intro n
  induction n with
  | zero =>
    intro _ _
    exact z_none
  | succ n ih =>
    intro x3 σ
    show ZZ X G 9 (QM X G vzV wzV (0, 0)) (0, 0) (if w32 x3 < w32 x1 then some σ else gX11_layBest_L41 F x1 x2 (gX11_layBest_L33 F x1 x2 n) F x3 0 σ) (w0 σ) 33 [(0, vr G 143), (1, vi x1), (3, vi x3)] []
    refine z_iload_n C 3 rfl 2 rfl dX11_layBest_33 34 rfl ?_
    refine z_iload_n C 1 rfl 1 rfl dX11_layBest_34 35 rfl ?_
    refine z_icmp_lt C dX11_layBest_35 186 (by decide) 38 rfl rfl rfl (fun _ => ?_) (fun _ => ?_)
    · exact z_vret C R rfl rfl dX11_layBest_186
    · refine z_iconst C dX11_layBest_38 39 rfl ?_
      refine z_istore (lv' := [(4, vi 0), (0, vr G 143), (1, vi x1), (3, vi x3)]) C (by decide) dX11_layBest_39 41 rfl rfl ?_
      refine z_lv (lv' := [(0, vr G 143), (1, vi x1), (3, vi x3), (4, vi 0)]) [1, 2, 3, 0] rfl ?_
      exact pX11_layBest_L41 C R hR F x1 x2 (gX11_layBest_L33 F x1 x2 n) ih F x3 0 σ
set_option maxRecDepth 100000 in
set_option maxHeartbeats 4000000 in
theorem pX11_layBest_L2 {X : MX} {G : GG} (C : CX X G 9 cX11_layBest RX11) (R : RT X none) (hR : mR X = rmX11_layBest) (F : Nat) (x1 : Int) (x2 : Int)  : ∀ (n : Nat) (x3 : Int) (σ : St), ZZ X G 9 (QM X G vzV wzV (0, 0)) (0, 0) (gX11_layBest_L2 F x1 x2 n x3 σ) (w0 σ) 2 [(0, vr G 143), (1, vi x1), (2, vi x2), (3, vi x3)] [] := by
  intro n
  induction n with
  | zero =>
    intro _ _
    exact z_none
  | succ n ih =>
    intro x3 σ
    show ZZ X G 9 (QM X G vzV wzV (0, 0)) (0, 0) (if w32 x3 ≥ w32 (σ 143 40) then gX11_layBest_L33 F x1 x2 F (x2 - 1) σ else gd (0 ≤ w32 ((512 * x2) + x3) ∧ w32 ((512 * x2) + x3) < 5120) (gX11_layBest_L2 F x1 x2 n (x3 + 1) (up σ 169 (w32 ((512 * x2) + x3)) 0))) (w0 σ) 2 [(0, vr G 143), (1, vi x1), (2, vi x2), (3, vi x3)] []
    refine z_iload_n C 3 rfl 3 rfl dX11_layBest_2 3 rfl ?_
    refine z_aload_n C 0 rfl 0 rfl dX11_layBest_3 4 rfl ?_
    refine y_getI C fX11_288 one_11 dX11_layBest_4 7 rfl ?_
    refine z_icmp_ge C dX11_layBest_7 29 (by decide) 10 rfl rfl rfl (fun _ => ?_) (fun _ => ?_)
    · refine z_iload_n C 2 rfl 2 rfl dX11_layBest_29 30 rfl ?_
      refine z_iconst C dX11_layBest_30 31 rfl ?_
      refine z_isub C dX11_layBest_31 32 rfl ?_
      refine z_istore_n (lv' := [(3, vi (x2 - 1)), (0, vr G 143), (1, vi x1), (2, vi x2)]) C 3 rfl (by decide) dX11_layBest_32 33 rfl rfl ?_
      refine z_lv (lv' := [(0, vr G 143), (1, vi x1), (3, vi (x2 - 1))]) [1, 2, 0] rfl ?_
      exact pX11_layBest_L33 C R hR F x1 x2 F (x2 - 1) σ
    · refine z_aload_n C 0 rfl 0 rfl dX11_layBest_10 11 rfl ?_
      refine y_getR C fX11_85 one_11 lay_11_41 dX11_layBest_11 14 rfl ?_
      refine z_sipush C (by decide) dX11_layBest_14 17 rfl ?_
      refine z_iload_n C 2 rfl 2 rfl dX11_layBest_17 18 rfl ?_
      refine z_imul C dX11_layBest_18 19 rfl ?_
      refine z_iload_n C 3 rfl 3 rfl dX11_layBest_19 20 rfl ?_
      refine z_iadd C dX11_layBest_20 21 rfl ?_
      refine z_iconst C dX11_layBest_21 22 rfl ?_
      refine y_iast C lay_11_41.2 rfl dX11_layBest_22 23 rfl rfl (fun _ => ?_)
      refine z_iinc (lv' := [(3, vi (x3 + 1)), (0, vr G 143), (1, vi x1), (2, vi x2)]) C (by decide) 3 rfl dX11_layBest_23 26 rfl rfl ?_
      refine z_goto C dX11_layBest_26 2 (by decide) ?_
      refine z_lv (lv' := [(0, vr G 143), (1, vi x1), (2, vi x2), (3, vi (x3 + 1))]) [1, 2, 3, 0] rfl ?_
      exact ih (x3 + 1) (up σ 169 (w32 ((512 * x2) + x3)) 0)
set_option maxRecDepth 100000 in
set_option maxHeartbeats 4000000 in
theorem tX11_layBest (l : Launch) (G : GG) (F : Nat) (σ : St) (x1 : Int) (x2 : Int) : Ctr l G yX11_layBest cX11_layBest 9 none rmX11_layBest [vr G 143, vi x1, vi x2] (w0 σ) vzV wzV (gX11_layBest F σ x1 x2) := by
  refine ctr_of (by decide) (Nat.le_of_ble_eq_true rfl) mwX11_layBest.1 (fun X hl hR C R hnm => ?_)
  subst hl
  refine z_lv (lv' := [(0, vr G 143), (1, vi x1), (2, vi x2)]) [0, 1, 2] rfl ?_
  show ZZ X G 9 (QM X G vzV wzV (0, 0)) (0, 0) (gX11_layBest_L2 F x1 x2 F 0 σ) (w0 σ) 0 [(0, vr G 143), (1, vi x1), (2, vi x2)] []
  refine z_iconst C dX11_layBest_0 1 rfl ?_
  refine z_istore_n (lv' := [(3, vi 0), (0, vr G 143), (1, vi x1), (2, vi x2)]) C 3 rfl (by decide) dX11_layBest_1 2 rfl rfl ?_
  refine z_lv (lv' := [(0, vr G 143), (1, vi x1), (2, vi x2), (3, vi 0)]) [1, 2, 3, 0] rfl ?_
  exact pX11_layBest_L2 C R hR F x1 x2 F 0 σ
-- capsAsRooms
def gX11_capsAsRooms_L2 (F : Nat) : Nat → Int → St → Option (St)
  | 0, _, _ => none
  | n + 1, x1, σ => if w32 x1 ≥ w32 (σ 143 0) then (gX11_layFigures F σ).bind fun r1 => some r1 else gd (0 ≤ w32 x1 ∧ w32 x1 < 6) (gd (0 ≤ w32 x1 ∧ w32 x1 < 6) (gX11_capsAsRooms_L2 F n (x1 + 1) (up σ 167 (w32 x1) (σ 144 (w32 x1)))))
def gX11_capsAsRooms (F : Nat) (σ : St) : Option (St) := gX11_capsAsRooms_L2 F F 0 σ
def rmX11_capsAsRooms : Room := { frames := 1, cells := 0, slots := 0, locals := 21 }
set_option maxRecDepth 100000 in
set_option maxHeartbeats 4000000 in
theorem pX11_capsAsRooms_L2 {X : MX} {G : GG} (C : CX X G 2 cX11_capsAsRooms RX11) (R : RT X none) (hR : mR X = rmX11_capsAsRooms) (F : Nat)  : ∀ (n : Nat) (x1 : Int) (σ : St), ZZ X G 2 (QM X G vzV wzV (0, 0)) (0, 0) (gX11_capsAsRooms_L2 F n x1 σ) (w0 σ) 2 [(0, vr G 143), (1, vi x1)] [] := by
  intro n
  induction n with
  | zero =>
    intro _ _
    exact z_none
  | succ n ih =>
    intro x1 σ
    show ZZ X G 2 (QM X G vzV wzV (0, 0)) (0, 0) (if w32 x1 ≥ w32 (σ 143 0) then (gX11_layFigures F σ).bind fun r1 => some r1 else gd (0 ≤ w32 x1 ∧ w32 x1 < 6) (gd (0 ≤ w32 x1 ∧ w32 x1 < 6) (gX11_capsAsRooms_L2 F n (x1 + 1) (up σ 167 (w32 x1) (σ 144 (w32 x1)))))) (w0 σ) 2 [(0, vr G 143), (1, vi x1)] []
    refine z_iload_n C 1 rfl 1 rfl dX11_capsAsRooms_2 3 rfl ?_
    refine z_aload_n C 0 rfl 0 rfl dX11_capsAsRooms_3 4 rfl ?_
    refine y_getI C fX11_122 one_11 dX11_capsAsRooms_4 7 rfl ?_
    refine z_icmp_ge C dX11_capsAsRooms_7 28 (by decide) 10 rfl rfl rfl (fun _ => ?_) (fun _ => ?_)
    · refine z_aload_n C 0 rfl 0 rfl dX11_capsAsRooms_28 29 rfl ?_
      refine y_callVv C hR (tX11_layFigures (mL X) G F σ) ⟨mwX11_layFigures, mvX11_layFigures, lkX11_295⟩ one_11 rfl rfl (Nat.le_of_ble_eq_true rfl) (by unfold rmOK; decide) dX11_capsAsRooms_29 32 rfl (fun r1 _ => ?_)
      exact z_vret C R rfl rfl dX11_capsAsRooms_32
    · refine z_aload_n C 0 rfl 0 rfl dX11_capsAsRooms_10 11 rfl ?_
      refine y_getR C fX11_79 one_11 lay_11_38 dX11_capsAsRooms_11 14 rfl ?_
      refine z_iload_n C 1 rfl 1 rfl dX11_capsAsRooms_14 15 rfl ?_
      refine z_aload_n C 0 rfl 0 rfl dX11_capsAsRooms_15 16 rfl ?_
      refine y_getR C fX11_7 one_11 lay_11_1 dX11_capsAsRooms_16 19 rfl ?_
      refine z_iload_n C 1 rfl 1 rfl dX11_capsAsRooms_19 20 rfl ?_
      refine y_iald C lay_11_1.2 rfl dX11_capsAsRooms_20 21 rfl rfl (fun _ => ?_)
      refine y_iast C lay_11_38.2 rfl dX11_capsAsRooms_21 22 rfl rfl (fun _ => ?_)
      refine z_iinc (lv' := [(1, vi (x1 + 1)), (0, vr G 143)]) C (by decide) 1 rfl dX11_capsAsRooms_22 25 rfl rfl ?_
      refine z_goto C dX11_capsAsRooms_25 2 (by decide) ?_
      refine z_lv (lv' := [(0, vr G 143), (1, vi (x1 + 1))]) [1, 0] rfl ?_
      exact ih (x1 + 1) (up σ 167 (w32 x1) (σ 144 (w32 x1)))
set_option maxRecDepth 100000 in
set_option maxHeartbeats 4000000 in
theorem tX11_capsAsRooms (l : Launch) (G : GG) (F : Nat) (σ : St) : Ctr l G yX11_capsAsRooms cX11_capsAsRooms 2 none rmX11_capsAsRooms [vr G 143] (w0 σ) vzV wzV (gX11_capsAsRooms F σ) := by
  refine ctr_of (by decide) (Nat.le_of_ble_eq_true rfl) mwX11_capsAsRooms.1 (fun X hl hR C R hnm => ?_)
  subst hl
  refine z_lv (lv' := [(0, vr G 143)]) [0] rfl ?_
  show ZZ X G 2 (QM X G vzV wzV (0, 0)) (0, 0) (gX11_capsAsRooms_L2 F F 0 σ) (w0 σ) 0 [(0, vr G 143)] []
  refine z_iconst C dX11_capsAsRooms_0 1 rfl ?_
  refine z_istore_n (lv' := [(1, vi 0), (0, vr G 143)]) C 1 rfl (by decide) dX11_capsAsRooms_1 2 rfl rfl ?_
  refine z_lv (lv' := [(0, vr G 143), (1, vi 0)]) [1, 0] rfl ?_
  exact pX11_capsAsRooms_L2 C R hR F F 0 σ
-- bestSum
def gX11_bestSum (F : Nat) (σ : St) : Option (Int × St) := (gX11_layBest F σ 0 (σ 143 4)).bind fun r1 => (gX11_whole r1).bind fun r2 => gd (0 ≤ w32 r2 ∧ w32 r2 < 5120) (some (r1 169 (w32 r2), r1))
def rmX11_bestSum : Room := { frames := 2, cells := 0, slots := 0, locals := 50 }
set_option maxRecDepth 100000 in
set_option maxHeartbeats 4000000 in
theorem tX11_bestSum (l : Launch) (G : GG) (F : Nat) (σ : St) : Ctr l G yX11_bestSum cX11_bestSum 1 (some .int) rmX11_bestSum [vr G 143] (w0 σ) vzIw wzW (gX11_bestSum F σ) := by
  refine ctr_of (by decide) (Nat.le_of_ble_eq_true rfl) mwX11_bestSum.1 (fun X hl hR C R hnm => ?_)
  subst hl
  refine z_lv (lv' := [(0, vr G 143)]) [0] rfl ?_
  show ZZ X G 1 (QM X G vzIw wzW (0, 0)) (0, 0) ((gX11_layBest F σ 0 (σ 143 4)).bind fun r1 => (gX11_whole r1).bind fun r2 => gd (0 ≤ w32 r2 ∧ w32 r2 < 5120) (some (r1 169 (w32 r2), r1))) (w0 σ) 0 [(0, vr G 143)] []
  refine z_aload_n C 0 rfl 0 rfl dX11_bestSum_0 1 rfl ?_
  refine z_iconst C dX11_bestSum_1 2 rfl ?_
  refine z_aload_n C 0 rfl 0 rfl dX11_bestSum_2 3 rfl ?_
  refine y_getI C fX11_130 one_11 dX11_bestSum_3 6 rfl ?_
  refine y_callVv C hR (tX11_layBest (mL X) G F σ 0 (σ 143 4)) ⟨mwX11_layBest, mvX11_layBest, lkX11_298⟩ one_11 rfl rfl (Nat.le_of_ble_eq_true rfl) (by unfold rmOK; decide) dX11_bestSum_6 9 rfl (fun r1 _ => ?_)
  refine z_aload_n C 0 rfl 0 rfl dX11_bestSum_9 10 rfl ?_
  refine y_getR C fX11_85 one_11 lay_11_41 dX11_bestSum_10 13 rfl ?_
  refine z_aload_n C 0 rfl 0 rfl dX11_bestSum_13 14 rfl ?_
  refine y_callVI C hR (tX11_whole (mL X) G r1) ⟨mwX11_whole, mvX11_whole, lkX11_302⟩ one_11 rfl rfl (Nat.le_of_ble_eq_true rfl) (by unfold rmOK; decide) dX11_bestSum_14 17 rfl (fun r2 _ => ?_)
  refine y_iald C lay_11_41.2 rfl dX11_bestSum_17 18 rfl rfl (fun _ => ?_)
  exact z_iret C R rfl rfl dX11_bestSum_18
-- best
def gX11_best (F : Nat) (σ : St) : Option (Int × St) := (gX11_capsAsRooms F σ).bind fun r1 => (gX11_bestSum F r1).bind fun r2 => some (r2.1, r2.2)
def rmX11_best : Room := { frames := 3, cells := 0, slots := 0, locals := 70 }
set_option maxRecDepth 100000 in
set_option maxHeartbeats 4000000 in
theorem tX11_best (l : Launch) (G : GG) (F : Nat) (σ : St) : Ctr l G yX11_best cX11_best 1 (some .int) rmX11_best [vr G 143] (w0 σ) vzIw wzW (gX11_best F σ) := by
  refine ctr_of (by decide) (Nat.le_of_ble_eq_true rfl) mwX11_best.1 (fun X hl hR C R hnm => ?_)
  subst hl
  refine z_lv (lv' := [(0, vr G 143)]) [0] rfl ?_
  show ZZ X G 1 (QM X G vzIw wzW (0, 0)) (0, 0) ((gX11_capsAsRooms F σ).bind fun r1 => (gX11_bestSum F r1).bind fun r2 => some (r2.1, r2.2)) (w0 σ) 0 [(0, vr G 143)] []
  refine z_aload_n C 0 rfl 0 rfl dX11_best_0 1 rfl ?_
  refine y_callVv C hR (tX11_capsAsRooms (mL X) G F σ) ⟨mwX11_capsAsRooms, mvX11_capsAsRooms, lkX11_305⟩ one_11 rfl rfl (Nat.le_of_ble_eq_true rfl) (by unfold rmOK; decide) dX11_best_1 4 rfl (fun r1 _ => ?_)
  refine z_aload_n C 0 rfl 0 rfl dX11_best_4 5 rfl ?_
  refine y_callVIw C hR (tX11_bestSum (mL X) G F r1) ⟨mwX11_bestSum, mvX11_bestSum, lkX11_308⟩ one_11 rfl rfl (Nat.le_of_ble_eq_true rfl) (by unfold rmOK; decide) dX11_best_5 8 rfl (fun r2 _ => ?_)
  exact z_iret C R rfl rfl dX11_best_8
-- layPairs
def gX11_layPairs_L165 (F : Nat) (x1 : Int) (x2 : Int) (x3 : Int) (c6 : Int → Int → St → Option (Int × St)) (x5 : Int) (s0 : Int) (s1 : Int) (σ : St) : Option (Int × St) := c6 (s0 - s1) (x5 + 1) σ
def gX11_layPairs_L135 (F : Nat) (x1 : Int) (x2 : Int) (x3 : Int) (c6 : Int → Int → St → Option (Int × St)) (x4 : Int) (x5 : Int) (σ : St) : Option (Int × St) := gd (0 ≤ w32 x5 ∧ w32 x5 < 9) (if w32 (σ 170 (w32 x5)) ≠ (-4) then gd (0 ≤ w32 x5 ∧ w32 x5 < 9) (gd (0 ≤ w32 (σ 170 (w32 x5)) ∧ w32 (σ 170 (w32 x5)) < 6) (gX11_layPairs_L165 F x1 x2 x3 c6 x5 x4 (σ 168 (w32 (σ 170 (w32 x5)))) σ)) else gX11_layPairs_L165 F x1 x2 x3 c6 x5 x4 0 σ)
def gX11_layPairs_L129 (F : Nat) (x1 : Int) (x2 : Int) (x3 : Int) (c6 : Int → Int → St → Option (Int × St)) (c24 : Int → Int → Int → St → Option (Int × St)) (x4 : Int) (x5 : Int) (x6 : Int) (σ : St) : Option (Int × St) := c24 x4 x5 (x6 + 1) σ
def gX11_layPairs_L24 (F : Nat) (x1 : Int) (x2 : Int) (x3 : Int) (c6 : Int → Int → St → Option (Int × St)) : Nat → Int → Int → Int → St → Option (Int × St)
  | 0, _, _, _, _ => none
  | n + 1, x4, x5, x6, σ => if w32 x6 ≥ w32 (σ 143 0) then gX11_layPairs_L135 F x1 x2 x3 c6 x4 x5 σ else gd (0 ≤ w32 x5 ∧ w32 x5 < 9) (if w32 (σ 170 (w32 x5)) ≠ (-4) then gX11_layPairs_L135 F x1 x2 x3 c6 x4 x5 σ else gd (0 ≤ w32 ((6 * x5) + x6) ∧ w32 ((6 * x5) + x6) < 54) (if w32 (σ 148 (w32 ((6 * x5) + x6))) ≤ 0 then gX11_layPairs_L129 F x1 x2 x3 c6 (gX11_layPairs_L24 F x1 x2 x3 c6 n) x4 x5 x6 σ else (gX11_hasRoom σ x4 x6).bind fun r1 => if w32 r1 = 0 then gX11_layPairs_L129 F x1 x2 x3 c6 (gX11_layPairs_L24 F x1 x2 x3 c6 n) x4 x5 x6 σ else gd (0 ≤ w32 x6 ∧ w32 x6 < 6) (gd (0 ≤ w32 (((512 * (x5 + 1)) + x4) - (σ 168 (w32 x6))) ∧ w32 (((512 * (x5 + 1)) + x4) - (σ 168 (w32 x6))) < 5120) (gd (0 ≤ w32 ((512 * x5) + x4) ∧ w32 ((512 * x5) + x4) < 5120) (if w32 ((σ 148 (w32 ((6 * x5) + x6))) + (σ 169 (w32 (((512 * (x5 + 1)) + x4) - (σ 168 (w32 x6)))))) ≠ w32 (σ 169 (w32 ((512 * x5) + x4))) then gX11_layPairs_L129 F x1 x2 x3 c6 (gX11_layPairs_L24 F x1 x2 x3 c6 n) x4 x5 x6 σ else gd (0 ≤ w32 x5 ∧ w32 x5 < 9) (gX11_layPairs_L129 F x1 x2 x3 c6 (gX11_layPairs_L24 F x1 x2 x3 c6 n) x4 x5 x6 (up σ 170 (w32 x5) x6)))))))
def gX11_layPairs_L6 (F : Nat) (x1 : Int) (x2 : Int) (x3 : Int) : Nat → Int → Int → St → Option (Int × St)
  | 0, _, _, _ => none
  | n + 1, x4, x5, σ => if w32 x5 ≥ w32 x2 then some (x4, σ) else gd (0 ≤ w32 x5 ∧ w32 x5 < 9) (gX11_layPairs_L24 F x1 x2 x3 (gX11_layPairs_L6 F x1 x2 x3 n) F x4 x5 0 (up σ 170 (w32 x5) ((-4))))
def gX11_layPairs (F : Nat) (σ : St) (x1 : Int) (x2 : Int) (x3 : Int) : Option (Int × St) := gX11_layPairs_L6 F x1 x2 x3 F x3 x1 σ
def rmX11_layPairs : Room := { frames := 1, cells := 0, slots := 0, locals := 22 }
set_option maxRecDepth 100000 in
set_option maxHeartbeats 4000000 in
theorem pX11_layPairs_L165 {X : MX} {G : GG} (C : CX X G 8 cX11_layPairs RX11) (R : RT X (some .int)) (hR : mR X = rmX11_layPairs) (F : Nat) (x1 : Int) (x2 : Int) (x3 : Int) (c6 : Int → Int → St → Option (Int × St)) (hc6 : ∀ (x4 : Int) (x5 : Int) (σ : St), ZZ X G 8 (QM X G vzIw wzW (0, 0)) (0, 0) (c6 x4 x5 σ) (w0 σ) 6 [(0, vr G 143), (2, vi x2), (4, vi x4), (5, vi x5)] []) : ∀ (x5 : Int) (s0 : Int) (s1 : Int) (σ : St), ZZ X G 8 (QM X G vzIw wzW (0, 0)) (0, 0) (gX11_layPairs_L165 F x1 x2 x3 c6 x5 s0 s1 σ) (w0 σ) 165 [(0, vr G 143), (2, vi x2), (5, vi x5)] [vi s1, vi s0] := by
  intro x5 s0 s1 σ
  show ZZ X G 8 (QM X G vzIw wzW (0, 0)) (0, 0) (c6 (s0 - s1) (x5 + 1) σ) (w0 σ) 165 [(0, vr G 143), (2, vi x2), (5, vi x5)] [vi s1, vi s0]
  refine z_isub C dX11_layPairs_165 166 rfl ?_
  refine z_istore (lv' := [(4, vi (s0 - s1)), (0, vr G 143), (2, vi x2), (5, vi x5)]) C (by decide) dX11_layPairs_166 168 rfl rfl ?_
  refine z_iinc (lv' := [(5, vi (x5 + 1)), (4, vi (s0 - s1)), (0, vr G 143), (2, vi x2)]) C (by decide) 3 rfl dX11_layPairs_168 171 rfl rfl ?_
  refine z_goto C dX11_layPairs_171 6 (by decide) ?_
  refine z_lv (lv' := [(0, vr G 143), (2, vi x2), (4, vi (s0 - s1)), (5, vi (x5 + 1))]) [2, 3, 1, 0] rfl ?_
  exact hc6 (s0 - s1) (x5 + 1) σ
set_option maxRecDepth 100000 in
set_option maxHeartbeats 4000000 in
theorem pX11_layPairs_L135 {X : MX} {G : GG} (C : CX X G 8 cX11_layPairs RX11) (R : RT X (some .int)) (hR : mR X = rmX11_layPairs) (F : Nat) (x1 : Int) (x2 : Int) (x3 : Int) (c6 : Int → Int → St → Option (Int × St)) (hc6 : ∀ (x4 : Int) (x5 : Int) (σ : St), ZZ X G 8 (QM X G vzIw wzW (0, 0)) (0, 0) (c6 x4 x5 σ) (w0 σ) 6 [(0, vr G 143), (2, vi x2), (4, vi x4), (5, vi x5)] []) : ∀ (x4 : Int) (x5 : Int) (σ : St), ZZ X G 8 (QM X G vzIw wzW (0, 0)) (0, 0) (gX11_layPairs_L135 F x1 x2 x3 c6 x4 x5 σ) (w0 σ) 135 [(0, vr G 143), (2, vi x2), (4, vi x4), (5, vi x5)] [] := by
  intro x4 x5 σ
  show ZZ X G 8 (QM X G vzIw wzW (0, 0)) (0, 0) (gd (0 ≤ w32 x5 ∧ w32 x5 < 9) (if w32 (σ 170 (w32 x5)) ≠ (-4) then gd (0 ≤ w32 x5 ∧ w32 x5 < 9) (gd (0 ≤ w32 (σ 170 (w32 x5)) ∧ w32 (σ 170 (w32 x5)) < 6) (gX11_layPairs_L165 F x1 x2 x3 c6 x5 x4 (σ 168 (w32 (σ 170 (w32 x5)))) σ)) else gX11_layPairs_L165 F x1 x2 x3 c6 x5 x4 0 σ)) (w0 σ) 135 [(0, vr G 143), (2, vi x2), (4, vi x4), (5, vi x5)] []
  refine z_iload C 2 rfl dX11_layPairs_135 137 rfl ?_
  refine z_aload_n C 0 rfl 0 rfl dX11_layPairs_137 138 rfl ?_
  refine y_getR C fX11_88 one_11 lay_11_42 dX11_layPairs_138 141 rfl ?_
  refine z_iload C 3 rfl dX11_layPairs_141 143 rfl ?_
  refine y_iald C lay_11_42.2 rfl dX11_layPairs_143 144 rfl rfl (fun _ => ?_)
  refine z_bipush C (by decide) dX11_layPairs_144 146 rfl ?_
  refine z_icmp_ne C dX11_layPairs_146 153 (by decide) 149 rfl rfl (w32_id (a := (-4)) (by decide)) (fun _ => ?_) (fun _ => ?_)
  · refine z_aload_n C 0 rfl 0 rfl dX11_layPairs_153 154 rfl ?_
    refine y_getR C fX11_82 one_11 lay_11_39 dX11_layPairs_154 157 rfl ?_
    refine z_aload_n C 0 rfl 0 rfl dX11_layPairs_157 158 rfl ?_
    refine y_getR C fX11_88 one_11 lay_11_42 dX11_layPairs_158 161 rfl ?_
    refine z_iload C 3 rfl dX11_layPairs_161 163 rfl ?_
    refine y_iald C lay_11_42.2 rfl dX11_layPairs_163 164 rfl rfl (fun _ => ?_)
    refine y_iald C lay_11_39.2 rfl dX11_layPairs_164 165 rfl rfl (fun _ => ?_)
    refine z_lv (lv' := [(0, vr G 143), (2, vi x2), (5, vi x5)]) [0, 1, 3] rfl ?_
    exact pX11_layPairs_L165 C R hR F x1 x2 x3 c6 hc6 x5 x4 (σ 168 (w32 (σ 170 (w32 x5)))) σ
  · refine z_iconst C dX11_layPairs_149 150 rfl ?_
    refine z_goto C dX11_layPairs_150 165 (by decide) ?_
    refine z_lv (lv' := [(0, vr G 143), (2, vi x2), (5, vi x5)]) [0, 1, 3] rfl ?_
    exact pX11_layPairs_L165 C R hR F x1 x2 x3 c6 hc6 x5 x4 0 σ
set_option maxRecDepth 100000 in
set_option maxHeartbeats 4000000 in
theorem pX11_layPairs_L129 {X : MX} {G : GG} (C : CX X G 8 cX11_layPairs RX11) (R : RT X (some .int)) (hR : mR X = rmX11_layPairs) (F : Nat) (x1 : Int) (x2 : Int) (x3 : Int) (c6 : Int → Int → St → Option (Int × St)) (hc6 : ∀ (x4 : Int) (x5 : Int) (σ : St), ZZ X G 8 (QM X G vzIw wzW (0, 0)) (0, 0) (c6 x4 x5 σ) (w0 σ) 6 [(0, vr G 143), (2, vi x2), (4, vi x4), (5, vi x5)] []) (c24 : Int → Int → Int → St → Option (Int × St)) (hc24 : ∀ (x4 : Int) (x5 : Int) (x6 : Int) (σ : St), ZZ X G 8 (QM X G vzIw wzW (0, 0)) (0, 0) (c24 x4 x5 x6 σ) (w0 σ) 24 [(0, vr G 143), (2, vi x2), (4, vi x4), (5, vi x5), (6, vi x6)] []) : ∀ (x4 : Int) (x5 : Int) (x6 : Int) (σ : St), ZZ X G 8 (QM X G vzIw wzW (0, 0)) (0, 0) (gX11_layPairs_L129 F x1 x2 x3 c6 c24 x4 x5 x6 σ) (w0 σ) 129 [(0, vr G 143), (2, vi x2), (4, vi x4), (5, vi x5), (6, vi x6)] [] := by
  intro x4 x5 x6 σ
  show ZZ X G 8 (QM X G vzIw wzW (0, 0)) (0, 0) (c24 x4 x5 (x6 + 1) σ) (w0 σ) 129 [(0, vr G 143), (2, vi x2), (4, vi x4), (5, vi x5), (6, vi x6)] []
  refine z_iinc (lv' := [(6, vi (x6 + 1)), (0, vr G 143), (2, vi x2), (4, vi x4), (5, vi x5)]) C (by decide) 4 rfl dX11_layPairs_129 132 rfl rfl ?_
  refine z_goto C dX11_layPairs_132 24 (by decide) ?_
  refine z_lv (lv' := [(0, vr G 143), (2, vi x2), (4, vi x4), (5, vi x5), (6, vi (x6 + 1))]) [1, 2, 3, 4, 0] rfl ?_
  exact hc24 x4 x5 (x6 + 1) σ
set_option maxRecDepth 100000 in
set_option maxHeartbeats 4000000 in
theorem pX11_layPairs_L24 {X : MX} {G : GG} (C : CX X G 8 cX11_layPairs RX11) (R : RT X (some .int)) (hR : mR X = rmX11_layPairs) (F : Nat) (x1 : Int) (x2 : Int) (x3 : Int) (c6 : Int → Int → St → Option (Int × St)) (hc6 : ∀ (x4 : Int) (x5 : Int) (σ : St), ZZ X G 8 (QM X G vzIw wzW (0, 0)) (0, 0) (c6 x4 x5 σ) (w0 σ) 6 [(0, vr G 143), (2, vi x2), (4, vi x4), (5, vi x5)] []) : ∀ (n : Nat) (x4 : Int) (x5 : Int) (x6 : Int) (σ : St), ZZ X G 8 (QM X G vzIw wzW (0, 0)) (0, 0) (gX11_layPairs_L24 F x1 x2 x3 c6 n x4 x5 x6 σ) (w0 σ) 24 [(0, vr G 143), (2, vi x2), (4, vi x4), (5, vi x5), (6, vi x6)] [] := by
  intro n
  induction n with
  | zero =>
    intro _ _ _ _
    exact z_none
  | succ n ih =>
    intro x4 x5 x6 σ
    show ZZ X G 8 (QM X G vzIw wzW (0, 0)) (0, 0) (if w32 x6 ≥ w32 (σ 143 0) then gX11_layPairs_L135 F x1 x2 x3 c6 x4 x5 σ else gd (0 ≤ w32 x5 ∧ w32 x5 < 9) (if w32 (σ 170 (w32 x5)) ≠ (-4) then gX11_layPairs_L135 F x1 x2 x3 c6 x4 x5 σ else gd (0 ≤ w32 ((6 * x5) + x6) ∧ w32 ((6 * x5) + x6) < 54) (if w32 (σ 148 (w32 ((6 * x5) + x6))) ≤ 0 then gX11_layPairs_L129 F x1 x2 x3 c6 (gX11_layPairs_L24 F x1 x2 x3 c6 n) x4 x5 x6 σ else (gX11_hasRoom σ x4 x6).bind fun r1 => if w32 r1 = 0 then gX11_layPairs_L129 F x1 x2 x3 c6 (gX11_layPairs_L24 F x1 x2 x3 c6 n) x4 x5 x6 σ else gd (0 ≤ w32 x6 ∧ w32 x6 < 6) (gd (0 ≤ w32 (((512 * (x5 + 1)) + x4) - (σ 168 (w32 x6))) ∧ w32 (((512 * (x5 + 1)) + x4) - (σ 168 (w32 x6))) < 5120) (gd (0 ≤ w32 ((512 * x5) + x4) ∧ w32 ((512 * x5) + x4) < 5120) (if w32 ((σ 148 (w32 ((6 * x5) + x6))) + (σ 169 (w32 (((512 * (x5 + 1)) + x4) - (σ 168 (w32 x6)))))) ≠ w32 (σ 169 (w32 ((512 * x5) + x4))) then gX11_layPairs_L129 F x1 x2 x3 c6 (gX11_layPairs_L24 F x1 x2 x3 c6 n) x4 x5 x6 σ else gd (0 ≤ w32 x5 ∧ w32 x5 < 9) (gX11_layPairs_L129 F x1 x2 x3 c6 (gX11_layPairs_L24 F x1 x2 x3 c6 n) x4 x5 x6 (up σ 170 (w32 x5) x6)))))))) (w0 σ) 24 [(0, vr G 143), (2, vi x2), (4, vi x4), (5, vi x5), (6, vi x6)] []
    refine z_iload C 4 rfl dX11_layPairs_24 26 rfl ?_
    refine z_aload_n C 0 rfl 0 rfl dX11_layPairs_26 27 rfl ?_
    refine y_getI C fX11_122 one_11 dX11_layPairs_27 30 rfl ?_
    refine z_icmp_ge C dX11_layPairs_30 135 (by decide) 33 rfl rfl rfl (fun _ => ?_) (fun _ => ?_)
    · refine z_lv (lv' := [(0, vr G 143), (2, vi x2), (4, vi x4), (5, vi x5)]) [0, 1, 2, 3] rfl ?_
      exact pX11_layPairs_L135 C R hR F x1 x2 x3 c6 hc6 x4 x5 σ
    · refine z_aload_n C 0 rfl 0 rfl dX11_layPairs_33 34 rfl ?_
      refine y_getR C fX11_88 one_11 lay_11_42 dX11_layPairs_34 37 rfl ?_
      refine z_iload C 3 rfl dX11_layPairs_37 39 rfl ?_
      refine y_iald C lay_11_42.2 rfl dX11_layPairs_39 40 rfl rfl (fun _ => ?_)
      refine z_bipush C (by decide) dX11_layPairs_40 42 rfl ?_
      refine z_icmp_ne C dX11_layPairs_42 135 (by decide) 45 rfl rfl (w32_id (a := (-4)) (by decide)) (fun _ => ?_) (fun _ => ?_)
      · refine z_lv (lv' := [(0, vr G 143), (2, vi x2), (4, vi x4), (5, vi x5)]) [0, 1, 2, 3] rfl ?_
        exact pX11_layPairs_L135 C R hR F x1 x2 x3 c6 hc6 x4 x5 σ
      · refine z_aload_n C 0 rfl 0 rfl dX11_layPairs_45 46 rfl ?_
        refine y_getR C fX11_22 one_11 lay_11_6 dX11_layPairs_46 49 rfl ?_
        refine z_bipush C (by decide) dX11_layPairs_49 51 rfl ?_
        refine z_iload C 3 rfl dX11_layPairs_51 53 rfl ?_
        refine z_imul C dX11_layPairs_53 54 rfl ?_
        refine z_iload C 4 rfl dX11_layPairs_54 56 rfl ?_
        refine z_iadd C dX11_layPairs_56 57 rfl ?_
        refine y_iald C lay_11_6.2 rfl dX11_layPairs_57 58 rfl rfl (fun _ => ?_)
        refine z_istore (lv' := [(7, vi (σ 148 (w32 ((6 * x5) + x6)))), (0, vr G 143), (2, vi x2), (4, vi x4), (5, vi x5), (6, vi x6)]) C (by decide) dX11_layPairs_58 60 rfl rfl ?_
        refine z_iload C 0 rfl dX11_layPairs_60 62 rfl ?_
        refine z_if_le C dX11_layPairs_62 129 (by decide) 65 rfl rfl (fun _ => ?_) (fun _ => ?_)
        · refine z_lv (lv' := [(0, vr G 143), (2, vi x2), (4, vi x4), (5, vi x5), (6, vi x6)]) [1, 2, 3, 4, 5] rfl ?_
          exact pX11_layPairs_L129 C R hR F x1 x2 x3 c6 hc6 (gX11_layPairs_L24 F x1 x2 x3 c6 n) ih x4 x5 x6 σ
        · refine z_aload_n C 0 rfl 1 rfl dX11_layPairs_65 66 rfl ?_
          refine z_iload C 3 rfl dX11_layPairs_66 68 rfl ?_
          refine z_iload C 5 rfl dX11_layPairs_68 70 rfl ?_
          refine y_callVI C hR (tX11_hasRoom (mL X) G σ x4 x6) ⟨mwX11_hasRoom, mvX11_hasRoom, lkX11_291⟩ one_11 rfl rfl (Nat.le_of_ble_eq_true rfl) (by unfold rmOK; decide) dX11_layPairs_70 73 rfl (fun r1 _ => ?_)
          refine z_if_eq C dX11_layPairs_73 129 (by decide) 76 rfl rfl (fun _ => ?_) (fun _ => ?_)
          · refine z_lv (lv' := [(0, vr G 143), (2, vi x2), (4, vi x4), (5, vi x5), (6, vi x6)]) [1, 2, 3, 4, 5] rfl ?_
            exact pX11_layPairs_L129 C R hR F x1 x2 x3 c6 hc6 (gX11_layPairs_L24 F x1 x2 x3 c6 n) ih x4 x5 x6 σ
          · refine z_iload C 0 rfl dX11_layPairs_76 78 rfl ?_
            refine z_aload_n C 0 rfl 1 rfl dX11_layPairs_78 79 rfl ?_
            refine y_getR C fX11_85 one_11 lay_11_41 dX11_layPairs_79 82 rfl ?_
            refine z_sipush C (by decide) dX11_layPairs_82 85 rfl ?_
            refine z_iload C 4 rfl dX11_layPairs_85 87 rfl ?_
            refine z_iconst C dX11_layPairs_87 88 rfl ?_
            refine z_iadd C dX11_layPairs_88 89 rfl ?_
            refine z_imul C dX11_layPairs_89 90 rfl ?_
            refine z_iload C 3 rfl dX11_layPairs_90 92 rfl ?_
            refine z_iadd C dX11_layPairs_92 93 rfl ?_
            refine z_aload_n C 0 rfl 1 rfl dX11_layPairs_93 94 rfl ?_
            refine y_getR C fX11_82 one_11 lay_11_39 dX11_layPairs_94 97 rfl ?_
            refine z_iload C 5 rfl dX11_layPairs_97 99 rfl ?_
            refine y_iald C lay_11_39.2 rfl dX11_layPairs_99 100 rfl rfl (fun _ => ?_)
            refine z_isub C dX11_layPairs_100 101 rfl ?_
            refine y_iald C lay_11_41.2 rfl dX11_layPairs_101 102 rfl rfl (fun _ => ?_)
            refine z_iadd C dX11_layPairs_102 103 rfl ?_
            refine z_aload_n C 0 rfl 1 rfl dX11_layPairs_103 104 rfl ?_
            refine y_getR C fX11_85 one_11 lay_11_41 dX11_layPairs_104 107 rfl ?_
            refine z_sipush C (by decide) dX11_layPairs_107 110 rfl ?_
            refine z_iload C 4 rfl dX11_layPairs_110 112 rfl ?_
            refine z_imul C dX11_layPairs_112 113 rfl ?_
            refine z_iload C 3 rfl dX11_layPairs_113 115 rfl ?_
            refine z_iadd C dX11_layPairs_115 116 rfl ?_
            refine y_iald C lay_11_41.2 rfl dX11_layPairs_116 117 rfl rfl (fun _ => ?_)
            refine z_icmp_ne C dX11_layPairs_117 129 (by decide) 120 rfl rfl rfl (fun _ => ?_) (fun _ => ?_)
            · refine z_lv (lv' := [(0, vr G 143), (2, vi x2), (4, vi x4), (5, vi x5), (6, vi x6)]) [1, 2, 3, 4, 5] rfl ?_
              exact pX11_layPairs_L129 C R hR F x1 x2 x3 c6 hc6 (gX11_layPairs_L24 F x1 x2 x3 c6 n) ih x4 x5 x6 σ
            · refine z_aload_n C 0 rfl 1 rfl dX11_layPairs_120 121 rfl ?_
              refine y_getR C fX11_88 one_11 lay_11_42 dX11_layPairs_121 124 rfl ?_
              refine z_iload C 4 rfl dX11_layPairs_124 126 rfl ?_
              refine z_iload C 5 rfl dX11_layPairs_126 128 rfl ?_
              refine y_iast C lay_11_42.2 rfl dX11_layPairs_128 129 rfl rfl (fun _ => ?_)
              refine z_lv (lv' := [(0, vr G 143), (2, vi x2), (4, vi x4), (5, vi x5), (6, vi x6)]) [1, 2, 3, 4, 5] rfl ?_
              exact pX11_layPairs_L129 C R hR F x1 x2 x3 c6 hc6 (gX11_layPairs_L24 F x1 x2 x3 c6 n) ih x4 x5 x6 (up σ 170 (w32 x5) x6)
set_option maxRecDepth 100000 in
set_option maxHeartbeats 4000000 in
theorem pX11_layPairs_L6 {X : MX} {G : GG} (C : CX X G 8 cX11_layPairs RX11) (R : RT X (some .int)) (hR : mR X = rmX11_layPairs) (F : Nat) (x1 : Int) (x2 : Int) (x3 : Int)  : ∀ (n : Nat) (x4 : Int) (x5 : Int) (σ : St), ZZ X G 8 (QM X G vzIw wzW (0, 0)) (0, 0) (gX11_layPairs_L6 F x1 x2 x3 n x4 x5 σ) (w0 σ) 6 [(0, vr G 143), (2, vi x2), (4, vi x4), (5, vi x5)] [] := by
  intro n
  induction n with
  | zero =>
    intro _ _ _
    exact z_none
  | succ n ih =>
    intro x4 x5 σ
    show ZZ X G 8 (QM X G vzIw wzW (0, 0)) (0, 0) (if w32 x5 ≥ w32 x2 then some (x4, σ) else gd (0 ≤ w32 x5 ∧ w32 x5 < 9) (gX11_layPairs_L24 F x1 x2 x3 (gX11_layPairs_L6 F x1 x2 x3 n) F x4 x5 0 (up σ 170 (w32 x5) ((-4))))) (w0 σ) 6 [(0, vr G 143), (2, vi x2), (4, vi x4), (5, vi x5)] []
    refine z_iload C 3 rfl dX11_layPairs_6 8 rfl ?_
    refine z_iload_n C 2 rfl 1 rfl dX11_layPairs_8 9 rfl ?_
    refine z_icmp_ge C dX11_layPairs_9 174 (by decide) 12 rfl rfl rfl (fun _ => ?_) (fun _ => ?_)
    · refine z_iload C 2 rfl dX11_layPairs_174 176 rfl ?_
      exact z_iret C R rfl rfl dX11_layPairs_176
    · refine z_aload_n C 0 rfl 0 rfl dX11_layPairs_12 13 rfl ?_
      refine y_getR C fX11_88 one_11 lay_11_42 dX11_layPairs_13 16 rfl ?_
      refine z_iload C 3 rfl dX11_layPairs_16 18 rfl ?_
      refine z_bipush C (by decide) dX11_layPairs_18 20 rfl ?_
      refine y_iast C lay_11_42.2 rfl dX11_layPairs_20 21 rfl rfl (fun _ => ?_)
      refine z_iconst C dX11_layPairs_21 22 rfl ?_
      refine z_istore (lv' := [(6, vi 0), (0, vr G 143), (2, vi x2), (4, vi x4), (5, vi x5)]) C (by decide) dX11_layPairs_22 24 rfl rfl ?_
      refine z_lv (lv' := [(0, vr G 143), (2, vi x2), (4, vi x4), (5, vi x5), (6, vi 0)]) [1, 2, 3, 4, 0] rfl ?_
      exact pX11_layPairs_L24 C R hR F x1 x2 x3 (gX11_layPairs_L6 F x1 x2 x3 n) ih F x4 x5 0 (up σ 170 (w32 x5) ((-4)))
set_option maxRecDepth 100000 in
set_option maxHeartbeats 4000000 in
theorem tX11_layPairs (l : Launch) (G : GG) (F : Nat) (σ : St) (x1 : Int) (x2 : Int) (x3 : Int) : Ctr l G yX11_layPairs cX11_layPairs 8 (some .int) rmX11_layPairs [vr G 143, vi x1, vi x2, vi x3] (w0 σ) vzIw wzW (gX11_layPairs F σ x1 x2 x3) := by
  refine ctr_of (by decide) (Nat.le_of_ble_eq_true rfl) mwX11_layPairs.1 (fun X hl hR C R hnm => ?_)
  subst hl
  refine z_lv (lv' := [(0, vr G 143), (1, vi x1), (2, vi x2), (3, vi x3)]) [0, 1, 2, 3] rfl ?_
  show ZZ X G 8 (QM X G vzIw wzW (0, 0)) (0, 0) (gX11_layPairs_L6 F x1 x2 x3 F x3 x1 σ) (w0 σ) 0 [(0, vr G 143), (1, vi x1), (2, vi x2), (3, vi x3)] []
  refine z_iload_n C 3 rfl 3 rfl dX11_layPairs_0 1 rfl ?_
  refine z_istore (lv' := [(4, vi x3), (0, vr G 143), (1, vi x1), (2, vi x2), (3, vi x3)]) C (by decide) dX11_layPairs_1 3 rfl rfl ?_
  refine z_iload_n C 1 rfl 2 rfl dX11_layPairs_3 4 rfl ?_
  refine z_istore (lv' := [(5, vi x1), (4, vi x3), (0, vr G 143), (1, vi x1), (2, vi x2), (3, vi x3)]) C (by decide) dX11_layPairs_4 6 rfl rfl ?_
  refine z_lv (lv' := [(0, vr G 143), (2, vi x2), (4, vi x3), (5, vi x1)]) [2, 4, 1, 0] rfl ?_
  exact pX11_layPairs_L6 C R hR F x1 x2 x3 F x3 x1 σ
-- bestOf
def gX11_bestOf (F : Nat) (σ : St) (x1 : Int) : Option (Int × St) := (gX11_isGuest σ x1).bind fun r1 => if w32 r1 ≠ 0 then (gX11_capsAsRooms F σ).bind fun r2 => (gX11_layBest F r2 0 (r2 143 4)).bind fun r3 => (gX11_whole r3).bind fun r4 => (gX11_layPairs F r3 0 (r3 143 4) r4).bind fun r5 => gd (0 ≤ w32 x1 ∧ w32 x1 < 9) (some (r5.2 170 (w32 x1), r5.2)) else some ((-1), σ)
def rmX11_bestOf : Room := { frames := 2, cells := 0, slots := 0, locals := 50 }
set_option maxRecDepth 100000 in
set_option maxHeartbeats 4000000 in
theorem tX11_bestOf (l : Launch) (G : GG) (F : Nat) (σ : St) (x1 : Int) : Ctr l G yX11_bestOf cX11_bestOf 2 (some .int) rmX11_bestOf [vr G 143, vi x1] (w0 σ) vzIw wzW (gX11_bestOf F σ x1) := by
  refine ctr_of (by decide) (Nat.le_of_ble_eq_true rfl) mwX11_bestOf.1 (fun X hl hR C R hnm => ?_)
  subst hl
  refine z_lv (lv' := [(0, vr G 143), (1, vi x1)]) [0, 1] rfl ?_
  show ZZ X G 2 (QM X G vzIw wzW (0, 0)) (0, 0) ((gX11_isGuest σ x1).bind fun r1 => if w32 r1 ≠ 0 then (gX11_capsAsRooms F σ).bind fun r2 => (gX11_layBest F r2 0 (r2 143 4)).bind fun r3 => (gX11_whole r3).bind fun r4 => (gX11_layPairs F r3 0 (r3 143 4) r4).bind fun r5 => gd (0 ≤ w32 x1 ∧ w32 x1 < 9) (some (r5.2 170 (w32 x1), r5.2)) else some ((-1), σ)) (w0 σ) 0 [(0, vr G 143), (1, vi x1)] []
  refine z_aload_n C 0 rfl 0 rfl dX11_bestOf_0 1 rfl ?_
  refine z_iload_n C 1 rfl 1 rfl dX11_bestOf_1 2 rfl ?_
  refine y_callVI C hR (tX11_isGuest (mL X) G σ x1) ⟨mwX11_isGuest, mvX11_isGuest, lkX11_146⟩ one_11 rfl rfl (Nat.le_of_ble_eq_true rfl) (by unfold rmOK; decide) dX11_bestOf_2 5 rfl (fun r1 _ => ?_)
  refine z_if_ne C dX11_bestOf_5 10 (by decide) 8 rfl rfl (fun _ => ?_) (fun _ => ?_)
  · refine z_aload_n C 0 rfl 0 rfl dX11_bestOf_10 11 rfl ?_
    refine y_callVv C hR (tX11_capsAsRooms (mL X) G F σ) ⟨mwX11_capsAsRooms, mvX11_capsAsRooms, lkX11_305⟩ one_11 rfl rfl (Nat.le_of_ble_eq_true rfl) (by unfold rmOK; decide) dX11_bestOf_11 14 rfl (fun r2 _ => ?_)
    refine z_aload_n C 0 rfl 0 rfl dX11_bestOf_14 15 rfl ?_
    refine z_iconst C dX11_bestOf_15 16 rfl ?_
    refine z_aload_n C 0 rfl 0 rfl dX11_bestOf_16 17 rfl ?_
    refine y_getI C fX11_130 one_11 dX11_bestOf_17 20 rfl ?_
    refine y_callVv C hR (tX11_layBest (mL X) G F r2 0 (r2 143 4)) ⟨mwX11_layBest, mvX11_layBest, lkX11_298⟩ one_11 rfl rfl (Nat.le_of_ble_eq_true rfl) (by unfold rmOK; decide) dX11_bestOf_20 23 rfl (fun r3 _ => ?_)
    refine z_aload_n C 0 rfl 0 rfl dX11_bestOf_23 24 rfl ?_
    refine z_iconst C dX11_bestOf_24 25 rfl ?_
    refine z_aload_n C 0 rfl 0 rfl dX11_bestOf_25 26 rfl ?_
    refine y_getI C fX11_130 one_11 dX11_bestOf_26 29 rfl ?_
    refine z_aload_n C 0 rfl 0 rfl dX11_bestOf_29 30 rfl ?_
    refine y_callVI C hR (tX11_whole (mL X) G r3) ⟨mwX11_whole, mvX11_whole, lkX11_302⟩ one_11 rfl rfl (Nat.le_of_ble_eq_true rfl) (by unfold rmOK; decide) dX11_bestOf_30 33 rfl (fun r4 _ => ?_)
    refine y_callVIw C hR (tX11_layPairs (mL X) G F r3 0 (r3 143 4) r4) ⟨mwX11_layPairs, mvX11_layPairs, lkX11_311⟩ one_11 rfl rfl (Nat.le_of_ble_eq_true rfl) (by unfold rmOK; decide) dX11_bestOf_33 36 rfl (fun r5 _ => ?_)
    refine z_pop C rfl dX11_bestOf_36 37 rfl ?_
    refine z_aload_n C 0 rfl 0 rfl dX11_bestOf_37 38 rfl ?_
    refine y_getR C fX11_88 one_11 lay_11_42 dX11_bestOf_38 41 rfl ?_
    refine z_iload_n C 1 rfl 1 rfl dX11_bestOf_41 42 rfl ?_
    refine y_iald C lay_11_42.2 rfl dX11_bestOf_42 43 rfl rfl (fun _ => ?_)
    exact z_iret C R rfl rfl dX11_bestOf_43
  · refine z_iconst C dX11_bestOf_8 9 rfl ?_
    exact z_iret C R rfl rfl dX11_bestOf_9
-- price
def gX11_price (F : Nat) (σ : St) (x1 : Int) : Option (Int × St) := (gX11_isPost σ x1).bind fun r1 => if w32 r1 ≠ 0 then (gX11_best F σ).bind fun r2 => gd (0 ≤ w32 x1 ∧ w32 x1 < 6) (gd (0 ≤ w32 x1 ∧ w32 x1 < 6) ((gX11_layFigures F (up r2.2 167 (w32 x1) ((r2.2 167 (w32 x1)) + 1))).bind fun r3 => (gX11_bestSum F r3).bind fun r4 => some (r4.1 - r2.1, r4.2))) else some ((-1), σ)
def rmX11_price : Room := { frames := 4, cells := 0, slots := 0, locals := 90 }
set_option maxRecDepth 100000 in
set_option maxHeartbeats 4000000 in
theorem tX11_price (l : Launch) (G : GG) (F : Nat) (σ : St) (x1 : Int) : Ctr l G yX11_price cX11_price 3 (some .int) rmX11_price [vr G 143, vi x1] (w0 σ) vzIw wzW (gX11_price F σ x1) := by
  refine ctr_of (by decide) (Nat.le_of_ble_eq_true rfl) mwX11_price.1 (fun X hl hR C R hnm => ?_)
  subst hl
  refine z_lv (lv' := [(0, vr G 143), (1, vi x1)]) [0, 1] rfl ?_
  show ZZ X G 3 (QM X G vzIw wzW (0, 0)) (0, 0) ((gX11_isPost σ x1).bind fun r1 => if w32 r1 ≠ 0 then (gX11_best F σ).bind fun r2 => gd (0 ≤ w32 x1 ∧ w32 x1 < 6) (gd (0 ≤ w32 x1 ∧ w32 x1 < 6) ((gX11_layFigures F (up r2.2 167 (w32 x1) ((r2.2 167 (w32 x1)) + 1))).bind fun r3 => (gX11_bestSum F r3).bind fun r4 => some (r4.1 - r2.1, r4.2))) else some ((-1), σ)) (w0 σ) 0 [(0, vr G 143), (1, vi x1)] []
  refine z_aload_n C 0 rfl 0 rfl dX11_price_0 1 rfl ?_
  refine z_iload_n C 1 rfl 1 rfl dX11_price_1 2 rfl ?_
  refine y_callVI C hR (tX11_isPost (mL X) G σ x1) ⟨mwX11_isPost, mvX11_isPost, lkX11_150⟩ one_11 rfl rfl (Nat.le_of_ble_eq_true rfl) (by unfold rmOK; decide) dX11_price_2 5 rfl (fun r1 _ => ?_)
  refine z_if_ne C dX11_price_5 10 (by decide) 8 rfl rfl (fun _ => ?_) (fun _ => ?_)
  · refine z_aload_n C 0 rfl 0 rfl dX11_price_10 11 rfl ?_
    refine y_callVIw C hR (tX11_best (mL X) G F σ) ⟨mwX11_best, mvX11_best, lkX11_314⟩ one_11 rfl rfl (Nat.le_of_ble_eq_true rfl) (by unfold rmOK; decide) dX11_price_11 14 rfl (fun r2 _ => ?_)
    refine z_istore_n (lv' := [(2, vi r2.1), (0, vr G 143), (1, vi x1)]) C 2 rfl (by decide) dX11_price_14 15 rfl rfl ?_
    refine z_aload_n C 0 rfl 1 rfl dX11_price_15 16 rfl ?_
    refine y_getR C fX11_79 one_11 lay_11_38 dX11_price_16 19 rfl ?_
    refine z_iload_n C 1 rfl 2 rfl dX11_price_19 20 rfl ?_
    refine z_dup2 C rfl rfl dX11_price_20 21 rfl ?_
    refine y_iald C lay_11_38.2 rfl dX11_price_21 22 rfl rfl (fun _ => ?_)
    refine z_iconst C dX11_price_22 23 rfl ?_
    refine z_iadd C dX11_price_23 24 rfl ?_
    refine y_iast C lay_11_38.2 rfl dX11_price_24 25 rfl rfl (fun _ => ?_)
    refine z_aload_n C 0 rfl 1 rfl dX11_price_25 26 rfl ?_
    refine y_callVv C hR (tX11_layFigures (mL X) G F (up r2.2 167 (w32 x1) ((r2.2 167 (w32 x1)) + 1))) ⟨mwX11_layFigures, mvX11_layFigures, lkX11_295⟩ one_11 rfl rfl (Nat.le_of_ble_eq_true rfl) (by unfold rmOK; decide) dX11_price_26 29 rfl (fun r3 _ => ?_)
    refine z_aload_n C 0 rfl 1 rfl dX11_price_29 30 rfl ?_
    refine y_callVIw C hR (tX11_bestSum (mL X) G F r3) ⟨mwX11_bestSum, mvX11_bestSum, lkX11_308⟩ one_11 rfl rfl (Nat.le_of_ble_eq_true rfl) (by unfold rmOK; decide) dX11_price_30 33 rfl (fun r4 _ => ?_)
    refine z_iload_n C 2 rfl 0 rfl dX11_price_33 34 rfl ?_
    refine z_isub C dX11_price_34 35 rfl ?_
    exact z_iret C R rfl rfl dX11_price_35
  · refine z_iconst C dX11_price_8 9 rfl ?_
    exact z_iret C R rfl rfl dX11_price_9
-- cover
def gX11_cover_L169 (F : Nat) (x1 : Int) (c108 : Int → Int → St → Option (Int × St)) (c123 : Int → Int → Int → Int → St → Option (Int × St)) (x5 : Int) (x8 : Int) (x10 : Int) (s0 : Int) (σ : St) : Option (Int × St) := c123 x5 x8 s0 (x10 + 1) σ
def gX11_cover_L123 (F : Nat) (x1 : Int) (c108 : Int → Int → St → Option (Int × St)) : Nat → Int → Int → Int → Int → St → Option (Int × St)
  | 0, _, _, _, _, _ => none
  | n + 1, x5, x8, x9, x10, σ => if w32 x10 ≥ w32 (σ 143 0) then c108 (x5 + x9) (x8 + 1) σ else gd (0 ≤ w32 ((6 * x8) + x10) ∧ w32 ((6 * x8) + x10) < 54) (gd (0 ≤ w32 x10 ∧ w32 x10 < 6) (if w32 ((σ 148 (w32 ((6 * x8) + x10))) - (σ 167 (w32 x10))) ≤ w32 x9 then gX11_cover_L169 F x1 c108 (gX11_cover_L123 F x1 c108 n) x5 x8 x10 x9 σ else gX11_cover_L169 F x1 c108 (gX11_cover_L123 F x1 c108 n) x5 x8 x10 ((σ 148 (w32 ((6 * x8) + x10))) - (σ 167 (w32 x10))) σ))
def gX11_cover_L108 (F : Nat) (x1 : Int) : Nat → Int → Int → St → Option (Int × St)
  | 0, _, _, _ => none
  | n + 1, x5, x8, σ => if w32 x8 ≥ w32 (σ 143 4) then some (x5, σ) else gX11_cover_L123 F x1 (gX11_cover_L108 F x1 n) F x5 x8 0 0 σ
def gX11_cover_L48 (F : Nat) (x1 : Int) : Nat → Int → Int → Int → St → Option (Int × St)
  | 0, _, _, _, _ => none
  | n + 1, x5, x6, x8, σ => if w32 x8 ≥ w32 (σ 143 0) then gX11_cover_L108 F x1 F x5 0 σ else gd (w64 100 ≠ 0) (gd (0 ≤ w32 x8 ∧ w32 x8 < 6) (gd (w64 100 ≠ 0) (gd (0 ≤ w32 x8 ∧ w32 x8 < 6) (gd (0 ≤ w32 x8 ∧ w32 x8 < 6) (gX11_cover_L48 F x1 n (x5 + (((up σ 167 (w32 x8) (l2i_ (lrm x6 100))) 144 (w32 x8)) * ((up σ 167 (w32 x8) (l2i_ (lrm x6 100))) 167 (w32 x8)))) (ldv x6 100) (x8 + 1) (up σ 167 (w32 x8) (l2i_ (lrm x6 100))))))))
def gX11_cover_L5 (F : Nat) (x1 : Int) : Nat → Int → Int → St → Option (Int × St)
  | 0, _, _, _ => none
  | n + 1, x3, x5, σ => if w32 x5 ≥ w32 (σ 143 0) then (gX11_in σ x1 0 (x3 - 1)).bind fun r1 => if w32 r1 ≠ 0 then gX11_cover_L48 F x1 F 0 x1 0 σ else some ((-1), σ) else gX11_cover_L5 F x1 n (x3 * 100) (x5 + 1) σ
def gX11_cover (F : Nat) (σ : St) (x1 : Int) : Option (Int × St) := gX11_cover_L5 F x1 F 1 0 σ
def rmX11_cover : Room := { frames := 1, cells := 0, slots := 0, locals := 25 }
set_option maxRecDepth 100000 in
set_option maxHeartbeats 4000000 in
theorem pX11_cover_L169 {X : MX} {G : GG} (C : CX X G 12 cX11_cover RX11) (R : RT X (some .int)) (hR : mR X = rmX11_cover) (F : Nat) (x1 : Int) (c108 : Int → Int → St → Option (Int × St)) (hc108 : ∀ (x5 : Int) (x8 : Int) (σ : St), ZZ X G 12 (QM X G vzIw wzW (0, 0)) (0, 0) (c108 x5 x8 σ) (w0 σ) 108 [(0, vr G 143), (5, vi x5), (8, vi x8)] []) (c123 : Int → Int → Int → Int → St → Option (Int × St)) (hc123 : ∀ (x5 : Int) (x8 : Int) (x9 : Int) (x10 : Int) (σ : St), ZZ X G 12 (QM X G vzIw wzW (0, 0)) (0, 0) (c123 x5 x8 x9 x10 σ) (w0 σ) 123 [(0, vr G 143), (5, vi x5), (8, vi x8), (9, vi x9), (10, vi x10)] []) : ∀ (x5 : Int) (x8 : Int) (x10 : Int) (s0 : Int) (σ : St), ZZ X G 12 (QM X G vzIw wzW (0, 0)) (0, 0) (gX11_cover_L169 F x1 c108 c123 x5 x8 x10 s0 σ) (w0 σ) 169 [(0, vr G 143), (5, vi x5), (8, vi x8), (10, vi x10)] [vi s0] := by
  intro x5 x8 x10 s0 σ
  show ZZ X G 12 (QM X G vzIw wzW (0, 0)) (0, 0) (c123 x5 x8 s0 (x10 + 1) σ) (w0 σ) 169 [(0, vr G 143), (5, vi x5), (8, vi x8), (10, vi x10)] [vi s0]
  refine z_istore (lv' := [(9, vi s0), (0, vr G 143), (5, vi x5), (8, vi x8), (10, vi x10)]) C (by decide) dX11_cover_169 171 rfl rfl ?_
  refine z_iinc (lv' := [(10, vi (x10 + 1)), (9, vi s0), (0, vr G 143), (5, vi x5), (8, vi x8)]) C (by decide) 4 rfl dX11_cover_171 174 rfl rfl ?_
  refine z_goto C dX11_cover_174 123 (by decide) ?_
  refine z_lv (lv' := [(0, vr G 143), (5, vi x5), (8, vi x8), (9, vi s0), (10, vi (x10 + 1))]) [2, 3, 4, 1, 0] rfl ?_
  exact hc123 x5 x8 s0 (x10 + 1) σ
set_option maxRecDepth 100000 in
set_option maxHeartbeats 4000000 in
theorem pX11_cover_L123 {X : MX} {G : GG} (C : CX X G 12 cX11_cover RX11) (R : RT X (some .int)) (hR : mR X = rmX11_cover) (F : Nat) (x1 : Int) (c108 : Int → Int → St → Option (Int × St)) (hc108 : ∀ (x5 : Int) (x8 : Int) (σ : St), ZZ X G 12 (QM X G vzIw wzW (0, 0)) (0, 0) (c108 x5 x8 σ) (w0 σ) 108 [(0, vr G 143), (5, vi x5), (8, vi x8)] []) : ∀ (n : Nat) (x5 : Int) (x8 : Int) (x9 : Int) (x10 : Int) (σ : St), ZZ X G 12 (QM X G vzIw wzW (0, 0)) (0, 0) (gX11_cover_L123 F x1 c108 n x5 x8 x9 x10 σ) (w0 σ) 123 [(0, vr G 143), (5, vi x5), (8, vi x8), (9, vi x9), (10, vi x10)] [] := by
  intro n
  induction n with
  | zero =>
    intro _ _ _ _ _
    exact z_none
  | succ n ih =>
    intro x5 x8 x9 x10 σ
    show ZZ X G 12 (QM X G vzIw wzW (0, 0)) (0, 0) (if w32 x10 ≥ w32 (σ 143 0) then c108 (x5 + x9) (x8 + 1) σ else gd (0 ≤ w32 ((6 * x8) + x10) ∧ w32 ((6 * x8) + x10) < 54) (gd (0 ≤ w32 x10 ∧ w32 x10 < 6) (if w32 ((σ 148 (w32 ((6 * x8) + x10))) - (σ 167 (w32 x10))) ≤ w32 x9 then gX11_cover_L169 F x1 c108 (gX11_cover_L123 F x1 c108 n) x5 x8 x10 x9 σ else gX11_cover_L169 F x1 c108 (gX11_cover_L123 F x1 c108 n) x5 x8 x10 ((σ 148 (w32 ((6 * x8) + x10))) - (σ 167 (w32 x10))) σ))) (w0 σ) 123 [(0, vr G 143), (5, vi x5), (8, vi x8), (9, vi x9), (10, vi x10)] []
    refine z_iload C 4 rfl dX11_cover_123 125 rfl ?_
    refine z_aload_n C 0 rfl 0 rfl dX11_cover_125 126 rfl ?_
    refine y_getI C fX11_122 one_11 dX11_cover_126 129 rfl ?_
    refine z_icmp_ge C dX11_cover_129 177 (by decide) 132 rfl rfl rfl (fun _ => ?_) (fun _ => ?_)
    · refine z_iload C 1 rfl dX11_cover_177 179 rfl ?_
      refine z_iload C 3 rfl dX11_cover_179 181 rfl ?_
      refine z_iadd C dX11_cover_181 182 rfl ?_
      refine z_istore (lv' := [(5, vi (x5 + x9)), (0, vr G 143), (8, vi x8), (9, vi x9), (10, vi x10)]) C (by decide) dX11_cover_182 184 rfl rfl ?_
      refine z_iinc (lv' := [(8, vi (x8 + 1)), (5, vi (x5 + x9)), (0, vr G 143), (9, vi x9), (10, vi x10)]) C (by decide) 2 rfl dX11_cover_184 187 rfl rfl ?_
      refine z_goto C dX11_cover_187 108 (by decide) ?_
      refine z_lv (lv' := [(0, vr G 143), (5, vi (x5 + x9)), (8, vi (x8 + 1))]) [2, 1, 0] rfl ?_
      exact hc108 (x5 + x9) (x8 + 1) σ
    · refine z_aload_n C 0 rfl 0 rfl dX11_cover_132 133 rfl ?_
      refine y_getR C fX11_22 one_11 lay_11_6 dX11_cover_133 136 rfl ?_
      refine z_bipush C (by decide) dX11_cover_136 138 rfl ?_
      refine z_iload C 2 rfl dX11_cover_138 140 rfl ?_
      refine z_imul C dX11_cover_140 141 rfl ?_
      refine z_iload C 4 rfl dX11_cover_141 143 rfl ?_
      refine z_iadd C dX11_cover_143 144 rfl ?_
      refine y_iald C lay_11_6.2 rfl dX11_cover_144 145 rfl rfl (fun _ => ?_)
      refine z_aload_n C 0 rfl 0 rfl dX11_cover_145 146 rfl ?_
      refine y_getR C fX11_79 one_11 lay_11_38 dX11_cover_146 149 rfl ?_
      refine z_iload C 4 rfl dX11_cover_149 151 rfl ?_
      refine y_iald C lay_11_38.2 rfl dX11_cover_151 152 rfl rfl (fun _ => ?_)
      refine z_isub C dX11_cover_152 153 rfl ?_
      refine z_istore (lv' := [(11, vi ((σ 148 (w32 ((6 * x8) + x10))) - (σ 167 (w32 x10)))), (0, vr G 143), (5, vi x5), (8, vi x8), (9, vi x9), (10, vi x10)]) C (by decide) dX11_cover_153 155 rfl rfl ?_
      refine z_iload C 0 rfl dX11_cover_155 157 rfl ?_
      refine z_iload C 4 rfl dX11_cover_157 159 rfl ?_
      refine z_icmp_le C dX11_cover_159 167 (by decide) 162 rfl rfl rfl (fun _ => ?_) (fun _ => ?_)
      · refine z_iload C 4 rfl dX11_cover_167 169 rfl ?_
        refine z_lv (lv' := [(0, vr G 143), (5, vi x5), (8, vi x8), (10, vi x10)]) [1, 2, 3, 5] rfl ?_
        exact pX11_cover_L169 C R hR F x1 c108 hc108 (gX11_cover_L123 F x1 c108 n) ih x5 x8 x10 x9 σ
      · refine z_iload C 0 rfl dX11_cover_162 164 rfl ?_
        refine z_goto C dX11_cover_164 169 (by decide) ?_
        refine z_lv (lv' := [(0, vr G 143), (5, vi x5), (8, vi x8), (10, vi x10)]) [1, 2, 3, 5] rfl ?_
        exact pX11_cover_L169 C R hR F x1 c108 hc108 (gX11_cover_L123 F x1 c108 n) ih x5 x8 x10 ((σ 148 (w32 ((6 * x8) + x10))) - (σ 167 (w32 x10))) σ
set_option maxRecDepth 100000 in
set_option maxHeartbeats 4000000 in
theorem pX11_cover_L108 {X : MX} {G : GG} (C : CX X G 12 cX11_cover RX11) (R : RT X (some .int)) (hR : mR X = rmX11_cover) (F : Nat) (x1 : Int)  : ∀ (n : Nat) (x5 : Int) (x8 : Int) (σ : St), ZZ X G 12 (QM X G vzIw wzW (0, 0)) (0, 0) (gX11_cover_L108 F x1 n x5 x8 σ) (w0 σ) 108 [(0, vr G 143), (5, vi x5), (8, vi x8)] [] := by
  intro n
  induction n with
  | zero =>
    intro _ _ _
    exact z_none
  | succ n ih =>
    intro x5 x8 σ
    show ZZ X G 12 (QM X G vzIw wzW (0, 0)) (0, 0) (if w32 x8 ≥ w32 (σ 143 4) then some (x5, σ) else gX11_cover_L123 F x1 (gX11_cover_L108 F x1 n) F x5 x8 0 0 σ) (w0 σ) 108 [(0, vr G 143), (5, vi x5), (8, vi x8)] []
    refine z_iload C 2 rfl dX11_cover_108 110 rfl ?_
    refine z_aload_n C 0 rfl 0 rfl dX11_cover_110 111 rfl ?_
    refine y_getI C fX11_130 one_11 dX11_cover_111 114 rfl ?_
    refine z_icmp_ge C dX11_cover_114 190 (by decide) 117 rfl rfl rfl (fun _ => ?_) (fun _ => ?_)
    · refine z_iload C 1 rfl dX11_cover_190 192 rfl ?_
      exact z_iret C R rfl rfl dX11_cover_192
    · refine z_iconst C dX11_cover_117 118 rfl ?_
      refine z_istore (lv' := [(9, vi 0), (0, vr G 143), (5, vi x5), (8, vi x8)]) C (by decide) dX11_cover_118 120 rfl rfl ?_
      refine z_iconst C dX11_cover_120 121 rfl ?_
      refine z_istore (lv' := [(10, vi 0), (9, vi 0), (0, vr G 143), (5, vi x5), (8, vi x8)]) C (by decide) dX11_cover_121 123 rfl rfl ?_
      refine z_lv (lv' := [(0, vr G 143), (5, vi x5), (8, vi x8), (9, vi 0), (10, vi 0)]) [2, 3, 4, 1, 0] rfl ?_
      exact pX11_cover_L123 C R hR F x1 (gX11_cover_L108 F x1 n) ih F x5 x8 0 0 σ
set_option maxRecDepth 100000 in
set_option maxHeartbeats 4000000 in
theorem pX11_cover_L48 {X : MX} {G : GG} (C : CX X G 12 cX11_cover RX11) (R : RT X (some .int)) (hR : mR X = rmX11_cover) (F : Nat) (x1 : Int)  : ∀ (n : Nat) (x5 : Int) (x6 : Int) (x8 : Int) (σ : St), ZZ X G 12 (QM X G vzIw wzW (0, 0)) (0, 0) (gX11_cover_L48 F x1 n x5 x6 x8 σ) (w0 σ) 48 [(0, vr G 143), (5, vi x5), (6, vl x6), (8, vi x8)] [] := by
  intro n
  induction n with
  | zero =>
    intro _ _ _ _
    exact z_none
  | succ n ih =>
    intro x5 x6 x8 σ
    show ZZ X G 12 (QM X G vzIw wzW (0, 0)) (0, 0) (if w32 x8 ≥ w32 (σ 143 0) then gX11_cover_L108 F x1 F x5 0 σ else gd (w64 100 ≠ 0) (gd (0 ≤ w32 x8 ∧ w32 x8 < 6) (gd (w64 100 ≠ 0) (gd (0 ≤ w32 x8 ∧ w32 x8 < 6) (gd (0 ≤ w32 x8 ∧ w32 x8 < 6) (gX11_cover_L48 F x1 n (x5 + (((up σ 167 (w32 x8) (l2i_ (lrm x6 100))) 144 (w32 x8)) * ((up σ 167 (w32 x8) (l2i_ (lrm x6 100))) 167 (w32 x8)))) (ldv x6 100) (x8 + 1) (up σ 167 (w32 x8) (l2i_ (lrm x6 100))))))))) (w0 σ) 48 [(0, vr G 143), (5, vi x5), (6, vl x6), (8, vi x8)] []
    refine z_iload C 3 rfl dX11_cover_48 50 rfl ?_
    refine z_aload_n C 0 rfl 0 rfl dX11_cover_50 51 rfl ?_
    refine y_getI C fX11_122 one_11 dX11_cover_51 54 rfl ?_
    refine z_icmp_ge C dX11_cover_54 105 (by decide) 57 rfl rfl rfl (fun _ => ?_) (fun _ => ?_)
    · refine z_iconst C dX11_cover_105 106 rfl ?_
      refine z_istore (lv' := [(8, vi 0), (0, vr G 143), (5, vi x5), (6, vl x6)]) C (by decide) dX11_cover_106 108 rfl rfl ?_
      refine z_lv (lv' := [(0, vr G 143), (5, vi x5), (8, vi 0)]) [1, 2, 0] rfl ?_
      exact pX11_cover_L108 C R hR F x1 F x5 0 σ
    · refine z_aload_n C 0 rfl 0 rfl dX11_cover_57 58 rfl ?_
      refine y_getR C fX11_79 one_11 lay_11_38 dX11_cover_58 61 rfl ?_
      refine z_iload C 3 rfl dX11_cover_61 63 rfl ?_
      refine z_lload C 2 rfl dX11_cover_63 65 rfl ?_
      refine z_ldc2 (v := 100) C clX11_316 (by decide) dX11_cover_65 68 rfl ?_
      refine z_lrem C dX11_cover_68 69 rfl ?_
      refine z_l2i C dX11_cover_69 70 rfl ?_
      refine y_iast C lay_11_38.2 rfl dX11_cover_70 71 rfl rfl (fun _ => ?_)
      refine z_lload C 2 rfl dX11_cover_71 73 rfl ?_
      refine z_ldc2 (v := 100) C clX11_316 (by decide) dX11_cover_73 76 rfl ?_
      refine z_ldiv C dX11_cover_76 77 rfl ?_
      refine z_lstore (lv' := [(6, vl (ldv x6 100)), (0, vr G 143), (5, vi x5), (8, vi x8)]) C (by decide) dX11_cover_77 79 rfl rfl ?_
      refine z_iload C 2 rfl dX11_cover_79 81 rfl ?_
      refine z_aload_n C 0 rfl 1 rfl dX11_cover_81 82 rfl ?_
      refine y_getR C fX11_7 one_11 lay_11_1 dX11_cover_82 85 rfl ?_
      refine z_iload C 3 rfl dX11_cover_85 87 rfl ?_
      refine y_iald C lay_11_1.2 rfl dX11_cover_87 88 rfl rfl (fun _ => ?_)
      refine z_aload_n C 0 rfl 1 rfl dX11_cover_88 89 rfl ?_
      refine y_getR C fX11_79 one_11 lay_11_38 dX11_cover_89 92 rfl ?_
      refine z_iload C 3 rfl dX11_cover_92 94 rfl ?_
      refine y_iald C lay_11_38.2 rfl dX11_cover_94 95 rfl rfl (fun _ => ?_)
      refine z_imul C dX11_cover_95 96 rfl ?_
      refine z_iadd C dX11_cover_96 97 rfl ?_
      refine z_istore (lv' := [(5, vi (x5 + (((up σ 167 (w32 x8) (l2i_ (lrm x6 100))) 144 (w32 x8)) * ((up σ 167 (w32 x8) (l2i_ (lrm x6 100))) 167 (w32 x8))))), (6, vl (ldv x6 100)), (0, vr G 143), (8, vi x8)]) C (by decide) dX11_cover_97 99 rfl rfl ?_
      refine z_iinc (lv' := [(8, vi (x8 + 1)), (5, vi (x5 + (((up σ 167 (w32 x8) (l2i_ (lrm x6 100))) 144 (w32 x8)) * ((up σ 167 (w32 x8) (l2i_ (lrm x6 100))) 167 (w32 x8))))), (6, vl (ldv x6 100)), (0, vr G 143)]) C (by decide) 3 rfl dX11_cover_99 102 rfl rfl ?_
      refine z_goto C dX11_cover_102 48 (by decide) ?_
      refine z_lv (lv' := [(0, vr G 143), (5, vi (x5 + (((up σ 167 (w32 x8) (l2i_ (lrm x6 100))) 144 (w32 x8)) * ((up σ 167 (w32 x8) (l2i_ (lrm x6 100))) 167 (w32 x8))))), (6, vl (ldv x6 100)), (8, vi (x8 + 1))]) [3, 1, 2, 0] rfl ?_
      exact ih (x5 + (((up σ 167 (w32 x8) (l2i_ (lrm x6 100))) 144 (w32 x8)) * ((up σ 167 (w32 x8) (l2i_ (lrm x6 100))) 167 (w32 x8)))) (ldv x6 100) (x8 + 1) (up σ 167 (w32 x8) (l2i_ (lrm x6 100)))
set_option maxRecDepth 100000 in
set_option maxHeartbeats 4000000 in
theorem pX11_cover_L5 {X : MX} {G : GG} (C : CX X G 12 cX11_cover RX11) (R : RT X (some .int)) (hR : mR X = rmX11_cover) (F : Nat) (x1 : Int)  : ∀ (n : Nat) (x3 : Int) (x5 : Int) (σ : St), ZZ X G 12 (QM X G vzIw wzW (0, 0)) (0, 0) (gX11_cover_L5 F x1 n x3 x5 σ) (w0 σ) 5 [(0, vr G 143), (1, vl x1), (3, vl x3), (5, vi x5)] [] := by
  intro n
  induction n with
  | zero =>
    intro _ _ _
    exact z_none
  | succ n ih =>
    intro x3 x5 σ
    show ZZ X G 12 (QM X G vzIw wzW (0, 0)) (0, 0) (if w32 x5 ≥ w32 (σ 143 0) then (gX11_in σ x1 0 (x3 - 1)).bind fun r1 => if w32 r1 ≠ 0 then gX11_cover_L48 F x1 F 0 x1 0 σ else some ((-1), σ) else gX11_cover_L5 F x1 n (x3 * 100) (x5 + 1) σ) (w0 σ) 5 [(0, vr G 143), (1, vl x1), (3, vl x3), (5, vi x5)] []
    refine z_iload C 3 rfl dX11_cover_5 7 rfl ?_
    refine z_aload_n C 0 rfl 0 rfl dX11_cover_7 8 rfl ?_
    refine y_getI C fX11_122 one_11 dX11_cover_8 11 rfl ?_
    refine z_icmp_ge C dX11_cover_11 26 (by decide) 14 rfl rfl rfl (fun _ => ?_) (fun _ => ?_)
    · refine z_lload_n C 1 rfl 1 rfl dX11_cover_26 27 rfl ?_
      refine z_lconst (v := 0) C (by decide) dX11_cover_27 28 rfl ?_
      refine z_lload_n C 3 rfl 2 rfl dX11_cover_28 29 rfl ?_
      refine z_lconst (v := 1) C (by decide) dX11_cover_29 30 rfl ?_
      refine z_lsub C dX11_cover_30 31 rfl ?_
      refine y_callSI C hR (tX11_in (mL X) G σ x1 0 (x3 - 1)) ⟨mwX11_in, msX11_in, lkX11_126⟩ rfl rfl (Nat.le_of_ble_eq_true rfl) (by unfold rmOK; decide) dX11_cover_31 34 rfl (fun r1 _ => ?_)
      refine z_if_ne C dX11_cover_34 39 (by decide) 37 rfl rfl (fun _ => ?_) (fun _ => ?_)
      · refine z_iconst C dX11_cover_39 40 rfl ?_
        refine z_istore (lv' := [(5, vi 0), (0, vr G 143), (1, vl x1), (3, vl x3)]) C (by decide) dX11_cover_40 42 rfl rfl ?_
        refine z_lload_n C 1 rfl 2 rfl dX11_cover_42 43 rfl ?_
        refine z_lstore (lv' := [(6, vl x1), (5, vi 0), (0, vr G 143), (1, vl x1), (3, vl x3)]) C (by decide) dX11_cover_43 45 rfl rfl ?_
        refine z_iconst C dX11_cover_45 46 rfl ?_
        refine z_istore (lv' := [(8, vi 0), (6, vl x1), (5, vi 0), (0, vr G 143), (1, vl x1), (3, vl x3)]) C (by decide) dX11_cover_46 48 rfl rfl ?_
        refine z_lv (lv' := [(0, vr G 143), (5, vi 0), (6, vl x1), (8, vi 0)]) [3, 2, 1, 0] rfl ?_
        exact pX11_cover_L48 C R hR F x1 F 0 x1 0 σ
      · refine z_iconst C dX11_cover_37 38 rfl ?_
        exact z_iret C R rfl rfl dX11_cover_38
    · refine z_lload_n C 3 rfl 2 rfl dX11_cover_14 15 rfl ?_
      refine z_ldc2 (v := 100) C clX11_316 (by decide) dX11_cover_15 18 rfl ?_
      refine z_lmul C dX11_cover_18 19 rfl ?_
      refine z_lstore_n (lv' := [(3, vl (x3 * 100)), (0, vr G 143), (1, vl x1), (5, vi x5)]) C 3 rfl (by decide) dX11_cover_19 20 rfl rfl ?_
      refine z_iinc (lv' := [(5, vi (x5 + 1)), (3, vl (x3 * 100)), (0, vr G 143), (1, vl x1)]) C (by decide) 3 rfl dX11_cover_20 23 rfl rfl ?_
      refine z_goto C dX11_cover_23 5 (by decide) ?_
      refine z_lv (lv' := [(0, vr G 143), (1, vl x1), (3, vl (x3 * 100)), (5, vi (x5 + 1))]) [2, 3, 1, 0] rfl ?_
      exact ih (x3 * 100) (x5 + 1) σ
set_option maxRecDepth 100000 in
set_option maxHeartbeats 4000000 in
theorem tX11_cover (l : Launch) (G : GG) (F : Nat) (σ : St) (x1 : Int) : Ctr l G yX11_cover cX11_cover 12 (some .int) rmX11_cover [vr G 143, vl x1] (w0 σ) vzIw wzW (gX11_cover F σ x1) := by
  refine ctr_of (by decide) (Nat.le_of_ble_eq_true rfl) mwX11_cover.1 (fun X hl hR C R hnm => ?_)
  subst hl
  refine z_lv (lv' := [(0, vr G 143), (1, vl x1)]) [0, 1] rfl ?_
  show ZZ X G 12 (QM X G vzIw wzW (0, 0)) (0, 0) (gX11_cover_L5 F x1 F 1 0 σ) (w0 σ) 0 [(0, vr G 143), (1, vl x1)] []
  refine z_lconst (v := 1) C (by decide) dX11_cover_0 1 rfl ?_
  refine z_lstore_n (lv' := [(3, vl 1), (0, vr G 143), (1, vl x1)]) C 3 rfl (by decide) dX11_cover_1 2 rfl rfl ?_
  refine z_iconst C dX11_cover_2 3 rfl ?_
  refine z_istore (lv' := [(5, vi 0), (3, vl 1), (0, vr G 143), (1, vl x1)]) C (by decide) dX11_cover_3 5 rfl rfl ?_
  refine z_lv (lv' := [(0, vr G 143), (1, vl x1), (3, vl 1), (5, vi 0)]) [2, 3, 1, 0] rfl ?_
  exact pX11_cover_L5 C R hR F x1 F 1 0 σ
-- share
def gX11_share (F : Nat) (σ : St) (x1 : Int) (x2 : Int) (x3 : Int) : Option (Int × St) := (gX11_isRule σ x1).bind fun r1 => if w32 r1 = 0 then some ((-1), σ) else (gX11_in σ (w32 x2) 0 99).bind fun r2 => if w32 r2 = 0 then some ((-1), σ) else (gX11_in σ (w32 x3) 1 99).bind fun r3 => if w32 r3 ≠ 0 then (gX11_loadMain F σ).bind fun r4 => (gX11_runByNumbers F r4 x1).bind fun r5 => (gX11_keptNow F r5).bind fun r6 => (gX11_best F r5).bind fun r7 => if w32 (r6 * x3) < w32 (x2 * r7.1) then some (0, r7.2) else some (1, r7.2) else some ((-1), σ)
def rmX11_share : Room := { frames := 5, cells := 0, slots := 0, locals := 121 }
set_option maxRecDepth 100000 in
set_option maxHeartbeats 4000000 in
theorem tX11_share (l : Launch) (G : GG) (F : Nat) (σ : St) (x1 : Int) (x2 : Int) (x3 : Int) : Ctr l G yX11_share cX11_share 4 (some .int) rmX11_share [vr G 143, vi x1, vi x2, vi x3] (w0 σ) vzIw wzW (gX11_share F σ x1 x2 x3) := by
  refine ctr_of (by decide) (Nat.le_of_ble_eq_true rfl) mwX11_share.1 (fun X hl hR C R hnm => ?_)
  subst hl
  refine z_lv (lv' := [(0, vr G 143), (1, vi x1), (2, vi x2), (3, vi x3)]) [0, 1, 2, 3] rfl ?_
  show ZZ X G 4 (QM X G vzIw wzW (0, 0)) (0, 0) ((gX11_isRule σ x1).bind fun r1 => if w32 r1 = 0 then some ((-1), σ) else (gX11_in σ (w32 x2) 0 99).bind fun r2 => if w32 r2 = 0 then some ((-1), σ) else (gX11_in σ (w32 x3) 1 99).bind fun r3 => if w32 r3 ≠ 0 then (gX11_loadMain F σ).bind fun r4 => (gX11_runByNumbers F r4 x1).bind fun r5 => (gX11_keptNow F r5).bind fun r6 => (gX11_best F r5).bind fun r7 => if w32 (r6 * x3) < w32 (x2 * r7.1) then some (0, r7.2) else some (1, r7.2) else some ((-1), σ)) (w0 σ) 0 [(0, vr G 143), (1, vi x1), (2, vi x2), (3, vi x3)] []
  refine z_aload_n C 0 rfl 0 rfl dX11_share_0 1 rfl ?_
  refine z_iload_n C 1 rfl 1 rfl dX11_share_1 2 rfl ?_
  refine y_callVI C hR (tX11_isRule (mL X) G σ x1) ⟨mwX11_isRule, mvX11_isRule, lkX11_229⟩ one_11 rfl rfl (Nat.le_of_ble_eq_true rfl) (by unfold rmOK; decide) dX11_share_2 5 rfl (fun r1 _ => ?_)
  refine z_if_eq C dX11_share_5 32 (by decide) 8 rfl rfl (fun _ => ?_) (fun _ => ?_)
  · refine z_iconst C dX11_share_32 33 rfl ?_
    exact z_iret C R rfl rfl dX11_share_33
  · refine z_iload_n C 2 rfl 2 rfl dX11_share_8 9 rfl ?_
    refine z_i2l C dX11_share_9 10 rfl ?_
    refine z_lconst (v := 0) C (by decide) dX11_share_10 11 rfl ?_
    refine z_ldc2 (v := 99) C clX11_135 (by decide) dX11_share_11 14 rfl ?_
    refine y_callSI C hR (tX11_in (mL X) G σ (w32 x2) 0 99) ⟨mwX11_in, msX11_in, lkX11_126⟩ rfl rfl (Nat.le_of_ble_eq_true rfl) (by unfold rmOK; decide) dX11_share_14 17 rfl (fun r2 _ => ?_)
    refine z_if_eq C dX11_share_17 32 (by decide) 20 rfl rfl (fun _ => ?_) (fun _ => ?_)
    · refine z_iconst C dX11_share_32 33 rfl ?_
      exact z_iret C R rfl rfl dX11_share_33
    · refine z_iload_n C 3 rfl 3 rfl dX11_share_20 21 rfl ?_
      refine z_i2l C dX11_share_21 22 rfl ?_
      refine z_lconst (v := 1) C (by decide) dX11_share_22 23 rfl ?_
      refine z_ldc2 (v := 99) C clX11_135 (by decide) dX11_share_23 26 rfl ?_
      refine y_callSI C hR (tX11_in (mL X) G σ (w32 x3) 1 99) ⟨mwX11_in, msX11_in, lkX11_126⟩ rfl rfl (Nat.le_of_ble_eq_true rfl) (by unfold rmOK; decide) dX11_share_26 29 rfl (fun r3 _ => ?_)
      refine z_if_ne C dX11_share_29 34 (by decide) 32 rfl rfl (fun _ => ?_) (fun _ => ?_)
      · refine z_aload_n C 0 rfl 0 rfl dX11_share_34 35 rfl ?_
        refine y_callVv C hR (tX11_loadMain (mL X) G F σ) ⟨mwX11_loadMain, mvX11_loadMain, lkX11_273⟩ one_11 rfl rfl (Nat.le_of_ble_eq_true rfl) (by unfold rmOK; decide) dX11_share_35 38 rfl (fun r4 _ => ?_)
        refine z_aload_n C 0 rfl 0 rfl dX11_share_38 39 rfl ?_
        refine z_iload_n C 1 rfl 1 rfl dX11_share_39 40 rfl ?_
        refine y_callVv C hR (tX11_runByNumbers (mL X) G F r4 x1) ⟨mwX11_runByNumbers, mvX11_runByNumbers, lkX11_276⟩ one_11 rfl rfl (Nat.le_of_ble_eq_true rfl) (by unfold rmOK; decide) dX11_share_40 43 rfl (fun r5 _ => ?_)
        refine z_aload_n C 0 rfl 0 rfl dX11_share_43 44 rfl ?_
        refine y_callVI C hR (tX11_keptNow (mL X) G F r5) ⟨mwX11_keptNow, mvX11_keptNow, lkX11_282⟩ one_11 rfl rfl (Nat.le_of_ble_eq_true rfl) (by unfold rmOK; decide) dX11_share_44 47 rfl (fun r6 _ => ?_)
        refine z_iload_n C 3 rfl 3 rfl dX11_share_47 48 rfl ?_
        refine z_imul C dX11_share_48 49 rfl ?_
        refine z_iload_n C 2 rfl 2 rfl dX11_share_49 50 rfl ?_
        refine z_aload_n C 0 rfl 0 rfl dX11_share_50 51 rfl ?_
        refine y_callVIw C hR (tX11_best (mL X) G F r5) ⟨mwX11_best, mvX11_best, lkX11_314⟩ one_11 rfl rfl (Nat.le_of_ble_eq_true rfl) (by unfold rmOK; decide) dX11_share_51 54 rfl (fun r7 _ => ?_)
        refine z_imul C dX11_share_54 55 rfl ?_
        refine z_icmp_lt C dX11_share_55 62 (by decide) 58 rfl rfl rfl (fun _ => ?_) (fun _ => ?_)
        · refine z_iconst C dX11_share_62 63 rfl ?_
          exact z_iret C R rfl rfl dX11_share_63
        · refine z_iconst C dX11_share_58 59 rfl ?_
          refine z_goto C dX11_share_59 63 (by decide) ?_
          exact z_iret C R rfl rfl dX11_share_63
      · refine z_iconst C dX11_share_32 33 rfl ?_
        exact z_iret C R rfl rfl dX11_share_33
-- lowest
def gX11_lowest_L6 (F : Nat) (σ : St) (x0 : Int) (x2 : Int) (x4 : Int) : Nat → Int → Int → Option (Int)
  | 0, _, _ => none
  | n + 1, x5, x7 => if w64 x7 = 0 then if w32 x4 ≠ 0 then gd (w64 x5 ≠ 0) (some (ldv x2 x5)) else gd (w64 x5 ≠ 0) (some (ldv x0 x5)) else gd (w64 x7 ≠ 0) (gX11_lowest_L6 F σ x0 x2 x4 n x7 (lrm x5 x7))
def gX11_lowest (F : Nat) (σ : St) (x0 : Int) (x2 : Int) (x4 : Int) : Option (Int) := gX11_lowest_L6 F σ x0 x2 x4 F x0 x2
def rmX11_lowest : Room := { frames := 0, cells := 0, slots := 0, locals := 0 }
set_option maxRecDepth 100000 in
set_option maxHeartbeats 4000000 in
theorem pX11_lowest_L6 {X : MX} {G : GG} (C : CX X G 11 cX11_lowest RX11) (R : RT X (some .long)) (hR : mR X = rmX11_lowest) (F : Nat) (σ : St) (x0 : Int) (x2 : Int) (x4 : Int)  : ∀ (n : Nat) (x5 : Int) (x7 : Int), ZZ X G 11 (QM X G vzJ (wzR σ) (0, 0)) (0, 0) (gX11_lowest_L6 F σ x0 x2 x4 n x5 x7) (w0 σ) 6 [(0, vl x0), (2, vl x2), (4, vi x4), (5, vl x5), (7, vl x7)] [] := by
  intro n
  induction n with
  | zero =>
    intro _ _
    exact z_none
  | succ n ih =>
    intro x5 x7
    show ZZ X G 11 (QM X G vzJ (wzR σ) (0, 0)) (0, 0) (if w64 x7 = 0 then if w32 x4 ≠ 0 then gd (w64 x5 ≠ 0) (some (ldv x2 x5)) else gd (w64 x5 ≠ 0) (some (ldv x0 x5)) else gd (w64 x7 ≠ 0) (gX11_lowest_L6 F σ x0 x2 x4 n x7 (lrm x5 x7))) (w0 σ) 6 [(0, vl x0), (2, vl x2), (4, vi x4), (5, vl x5), (7, vl x7)] []
    refine z_lload C 4 rfl dX11_lowest_6 8 rfl ?_
    refine z_lconst (v := 0) C (by decide) dX11_lowest_8 9 rfl ?_
    refine z_lif_eq C dX11_lowest_9 10 rfl dX11_lowest_10 31 (by decide) 13 rfl rfl (w64_id (a := 0) (by decide)) (fun _ => ?_) (fun _ => ?_)
    · refine z_iload C 2 rfl dX11_lowest_31 33 rfl ?_
      refine z_if_ne C dX11_lowest_33 40 (by decide) 36 rfl rfl (fun _ => ?_) (fun _ => ?_)
      · refine z_lload_n C 2 rfl 1 rfl dX11_lowest_40 41 rfl ?_
        refine z_lload C 3 rfl dX11_lowest_41 43 rfl ?_
        refine z_ldiv C dX11_lowest_43 44 rfl ?_
        exact z_lret C R rfl rfl dX11_lowest_44
      · refine z_lload_n C 0 rfl 0 rfl dX11_lowest_36 37 rfl ?_
        refine z_goto C dX11_lowest_37 41 (by decide) ?_
        refine z_lload C 3 rfl dX11_lowest_41 43 rfl ?_
        refine z_ldiv C dX11_lowest_43 44 rfl ?_
        exact z_lret C R rfl rfl dX11_lowest_44
    · refine z_lload C 3 rfl dX11_lowest_13 15 rfl ?_
      refine z_lload C 4 rfl dX11_lowest_15 17 rfl ?_
      refine z_lrem C dX11_lowest_17 18 rfl ?_
      refine z_lstore (lv' := [(9, vl (lrm x5 x7)), (0, vl x0), (2, vl x2), (4, vi x4), (5, vl x5), (7, vl x7)]) C (by decide) dX11_lowest_18 20 rfl rfl ?_
      refine z_lload C 5 rfl dX11_lowest_20 22 rfl ?_
      refine z_lstore (lv' := [(5, vl x7), (9, vl (lrm x5 x7)), (0, vl x0), (2, vl x2), (4, vi x4), (7, vl x7)]) C (by decide) dX11_lowest_22 24 rfl rfl ?_
      refine z_lload C 1 rfl dX11_lowest_24 26 rfl ?_
      refine z_lstore (lv' := [(7, vl (lrm x5 x7)), (5, vl x7), (9, vl (lrm x5 x7)), (0, vl x0), (2, vl x2), (4, vi x4)]) C (by decide) dX11_lowest_26 28 rfl rfl ?_
      refine z_goto C dX11_lowest_28 6 (by decide) ?_
      refine z_lv (lv' := [(0, vl x0), (2, vl x2), (4, vi x4), (5, vl x7), (7, vl (lrm x5 x7))]) [3, 4, 5, 1, 0] rfl ?_
      exact ih x7 (lrm x5 x7)
set_option maxRecDepth 100000 in
set_option maxHeartbeats 4000000 in
theorem tX11_lowest (l : Launch) (G : GG) (F : Nat) (σ : St) (x0 : Int) (x2 : Int) (x4 : Int) : Ctr l G yX11_lowest cX11_lowest 11 (some .long) rmX11_lowest [vl x0, vl x2, vi x4] (w0 σ) vzJ (wzR σ) (gX11_lowest F σ x0 x2 x4) := by
  refine ctr_of (by decide) (Nat.le_of_ble_eq_true rfl) mwX11_lowest.1 (fun X hl hR C R hnm => ?_)
  subst hl
  refine z_lv (lv' := [(0, vl x0), (2, vl x2), (4, vi x4)]) [0, 1, 2] rfl ?_
  show ZZ X G 11 (QM X G vzJ (wzR σ) (0, 0)) (0, 0) (gX11_lowest_L6 F σ x0 x2 x4 F x0 x2) (w0 σ) 0 [(0, vl x0), (2, vl x2), (4, vi x4)] []
  refine z_lload_n C 0 rfl 0 rfl dX11_lowest_0 1 rfl ?_
  refine z_lstore (lv' := [(5, vl x0), (0, vl x0), (2, vl x2), (4, vi x4)]) C (by decide) dX11_lowest_1 3 rfl rfl ?_
  refine z_lload_n C 2 rfl 2 rfl dX11_lowest_3 4 rfl ?_
  refine z_lstore (lv' := [(7, vl x2), (5, vl x0), (0, vl x0), (2, vl x2), (4, vi x4)]) C (by decide) dX11_lowest_4 6 rfl rfl ?_
  refine z_lv (lv' := [(0, vl x0), (2, vl x2), (4, vi x4), (5, vl x0), (7, vl x2)]) [2, 3, 4, 1, 0] rfl ?_
  exact pX11_lowest_L6 C R hR F σ x0 x2 x4 F x0 x2
-- firstOrder
def gX11_firstOrder_L2 (F : Nat) : Nat → Int → St → Option (St)
  | 0, _, _ => none
  | n + 1, x1, σ => if w32 x1 ≥ 9 then some σ else gd (0 ≤ w32 x1 ∧ w32 x1 < 9) (gX11_firstOrder_L2 F n (x1 + 1) (up σ 166 (w32 x1) x1))
def gX11_firstOrder (F : Nat) (σ : St) : Option (St) := gX11_firstOrder_L2 F F 0 σ
def rmX11_firstOrder : Room := { frames := 0, cells := 0, slots := 0, locals := 0 }
set_option maxRecDepth 100000 in
set_option maxHeartbeats 4000000 in
theorem pX11_firstOrder_L2 {X : MX} {G : GG} (C : CX X G 2 cX11_firstOrder RX11) (R : RT X none) (hR : mR X = rmX11_firstOrder) (F : Nat)  : ∀ (n : Nat) (x1 : Int) (σ : St), ZZ X G 2 (QM X G vzV wzV (0, 0)) (0, 0) (gX11_firstOrder_L2 F n x1 σ) (w0 σ) 2 [(0, vr G 143), (1, vi x1)] [] := by
  intro n
  induction n with
  | zero =>
    intro _ _
    exact z_none
  | succ n ih =>
    intro x1 σ
    show ZZ X G 2 (QM X G vzV wzV (0, 0)) (0, 0) (if w32 x1 ≥ 9 then some σ else gd (0 ≤ w32 x1 ∧ w32 x1 < 9) (gX11_firstOrder_L2 F n (x1 + 1) (up σ 166 (w32 x1) x1))) (w0 σ) 2 [(0, vr G 143), (1, vi x1)] []
    refine z_iload_n C 1 rfl 1 rfl dX11_firstOrder_2 3 rfl ?_
    refine z_bipush C (by decide) dX11_firstOrder_3 5 rfl ?_
    refine z_icmp_ge C dX11_firstOrder_5 21 (by decide) 8 rfl rfl (w32_id (a := 9) (by decide)) (fun _ => ?_) (fun _ => ?_)
    · exact z_vret C R rfl rfl dX11_firstOrder_21
    · refine z_aload_n C 0 rfl 0 rfl dX11_firstOrder_8 9 rfl ?_
      refine y_getR C fX11_76 one_11 lay_11_37 dX11_firstOrder_9 12 rfl ?_
      refine z_iload_n C 1 rfl 1 rfl dX11_firstOrder_12 13 rfl ?_
      refine z_iload_n C 1 rfl 1 rfl dX11_firstOrder_13 14 rfl ?_
      refine y_iast C lay_11_37.2 rfl dX11_firstOrder_14 15 rfl rfl (fun _ => ?_)
      refine z_iinc (lv' := [(1, vi (x1 + 1)), (0, vr G 143)]) C (by decide) 1 rfl dX11_firstOrder_15 18 rfl rfl ?_
      refine z_goto C dX11_firstOrder_18 2 (by decide) ?_
      refine z_lv (lv' := [(0, vr G 143), (1, vi (x1 + 1))]) [1, 0] rfl ?_
      exact ih (x1 + 1) (up σ 166 (w32 x1) x1)
set_option maxRecDepth 100000 in
set_option maxHeartbeats 4000000 in
theorem tX11_firstOrder (l : Launch) (G : GG) (F : Nat) (σ : St) : Ctr l G yX11_firstOrder cX11_firstOrder 2 none rmX11_firstOrder [vr G 143] (w0 σ) vzV wzV (gX11_firstOrder F σ) := by
  refine ctr_of (by decide) (Nat.le_of_ble_eq_true rfl) mwX11_firstOrder.1 (fun X hl hR C R hnm => ?_)
  subst hl
  refine z_lv (lv' := [(0, vr G 143)]) [0] rfl ?_
  show ZZ X G 2 (QM X G vzV wzV (0, 0)) (0, 0) (gX11_firstOrder_L2 F F 0 σ) (w0 σ) 0 [(0, vr G 143)] []
  refine z_iconst C dX11_firstOrder_0 1 rfl ?_
  refine z_istore_n (lv' := [(1, vi 0), (0, vr G 143)]) C 1 rfl (by decide) dX11_firstOrder_1 2 rfl rfl ?_
  refine z_lv (lv' := [(0, vr G 143), (1, vi 0)]) [1, 0] rfl ?_
  exact pX11_firstOrder_L2 C R hR F F 0 σ
-- change
def gX11_change (σ : St) (x1 : Int) (x2 : Int) : Option (St) := gd (0 ≤ w32 x1 ∧ w32 x1 < 9) (gd (0 ≤ w32 x2 ∧ w32 x2 < 9) (gd (0 ≤ w32 x1 ∧ w32 x1 < 9) (gd (0 ≤ w32 x2 ∧ w32 x2 < 9) (some (up (up σ 166 (w32 x1) (σ 166 (w32 x2))) 166 (w32 x2) (σ 166 (w32 x1)))))))
def rmX11_change : Room := { frames := 0, cells := 0, slots := 0, locals := 0 }
set_option maxRecDepth 100000 in
set_option maxHeartbeats 4000000 in
theorem tX11_change (l : Launch) (G : GG) (σ : St) (x1 : Int) (x2 : Int) : Ctr l G yX11_change cX11_change 4 none rmX11_change [vr G 143, vi x1, vi x2] (w0 σ) vzV wzV (gX11_change σ x1 x2) := by
  refine ctr_of (by decide) (Nat.le_of_ble_eq_true rfl) mwX11_change.1 (fun X hl hR C R hnm => ?_)
  subst hl
  refine z_lv (lv' := [(0, vr G 143), (1, vi x1), (2, vi x2)]) [0, 1, 2] rfl ?_
  show ZZ X G 4 (QM X G vzV wzV (0, 0)) (0, 0) (gd (0 ≤ w32 x1 ∧ w32 x1 < 9) (gd (0 ≤ w32 x2 ∧ w32 x2 < 9) (gd (0 ≤ w32 x1 ∧ w32 x1 < 9) (gd (0 ≤ w32 x2 ∧ w32 x2 < 9) (some (up (up σ 166 (w32 x1) (σ 166 (w32 x2))) 166 (w32 x2) (σ 166 (w32 x1)))))))) (w0 σ) 0 [(0, vr G 143), (1, vi x1), (2, vi x2)] []
  refine z_aload_n C 0 rfl 0 rfl dX11_change_0 1 rfl ?_
  refine y_getR C fX11_76 one_11 lay_11_37 dX11_change_1 4 rfl ?_
  refine z_iload_n C 1 rfl 1 rfl dX11_change_4 5 rfl ?_
  refine y_iald C lay_11_37.2 rfl dX11_change_5 6 rfl rfl (fun _ => ?_)
  refine z_istore_n (lv' := [(3, vi (σ 166 (w32 x1))), (0, vr G 143), (1, vi x1), (2, vi x2)]) C 3 rfl (by decide) dX11_change_6 7 rfl rfl ?_
  refine z_aload_n C 0 rfl 1 rfl dX11_change_7 8 rfl ?_
  refine y_getR C fX11_76 one_11 lay_11_37 dX11_change_8 11 rfl ?_
  refine z_iload_n C 1 rfl 2 rfl dX11_change_11 12 rfl ?_
  refine z_aload_n C 0 rfl 1 rfl dX11_change_12 13 rfl ?_
  refine y_getR C fX11_76 one_11 lay_11_37 dX11_change_13 16 rfl ?_
  refine z_iload_n C 2 rfl 3 rfl dX11_change_16 17 rfl ?_
  refine y_iald C lay_11_37.2 rfl dX11_change_17 18 rfl rfl (fun _ => ?_)
  refine y_iast C lay_11_37.2 rfl dX11_change_18 19 rfl rfl (fun _ => ?_)
  refine z_aload_n C 0 rfl 1 rfl dX11_change_19 20 rfl ?_
  refine y_getR C fX11_76 one_11 lay_11_37 dX11_change_20 23 rfl ?_
  refine z_iload_n C 2 rfl 3 rfl dX11_change_23 24 rfl ?_
  refine z_iload_n C 3 rfl 0 rfl dX11_change_24 25 rfl ?_
  refine y_iast C lay_11_37.2 rfl dX11_change_25 26 rfl rfl (fun _ => ?_)
  exact z_vret C R rfl rfl dX11_change_26
-- nextOrder
def gX11_nextOrder_L78 (F : Nat) (x1 : Int) : Nat → Int → Int → St → Option (Int × St)
  | 0, _, _, _ => none
  | n + 1, x4, x5, σ => if w32 x4 ≥ w32 x5 then some (1, σ) else (gX11_change σ x4 x5).bind fun r1 => gX11_nextOrder_L78 F x1 n (x4 + 1) (x5 + (-1)) r1
def gX11_nextOrder_L41 (F : Nat) (x1 : Int) : Nat → Int → Int → St → Option (Int × St)
  | 0, _, _, _ => none
  | n + 1, x2, x3, σ => gd (0 ≤ w32 x3 ∧ w32 x3 < 9) (gd (0 ≤ w32 x2 ∧ w32 x2 < 9) (if w32 (σ 166 (w32 x3)) ≥ w32 (σ 166 (w32 x2)) then (gX11_change σ x2 x3).bind fun r1 => gX11_nextOrder_L78 F x1 F (x2 + 1) (x1 - 1) r1 else gX11_nextOrder_L41 F x1 n x2 (x3 + (-1)) σ))
def gX11_nextOrder_L31 (F : Nat) (x1 : Int) (x2 : Int) (σ : St) : Option (Int × St) := if w32 x2 ≥ 0 then gX11_nextOrder_L41 F x1 F x2 (x1 - 1) σ else some (0, σ)
def gX11_nextOrder_L4 (F : Nat) (x1 : Int) : Nat → Int → St → Option (Int × St)
  | 0, _, _ => none
  | n + 1, x2, σ => if w32 x2 < 0 then gX11_nextOrder_L31 F x1 x2 σ else gd (0 ≤ w32 x2 ∧ w32 x2 < 9) (gd (0 ≤ w32 (x2 + 1) ∧ w32 (x2 + 1) < 9) (if w32 (σ 166 (w32 x2)) ≤ w32 (σ 166 (w32 (x2 + 1))) then gX11_nextOrder_L31 F x1 x2 σ else gX11_nextOrder_L4 F x1 n (x2 + (-1)) σ))
def gX11_nextOrder (F : Nat) (σ : St) (x1 : Int) : Option (Int × St) := gX11_nextOrder_L4 F x1 F (x1 - 2) σ
def rmX11_nextOrder : Room := { frames := 1, cells := 0, slots := 0, locals := 23 }
set_option maxRecDepth 100000 in
set_option maxHeartbeats 4000000 in
theorem pX11_nextOrder_L78 {X : MX} {G : GG} (C : CX X G 6 cX11_nextOrder RX11) (R : RT X (some .boolean)) (hR : mR X = rmX11_nextOrder) (F : Nat) (x1 : Int)  : ∀ (n : Nat) (x4 : Int) (x5 : Int) (σ : St), ZZ X G 6 (QM X G vzIw wzW (0, 0)) (0, 0) (gX11_nextOrder_L78 F x1 n x4 x5 σ) (w0 σ) 78 [(0, vr G 143), (4, vi x4), (5, vi x5)] [] := by
  intro n
  induction n with
  | zero =>
    intro _ _ _
    exact z_none
  | succ n ih =>
    intro x4 x5 σ
    show ZZ X G 6 (QM X G vzIw wzW (0, 0)) (0, 0) (if w32 x4 ≥ w32 x5 then some (1, σ) else (gX11_change σ x4 x5).bind fun r1 => gX11_nextOrder_L78 F x1 n (x4 + 1) (x5 + (-1)) r1) (w0 σ) 78 [(0, vr G 143), (4, vi x4), (5, vi x5)] []
    refine z_iload C 1 rfl dX11_nextOrder_78 80 rfl ?_
    refine z_iload C 2 rfl dX11_nextOrder_80 82 rfl ?_
    refine z_icmp_ge C dX11_nextOrder_82 102 (by decide) 85 rfl rfl rfl (fun _ => ?_) (fun _ => ?_)
    · refine z_iconst C dX11_nextOrder_102 103 rfl ?_
      exact z_zret C R nz1 rfl rfl dX11_nextOrder_103
    · refine z_aload_n C 0 rfl 0 rfl dX11_nextOrder_85 86 rfl ?_
      refine z_iload C 1 rfl dX11_nextOrder_86 88 rfl ?_
      refine z_iload C 2 rfl dX11_nextOrder_88 90 rfl ?_
      refine y_callVv C hR (tX11_change (mL X) G σ x4 x5) ⟨mwX11_change, mvX11_change, lkX11_318⟩ one_11 rfl rfl (Nat.le_of_ble_eq_true rfl) (by unfold rmOK; decide) dX11_nextOrder_90 93 rfl (fun r1 _ => ?_)
      refine z_iinc (lv' := [(4, vi (x4 + 1)), (0, vr G 143), (5, vi x5)]) C (by decide) 1 rfl dX11_nextOrder_93 96 rfl rfl ?_
      refine z_iinc (lv' := [(5, vi (x5 + (-1))), (4, vi (x4 + 1)), (0, vr G 143)]) C (by decide) 2 rfl dX11_nextOrder_96 99 rfl rfl ?_
      refine z_goto C dX11_nextOrder_99 78 (by decide) ?_
      refine z_lv (lv' := [(0, vr G 143), (4, vi (x4 + 1)), (5, vi (x5 + (-1)))]) [2, 1, 0] rfl ?_
      exact ih (x4 + 1) (x5 + (-1)) r1
set_option maxRecDepth 100000 in
set_option maxHeartbeats 4000000 in
theorem pX11_nextOrder_L41 {X : MX} {G : GG} (C : CX X G 6 cX11_nextOrder RX11) (R : RT X (some .boolean)) (hR : mR X = rmX11_nextOrder) (F : Nat) (x1 : Int)  : ∀ (n : Nat) (x2 : Int) (x3 : Int) (σ : St), ZZ X G 6 (QM X G vzIw wzW (0, 0)) (0, 0) (gX11_nextOrder_L41 F x1 n x2 x3 σ) (w0 σ) 41 [(0, vr G 143), (1, vi x1), (2, vi x2), (3, vi x3)] [] := by
  intro n
  induction n with
  | zero =>
    intro _ _ _
    exact z_none
  | succ n ih =>
    intro x2 x3 σ
    show ZZ X G 6 (QM X G vzIw wzW (0, 0)) (0, 0) (gd (0 ≤ w32 x3 ∧ w32 x3 < 9) (gd (0 ≤ w32 x2 ∧ w32 x2 < 9) (if w32 (σ 166 (w32 x3)) ≥ w32 (σ 166 (w32 x2)) then (gX11_change σ x2 x3).bind fun r1 => gX11_nextOrder_L78 F x1 F (x2 + 1) (x1 - 1) r1 else gX11_nextOrder_L41 F x1 n x2 (x3 + (-1)) σ))) (w0 σ) 41 [(0, vr G 143), (1, vi x1), (2, vi x2), (3, vi x3)] []
    refine z_aload_n C 0 rfl 0 rfl dX11_nextOrder_41 42 rfl ?_
    refine y_getR C fX11_76 one_11 lay_11_37 dX11_nextOrder_42 45 rfl ?_
    refine z_iload_n C 3 rfl 3 rfl dX11_nextOrder_45 46 rfl ?_
    refine y_iald C lay_11_37.2 rfl dX11_nextOrder_46 47 rfl rfl (fun _ => ?_)
    refine z_aload_n C 0 rfl 0 rfl dX11_nextOrder_47 48 rfl ?_
    refine y_getR C fX11_76 one_11 lay_11_37 dX11_nextOrder_48 51 rfl ?_
    refine z_iload_n C 2 rfl 2 rfl dX11_nextOrder_51 52 rfl ?_
    refine y_iald C lay_11_37.2 rfl dX11_nextOrder_52 53 rfl rfl (fun _ => ?_)
    refine z_icmp_ge C dX11_nextOrder_53 62 (by decide) 56 rfl rfl rfl (fun _ => ?_) (fun _ => ?_)
    · refine z_aload_n C 0 rfl 0 rfl dX11_nextOrder_62 63 rfl ?_
      refine z_iload_n C 2 rfl 2 rfl dX11_nextOrder_63 64 rfl ?_
      refine z_iload_n C 3 rfl 3 rfl dX11_nextOrder_64 65 rfl ?_
      refine y_callVv C hR (tX11_change (mL X) G σ x2 x3) ⟨mwX11_change, mvX11_change, lkX11_318⟩ one_11 rfl rfl (Nat.le_of_ble_eq_true rfl) (by unfold rmOK; decide) dX11_nextOrder_65 68 rfl (fun r1 _ => ?_)
      refine z_iload_n C 2 rfl 2 rfl dX11_nextOrder_68 69 rfl ?_
      refine z_iconst C dX11_nextOrder_69 70 rfl ?_
      refine z_iadd C dX11_nextOrder_70 71 rfl ?_
      refine z_istore (lv' := [(4, vi (x2 + 1)), (0, vr G 143), (1, vi x1), (2, vi x2), (3, vi x3)]) C (by decide) dX11_nextOrder_71 73 rfl rfl ?_
      refine z_iload_n C 1 rfl 2 rfl dX11_nextOrder_73 74 rfl ?_
      refine z_iconst C dX11_nextOrder_74 75 rfl ?_
      refine z_isub C dX11_nextOrder_75 76 rfl ?_
      refine z_istore (lv' := [(5, vi (x1 - 1)), (4, vi (x2 + 1)), (0, vr G 143), (1, vi x1), (2, vi x2), (3, vi x3)]) C (by decide) dX11_nextOrder_76 78 rfl rfl ?_
      refine z_lv (lv' := [(0, vr G 143), (4, vi (x2 + 1)), (5, vi (x1 - 1))]) [2, 1, 0] rfl ?_
      exact pX11_nextOrder_L78 C R hR F x1 F (x2 + 1) (x1 - 1) r1
    · refine z_iinc (lv' := [(3, vi (x3 + (-1))), (0, vr G 143), (1, vi x1), (2, vi x2)]) C (by decide) 3 rfl dX11_nextOrder_56 59 rfl rfl ?_
      refine z_goto C dX11_nextOrder_59 41 (by decide) ?_
      refine z_lv (lv' := [(0, vr G 143), (1, vi x1), (2, vi x2), (3, vi (x3 + (-1)))]) [1, 2, 3, 0] rfl ?_
      exact ih x2 (x3 + (-1)) σ
set_option maxRecDepth 100000 in
set_option maxHeartbeats 4000000 in
theorem pX11_nextOrder_L31 {X : MX} {G : GG} (C : CX X G 6 cX11_nextOrder RX11) (R : RT X (some .boolean)) (hR : mR X = rmX11_nextOrder) (F : Nat) (x1 : Int)  : ∀ (x2 : Int) (σ : St), ZZ X G 6 (QM X G vzIw wzW (0, 0)) (0, 0) (gX11_nextOrder_L31 F x1 x2 σ) (w0 σ) 31 [(0, vr G 143), (1, vi x1), (2, vi x2)] [] := by
  intro x2 σ
  show ZZ X G 6 (QM X G vzIw wzW (0, 0)) (0, 0) (if w32 x2 ≥ 0 then gX11_nextOrder_L41 F x1 F x2 (x1 - 1) σ else some (0, σ)) (w0 σ) 31 [(0, vr G 143), (1, vi x1), (2, vi x2)] []
  refine z_iload_n C 2 rfl 2 rfl dX11_nextOrder_31 32 rfl ?_
  refine z_if_ge C dX11_nextOrder_32 37 (by decide) 35 rfl rfl (fun _ => ?_) (fun _ => ?_)
  · refine z_iload_n C 1 rfl 1 rfl dX11_nextOrder_37 38 rfl ?_
    refine z_iconst C dX11_nextOrder_38 39 rfl ?_
    refine z_isub C dX11_nextOrder_39 40 rfl ?_
    refine z_istore_n (lv' := [(3, vi (x1 - 1)), (0, vr G 143), (1, vi x1), (2, vi x2)]) C 3 rfl (by decide) dX11_nextOrder_40 41 rfl rfl ?_
    refine z_lv (lv' := [(0, vr G 143), (1, vi x1), (2, vi x2), (3, vi (x1 - 1))]) [1, 2, 3, 0] rfl ?_
    exact pX11_nextOrder_L41 C R hR F x1 F x2 (x1 - 1) σ
  · refine z_iconst C dX11_nextOrder_35 36 rfl ?_
    exact z_zret C R nz0 rfl rfl dX11_nextOrder_36
set_option maxRecDepth 100000 in
set_option maxHeartbeats 4000000 in
theorem pX11_nextOrder_L4 {X : MX} {G : GG} (C : CX X G 6 cX11_nextOrder RX11) (R : RT X (some .boolean)) (hR : mR X = rmX11_nextOrder) (F : Nat) (x1 : Int)  : ∀ (n : Nat) (x2 : Int) (σ : St), ZZ X G 6 (QM X G vzIw wzW (0, 0)) (0, 0) (gX11_nextOrder_L4 F x1 n x2 σ) (w0 σ) 4 [(0, vr G 143), (1, vi x1), (2, vi x2)] [] := by
  intro n
  induction n with
  | zero =>
    intro _ _
    exact z_none
  | succ n ih =>
    intro x2 σ
    show ZZ X G 6 (QM X G vzIw wzW (0, 0)) (0, 0) (if w32 x2 < 0 then gX11_nextOrder_L31 F x1 x2 σ else gd (0 ≤ w32 x2 ∧ w32 x2 < 9) (gd (0 ≤ w32 (x2 + 1) ∧ w32 (x2 + 1) < 9) (if w32 (σ 166 (w32 x2)) ≤ w32 (σ 166 (w32 (x2 + 1))) then gX11_nextOrder_L31 F x1 x2 σ else gX11_nextOrder_L4 F x1 n (x2 + (-1)) σ))) (w0 σ) 4 [(0, vr G 143), (1, vi x1), (2, vi x2)] []
    refine z_iload_n C 2 rfl 2 rfl dX11_nextOrder_4 5 rfl ?_
    refine z_if_lt C dX11_nextOrder_5 31 (by decide) 8 rfl rfl (fun _ => ?_) (fun _ => ?_)
    · exact pX11_nextOrder_L31 C R hR F x1 x2 σ
    · refine z_aload_n C 0 rfl 0 rfl dX11_nextOrder_8 9 rfl ?_
      refine y_getR C fX11_76 one_11 lay_11_37 dX11_nextOrder_9 12 rfl ?_
      refine z_iload_n C 2 rfl 2 rfl dX11_nextOrder_12 13 rfl ?_
      refine y_iald C lay_11_37.2 rfl dX11_nextOrder_13 14 rfl rfl (fun _ => ?_)
      refine z_aload_n C 0 rfl 0 rfl dX11_nextOrder_14 15 rfl ?_
      refine y_getR C fX11_76 one_11 lay_11_37 dX11_nextOrder_15 18 rfl ?_
      refine z_iload_n C 2 rfl 2 rfl dX11_nextOrder_18 19 rfl ?_
      refine z_iconst C dX11_nextOrder_19 20 rfl ?_
      refine z_iadd C dX11_nextOrder_20 21 rfl ?_
      refine y_iald C lay_11_37.2 rfl dX11_nextOrder_21 22 rfl rfl (fun _ => ?_)
      refine z_icmp_le C dX11_nextOrder_22 31 (by decide) 25 rfl rfl rfl (fun _ => ?_) (fun _ => ?_)
      · exact pX11_nextOrder_L31 C R hR F x1 x2 σ
      · refine z_iinc (lv' := [(2, vi (x2 + (-1))), (0, vr G 143), (1, vi x1)]) C (by decide) 2 rfl dX11_nextOrder_25 28 rfl rfl ?_
        refine z_goto C dX11_nextOrder_28 4 (by decide) ?_
        refine z_lv (lv' := [(0, vr G 143), (1, vi x1), (2, vi (x2 + (-1)))]) [1, 2, 0] rfl ?_
        exact ih (x2 + (-1)) σ
set_option maxRecDepth 100000 in
set_option maxHeartbeats 4000000 in
theorem tX11_nextOrder (l : Launch) (G : GG) (F : Nat) (σ : St) (x1 : Int) : Ctr l G yX11_nextOrder cX11_nextOrder 6 (some .boolean) rmX11_nextOrder [vr G 143, vi x1] (w0 σ) vzIw wzW (gX11_nextOrder F σ x1) := by
  refine ctr_of (by decide) (Nat.le_of_ble_eq_true rfl) mwX11_nextOrder.1 (fun X hl hR C R hnm => ?_)
  subst hl
  refine z_lv (lv' := [(0, vr G 143), (1, vi x1)]) [0, 1] rfl ?_
  show ZZ X G 6 (QM X G vzIw wzW (0, 0)) (0, 0) (gX11_nextOrder_L4 F x1 F (x1 - 2) σ) (w0 σ) 0 [(0, vr G 143), (1, vi x1)] []
  refine z_iload_n C 1 rfl 1 rfl dX11_nextOrder_0 1 rfl ?_
  refine z_iconst C dX11_nextOrder_1 2 rfl ?_
  refine z_isub C dX11_nextOrder_2 3 rfl ?_
  refine z_istore_n (lv' := [(2, vi (x1 - 2)), (0, vr G 143), (1, vi x1)]) C 2 rfl (by decide) dX11_nextOrder_3 4 rfl rfl ?_
  refine z_lv (lv' := [(0, vr G 143), (1, vi x1), (2, vi (x1 - 2))]) [1, 2, 0] rfl ?_
  exact pX11_nextOrder_L4 C R hR F x1 F (x1 - 2) σ
-- layMean
def gX11_layMean_L85 (F : Nat) (x1 : Int) (c20 : Int → St → Option (St)) (x3 : Int) (s1 : Int) (σ : St) : Option (St) := (gX11_nextOrder F (up (up (up σ 143 46 s1) 143 43 (((up σ 143 46 s1) 143 43) + (w32 x3))) 143 44 (((up (up σ 143 46 s1) 143 43 (((up σ 143 46 s1) 143 43) + (w32 x3))) 143 44) + 1)) ((up (up (up σ 143 46 s1) 143 43 (((up σ 143 46 s1) 143 43) + (w32 x3))) 143 44 (((up (up σ 143 46 s1) 143 43 (((up σ 143 46 s1) 143 43) + (w32 x3))) 143 44) + 1)) 143 4)).bind fun r1 => c20 r1.1 r1.2
def gX11_layMean_L77 (F : Nat) (x1 : Int) (c20 : Int → St → Option (St)) (x3 : Int) (σ : St) : Option (St) := gX11_layMean_L85 F x1 c20 x3 x3 σ
def gX11_layMean_L56 (F : Nat) (x1 : Int) (c20 : Int → St → Option (St)) (x3 : Int) (s1 : Int) (σ : St) : Option (St) := if w64 ((up σ 143 45 s1) 143 44) = 0 then gX11_layMean_L77 F x1 c20 x3 (up σ 143 45 s1) else if w32 x3 ≤ w32 ((up σ 143 45 s1) 143 46) then gX11_layMean_L85 F x1 c20 x3 ((up σ 143 45 s1) 143 46) (up σ 143 45 s1) else gX11_layMean_L77 F x1 c20 x3 (up σ 143 45 s1)
def gX11_layMean_L48 (F : Nat) (x1 : Int) (c20 : Int → St → Option (St)) (x3 : Int) (σ : St) : Option (St) := gX11_layMean_L56 F x1 c20 x3 x3 σ
def gX11_layMean_L20 (F : Nat) (x1 : Int) : Nat → Int → St → Option (St)
  | 0, _, _ => none
  | n + 1, x2, σ => if w32 x2 = 0 then some σ else (gX11_runByOrder F σ x1).bind fun r1 => if w64 (r1.2 143 44) = 0 then gX11_layMean_L48 F x1 (gX11_layMean_L20 F x1 n) r1.1 r1.2 else if w32 r1.1 ≥ w32 (r1.2 143 45) then gX11_layMean_L56 F x1 (gX11_layMean_L20 F x1 n) r1.1 (r1.2 143 45) r1.2 else gX11_layMean_L48 F x1 (gX11_layMean_L20 F x1 n) r1.1 r1.2
def gX11_layMean (F : Nat) (σ : St) (x1 : Int) : Option (St) := (gX11_loadMain F σ).bind fun r1 => (gX11_firstOrder F r1).bind fun r2 => gX11_layMean_L20 F x1 F 1 (up (up r2 143 43 0) 143 44 0)
def rmX11_layMean : Room := { frames := 5, cells := 0, slots := 0, locals := 121 }
set_option maxRecDepth 100000 in
set_option maxHeartbeats 4000000 in
theorem pX11_layMean_L85 {X : MX} {G : GG} (C : CX X G 4 cX11_layMean RX11) (R : RT X none) (hR : mR X = rmX11_layMean) (F : Nat) (x1 : Int) (c20 : Int → St → Option (St)) (hc20 : ∀ (x2 : Int) (σ : St), ZZ X G 4 (QM X G vzV wzV (0, 0)) (0, 0) (c20 x2 σ) (w0 σ) 20 [(0, vr G 143), (1, vi x1), (2, vi x2)] []) : ∀ (x3 : Int) (s1 : Int) (σ : St), ZZ X G 4 (QM X G vzV wzV (0, 0)) (0, 0) (gX11_layMean_L85 F x1 c20 x3 s1 σ) (w0 σ) 85 [(0, vr G 143), (1, vi x1), (3, vi x3)] [vi s1, vr G 143] := by
  intro x3 s1 σ
  show ZZ X G 4 (QM X G vzV wzV (0, 0)) (0, 0) ((gX11_nextOrder F (up (up (up σ 143 46 s1) 143 43 (((up σ 143 46 s1) 143 43) + (w32 x3))) 143 44 (((up (up σ 143 46 s1) 143 43 (((up σ 143 46 s1) 143 43) + (w32 x3))) 143 44) + 1)) ((up (up (up σ 143 46 s1) 143 43 (((up σ 143 46 s1) 143 43) + (w32 x3))) 143 44 (((up (up σ 143 46 s1) 143 43 (((up σ 143 46 s1) 143 43) + (w32 x3))) 143 44) + 1)) 143 4)).bind fun r1 => c20 r1.1 r1.2) (w0 σ) 85 [(0, vr G 143), (1, vi x1), (3, vi x3)] [vi s1, vr G 143]
  refine y_putI C fX11_334 one_11 ⟨rfl, rfl⟩ dX11_layMean_85 88 rfl ?_
  refine z_aload_n C 0 rfl 0 rfl dX11_layMean_88 89 rfl ?_
  refine z_dup C rfl dX11_layMean_89 90 rfl ?_
  refine y_getJ C fX11_324 one_11 dX11_layMean_90 93 rfl ?_
  refine z_iload_n C 3 rfl 2 rfl dX11_layMean_93 94 rfl ?_
  refine z_i2l C dX11_layMean_94 95 rfl ?_
  refine z_ladd C dX11_layMean_95 96 rfl ?_
  refine y_putJ C fX11_324 one_11 ⟨rfl, rfl⟩ dX11_layMean_96 99 rfl ?_
  refine z_aload_n C 0 rfl 0 rfl dX11_layMean_99 100 rfl ?_
  refine z_dup C rfl dX11_layMean_100 101 rfl ?_
  refine y_getJ C fX11_328 one_11 dX11_layMean_101 104 rfl ?_
  refine z_lconst (v := 1) C (by decide) dX11_layMean_104 105 rfl ?_
  refine z_ladd C dX11_layMean_105 106 rfl ?_
  refine y_putJ C fX11_328 one_11 ⟨rfl, rfl⟩ dX11_layMean_106 109 rfl ?_
  refine z_aload_n C 0 rfl 0 rfl dX11_layMean_109 110 rfl ?_
  refine z_aload_n C 0 rfl 0 rfl dX11_layMean_110 111 rfl ?_
  refine y_getI C fX11_130 one_11 dX11_layMean_111 114 rfl ?_
  refine y_callVIw C hR (tX11_nextOrder (mL X) G F (up (up (up σ 143 46 s1) 143 43 (((up σ 143 46 s1) 143 43) + (w32 x3))) 143 44 (((up (up σ 143 46 s1) 143 43 (((up σ 143 46 s1) 143 43) + (w32 x3))) 143 44) + 1)) ((up (up (up σ 143 46 s1) 143 43 (((up σ 143 46 s1) 143 43) + (w32 x3))) 143 44 (((up (up σ 143 46 s1) 143 43 (((up σ 143 46 s1) 143 43) + (w32 x3))) 143 44) + 1)) 143 4)) ⟨mwX11_nextOrder, mvX11_nextOrder, lkX11_337⟩ one_11 rfl rfl (Nat.le_of_ble_eq_true rfl) (by unfold rmOK; decide) dX11_layMean_114 117 rfl (fun r1 _ => ?_)
  refine z_istore_n (lv' := [(2, vi r1.1), (0, vr G 143), (1, vi x1), (3, vi x3)]) C 2 rfl (by decide) dX11_layMean_117 118 rfl rfl ?_
  refine z_goto C dX11_layMean_118 20 (by decide) ?_
  refine z_lv (lv' := [(0, vr G 143), (1, vi x1), (2, vi r1.1)]) [1, 2, 0] rfl ?_
  exact hc20 r1.1 r1.2
set_option maxRecDepth 100000 in
set_option maxHeartbeats 4000000 in
theorem pX11_layMean_L77 {X : MX} {G : GG} (C : CX X G 4 cX11_layMean RX11) (R : RT X none) (hR : mR X = rmX11_layMean) (F : Nat) (x1 : Int) (c20 : Int → St → Option (St)) (hc20 : ∀ (x2 : Int) (σ : St), ZZ X G 4 (QM X G vzV wzV (0, 0)) (0, 0) (c20 x2 σ) (w0 σ) 20 [(0, vr G 143), (1, vi x1), (2, vi x2)] []) : ∀ (x3 : Int) (σ : St), ZZ X G 4 (QM X G vzV wzV (0, 0)) (0, 0) (gX11_layMean_L77 F x1 c20 x3 σ) (w0 σ) 77 [(0, vr G 143), (1, vi x1), (3, vi x3)] [vr G 143] := by
  intro x3 σ
  show ZZ X G 4 (QM X G vzV wzV (0, 0)) (0, 0) (gX11_layMean_L85 F x1 c20 x3 x3 σ) (w0 σ) 77 [(0, vr G 143), (1, vi x1), (3, vi x3)] [vr G 143]
  refine z_iload_n C 3 rfl 2 rfl dX11_layMean_77 78 rfl ?_
  refine z_goto C dX11_layMean_78 85 (by decide) ?_
  exact pX11_layMean_L85 C R hR F x1 c20 hc20 x3 x3 σ
set_option maxRecDepth 100000 in
set_option maxHeartbeats 4000000 in
theorem pX11_layMean_L56 {X : MX} {G : GG} (C : CX X G 4 cX11_layMean RX11) (R : RT X none) (hR : mR X = rmX11_layMean) (F : Nat) (x1 : Int) (c20 : Int → St → Option (St)) (hc20 : ∀ (x2 : Int) (σ : St), ZZ X G 4 (QM X G vzV wzV (0, 0)) (0, 0) (c20 x2 σ) (w0 σ) 20 [(0, vr G 143), (1, vi x1), (2, vi x2)] []) : ∀ (x3 : Int) (s1 : Int) (σ : St), ZZ X G 4 (QM X G vzV wzV (0, 0)) (0, 0) (gX11_layMean_L56 F x1 c20 x3 s1 σ) (w0 σ) 56 [(0, vr G 143), (1, vi x1), (3, vi x3)] [vi s1, vr G 143] := by
  intro x3 s1 σ
  show ZZ X G 4 (QM X G vzV wzV (0, 0)) (0, 0) (if w64 ((up σ 143 45 s1) 143 44) = 0 then gX11_layMean_L77 F x1 c20 x3 (up σ 143 45 s1) else if w32 x3 ≤ w32 ((up σ 143 45 s1) 143 46) then gX11_layMean_L85 F x1 c20 x3 ((up σ 143 45 s1) 143 46) (up σ 143 45 s1) else gX11_layMean_L77 F x1 c20 x3 (up σ 143 45 s1)) (w0 σ) 56 [(0, vr G 143), (1, vi x1), (3, vi x3)] [vi s1, vr G 143]
  refine y_putI C fX11_331 one_11 ⟨rfl, rfl⟩ dX11_layMean_56 59 rfl ?_
  refine z_aload_n C 0 rfl 0 rfl dX11_layMean_59 60 rfl ?_
  refine z_aload_n C 0 rfl 0 rfl dX11_layMean_60 61 rfl ?_
  refine y_getJ C fX11_328 one_11 dX11_layMean_61 64 rfl ?_
  refine z_lconst (v := 0) C (by decide) dX11_layMean_64 65 rfl ?_
  refine z_lif_eq C dX11_layMean_65 66 rfl dX11_layMean_66 77 (by decide) 69 rfl rfl (w64_id (a := 0) (by decide)) (fun _ => ?_) (fun _ => ?_)
  · exact pX11_layMean_L77 C R hR F x1 c20 hc20 x3 (up σ 143 45 s1)
  · refine z_iload_n C 3 rfl 2 rfl dX11_layMean_69 70 rfl ?_
    refine z_aload_n C 0 rfl 0 rfl dX11_layMean_70 71 rfl ?_
    refine y_getI C fX11_334 one_11 dX11_layMean_71 74 rfl ?_
    refine z_icmp_le C dX11_layMean_74 81 (by decide) 77 rfl rfl rfl (fun _ => ?_) (fun _ => ?_)
    · refine z_aload_n C 0 rfl 0 rfl dX11_layMean_81 82 rfl ?_
      refine y_getI C fX11_334 one_11 dX11_layMean_82 85 rfl ?_
      exact pX11_layMean_L85 C R hR F x1 c20 hc20 x3 ((up σ 143 45 s1) 143 46) (up σ 143 45 s1)
    · exact pX11_layMean_L77 C R hR F x1 c20 hc20 x3 (up σ 143 45 s1)
set_option maxRecDepth 100000 in
set_option maxHeartbeats 4000000 in
theorem pX11_layMean_L48 {X : MX} {G : GG} (C : CX X G 4 cX11_layMean RX11) (R : RT X none) (hR : mR X = rmX11_layMean) (F : Nat) (x1 : Int) (c20 : Int → St → Option (St)) (hc20 : ∀ (x2 : Int) (σ : St), ZZ X G 4 (QM X G vzV wzV (0, 0)) (0, 0) (c20 x2 σ) (w0 σ) 20 [(0, vr G 143), (1, vi x1), (2, vi x2)] []) : ∀ (x3 : Int) (σ : St), ZZ X G 4 (QM X G vzV wzV (0, 0)) (0, 0) (gX11_layMean_L48 F x1 c20 x3 σ) (w0 σ) 48 [(0, vr G 143), (1, vi x1), (3, vi x3)] [vr G 143] := by
  intro x3 σ
  show ZZ X G 4 (QM X G vzV wzV (0, 0)) (0, 0) (gX11_layMean_L56 F x1 c20 x3 x3 σ) (w0 σ) 48 [(0, vr G 143), (1, vi x1), (3, vi x3)] [vr G 143]
  refine z_iload_n C 3 rfl 2 rfl dX11_layMean_48 49 rfl ?_
  refine z_goto C dX11_layMean_49 56 (by decide) ?_
  exact pX11_layMean_L56 C R hR F x1 c20 hc20 x3 x3 σ
set_option maxRecDepth 100000 in
set_option maxHeartbeats 4000000 in
theorem pX11_layMean_L20 {X : MX} {G : GG} (C : CX X G 4 cX11_layMean RX11) (R : RT X none) (hR : mR X = rmX11_layMean) (F : Nat) (x1 : Int)  : ∀ (n : Nat) (x2 : Int) (σ : St), ZZ X G 4 (QM X G vzV wzV (0, 0)) (0, 0) (gX11_layMean_L20 F x1 n x2 σ) (w0 σ) 20 [(0, vr G 143), (1, vi x1), (2, vi x2)] [] := by
  intro n
  induction n with
  | zero =>
    intro _ _
    exact z_none
  | succ n ih =>
    intro x2 σ
    show ZZ X G 4 (QM X G vzV wzV (0, 0)) (0, 0) (if w32 x2 = 0 then some σ else (gX11_runByOrder F σ x1).bind fun r1 => if w64 (r1.2 143 44) = 0 then gX11_layMean_L48 F x1 (gX11_layMean_L20 F x1 n) r1.1 r1.2 else if w32 r1.1 ≥ w32 (r1.2 143 45) then gX11_layMean_L56 F x1 (gX11_layMean_L20 F x1 n) r1.1 (r1.2 143 45) r1.2 else gX11_layMean_L48 F x1 (gX11_layMean_L20 F x1 n) r1.1 r1.2) (w0 σ) 20 [(0, vr G 143), (1, vi x1), (2, vi x2)] []
    refine z_iload_n C 2 rfl 2 rfl dX11_layMean_20 21 rfl ?_
    refine z_if_eq C dX11_layMean_21 121 (by decide) 24 rfl rfl (fun _ => ?_) (fun _ => ?_)
    · exact z_vret C R rfl rfl dX11_layMean_121
    · refine z_aload_n C 0 rfl 0 rfl dX11_layMean_24 25 rfl ?_
      refine z_iload_n C 1 rfl 1 rfl dX11_layMean_25 26 rfl ?_
      refine y_callVIw C hR (tX11_runByOrder (mL X) G F σ x1) ⟨mwX11_runByOrder, mvX11_runByOrder, lkX11_285⟩ one_11 rfl rfl (Nat.le_of_ble_eq_true rfl) (by unfold rmOK; decide) dX11_layMean_26 29 rfl (fun r1 _ => ?_)
      refine z_istore_n (lv' := [(3, vi r1.1), (0, vr G 143), (1, vi x1), (2, vi x2)]) C 3 rfl (by decide) dX11_layMean_29 30 rfl rfl ?_
      refine z_aload_n C 0 rfl 1 rfl dX11_layMean_30 31 rfl ?_
      refine z_aload_n C 0 rfl 1 rfl dX11_layMean_31 32 rfl ?_
      refine y_getJ C fX11_328 one_11 dX11_layMean_32 35 rfl ?_
      refine z_lconst (v := 0) C (by decide) dX11_layMean_35 36 rfl ?_
      refine z_lif_eq C dX11_layMean_36 37 rfl dX11_layMean_37 48 (by decide) 40 rfl rfl (w64_id (a := 0) (by decide)) (fun _ => ?_) (fun _ => ?_)
      · refine z_lv (lv' := [(0, vr G 143), (1, vi x1), (3, vi r1.1)]) [1, 2, 0] rfl ?_
        exact pX11_layMean_L48 C R hR F x1 (gX11_layMean_L20 F x1 n) ih r1.1 r1.2
      · refine z_iload_n C 3 rfl 0 rfl dX11_layMean_40 41 rfl ?_
        refine z_aload_n C 0 rfl 1 rfl dX11_layMean_41 42 rfl ?_
        refine y_getI C fX11_331 one_11 dX11_layMean_42 45 rfl ?_
        refine z_icmp_ge C dX11_layMean_45 52 (by decide) 48 rfl rfl rfl (fun _ => ?_) (fun _ => ?_)
        · refine z_aload_n C 0 rfl 1 rfl dX11_layMean_52 53 rfl ?_
          refine y_getI C fX11_331 one_11 dX11_layMean_53 56 rfl ?_
          refine z_lv (lv' := [(0, vr G 143), (1, vi x1), (3, vi r1.1)]) [1, 2, 0] rfl ?_
          exact pX11_layMean_L56 C R hR F x1 (gX11_layMean_L20 F x1 n) ih r1.1 (r1.2 143 45) r1.2
        · refine z_lv (lv' := [(0, vr G 143), (1, vi x1), (3, vi r1.1)]) [1, 2, 0] rfl ?_
          exact pX11_layMean_L48 C R hR F x1 (gX11_layMean_L20 F x1 n) ih r1.1 r1.2
set_option maxRecDepth 100000 in
set_option maxHeartbeats 4000000 in
theorem tX11_layMean (l : Launch) (G : GG) (F : Nat) (σ : St) (x1 : Int) : Ctr l G yX11_layMean cX11_layMean 4 none rmX11_layMean [vr G 143, vi x1] (w0 σ) vzV wzV (gX11_layMean F σ x1) := by
  refine ctr_of (by decide) (Nat.le_of_ble_eq_true rfl) mwX11_layMean.1 (fun X hl hR C R hnm => ?_)
  subst hl
  refine z_lv (lv' := [(0, vr G 143), (1, vi x1)]) [0, 1] rfl ?_
  show ZZ X G 4 (QM X G vzV wzV (0, 0)) (0, 0) ((gX11_loadMain F σ).bind fun r1 => (gX11_firstOrder F r1).bind fun r2 => gX11_layMean_L20 F x1 F 1 (up (up r2 143 43 0) 143 44 0)) (w0 σ) 0 [(0, vr G 143), (1, vi x1)] []
  refine z_aload_n C 0 rfl 0 rfl dX11_layMean_0 1 rfl ?_
  refine y_callVv C hR (tX11_loadMain (mL X) G F σ) ⟨mwX11_loadMain, mvX11_loadMain, lkX11_273⟩ one_11 rfl rfl (Nat.le_of_ble_eq_true rfl) (by unfold rmOK; decide) dX11_layMean_1 4 rfl (fun r1 _ => ?_)
  refine z_aload_n C 0 rfl 0 rfl dX11_layMean_4 5 rfl ?_
  refine y_callVv C hR (tX11_firstOrder (mL X) G F r1) ⟨mwX11_firstOrder, mvX11_firstOrder, lkX11_321⟩ one_11 rfl rfl (Nat.le_of_ble_eq_true rfl) (by unfold rmOK; decide) dX11_layMean_5 8 rfl (fun r2 _ => ?_)
  refine z_aload_n C 0 rfl 0 rfl dX11_layMean_8 9 rfl ?_
  refine z_lconst (v := 0) C (by decide) dX11_layMean_9 10 rfl ?_
  refine y_putJ C fX11_324 one_11 ⟨rfl, rfl⟩ dX11_layMean_10 13 rfl ?_
  refine z_aload_n C 0 rfl 0 rfl dX11_layMean_13 14 rfl ?_
  refine z_lconst (v := 0) C (by decide) dX11_layMean_14 15 rfl ?_
  refine y_putJ C fX11_328 one_11 ⟨rfl, rfl⟩ dX11_layMean_15 18 rfl ?_
  refine z_iconst C dX11_layMean_18 19 rfl ?_
  refine z_istore_n (lv' := [(2, vi 1), (0, vr G 143), (1, vi x1)]) C 2 rfl (by decide) dX11_layMean_19 20 rfl rfl ?_
  refine z_lv (lv' := [(0, vr G 143), (1, vi x1), (2, vi 1)]) [1, 2, 0] rfl ?_
  exact pX11_layMean_L20 C R hR F x1 F 1 (up (up r2 143 43 0) 143 44 0)
-- mean
def gX11_mean (F : Nat) (σ : St) (x1 : Int) (x2 : Int) : Option (Int × St) := (gX11_isRule σ x1).bind fun r1 => if w32 r1 = 0 then some ((-1), σ) else (gX11_in σ (w32 x2) 0 1).bind fun r2 => if w32 r2 ≠ 0 then if w32 (σ 143 4) ≤ 6 then (gX11_layMean F σ x1).bind fun r3 => (gX11_lowest F r3 (r3 143 43) (r3 143 44) x2).bind fun r4 => some (r4, r3) else some ((-2), σ) else some ((-1), σ)
def rmX11_mean : Room := { frames := 6, cells := 0, slots := 0, locals := 144 }
set_option maxRecDepth 100000 in
set_option maxHeartbeats 4000000 in
theorem tX11_mean (l : Launch) (G : GG) (F : Nat) (σ : St) (x1 : Int) (x2 : Int) : Ctr l G yX11_mean cX11_mean 3 (some .long) rmX11_mean [vr G 143, vi x1, vi x2] (w0 σ) vzJw wzW (gX11_mean F σ x1 x2) := by
  refine ctr_of (by decide) (Nat.le_of_ble_eq_true rfl) mwX11_mean.1 (fun X hl hR C R hnm => ?_)
  subst hl
  refine z_lv (lv' := [(0, vr G 143), (1, vi x1), (2, vi x2)]) [0, 1, 2] rfl ?_
  show ZZ X G 3 (QM X G vzJw wzW (0, 0)) (0, 0) ((gX11_isRule σ x1).bind fun r1 => if w32 r1 = 0 then some ((-1), σ) else (gX11_in σ (w32 x2) 0 1).bind fun r2 => if w32 r2 ≠ 0 then if w32 (σ 143 4) ≤ 6 then (gX11_layMean F σ x1).bind fun r3 => (gX11_lowest F r3 (r3 143 43) (r3 143 44) x2).bind fun r4 => some (r4, r3) else some ((-2), σ) else some ((-1), σ)) (w0 σ) 0 [(0, vr G 143), (1, vi x1), (2, vi x2)] []
  refine z_aload_n C 0 rfl 0 rfl dX11_mean_0 1 rfl ?_
  refine z_iload_n C 1 rfl 1 rfl dX11_mean_1 2 rfl ?_
  refine y_callVI C hR (tX11_isRule (mL X) G σ x1) ⟨mwX11_isRule, mvX11_isRule, lkX11_229⟩ one_11 rfl rfl (Nat.le_of_ble_eq_true rfl) (by unfold rmOK; decide) dX11_mean_2 5 rfl (fun r1 _ => ?_)
  refine z_if_eq C dX11_mean_5 18 (by decide) 8 rfl rfl (fun _ => ?_) (fun _ => ?_)
  · refine z_ldc2 (v := (-1)) C clX11_340 (by decide) dX11_mean_18 21 rfl ?_
    exact z_lret C R rfl rfl dX11_mean_21
  · refine z_iload_n C 2 rfl 2 rfl dX11_mean_8 9 rfl ?_
    refine z_i2l C dX11_mean_9 10 rfl ?_
    refine z_lconst (v := 0) C (by decide) dX11_mean_10 11 rfl ?_
    refine z_lconst (v := 1) C (by decide) dX11_mean_11 12 rfl ?_
    refine y_callSI C hR (tX11_in (mL X) G σ (w32 x2) 0 1) ⟨mwX11_in, msX11_in, lkX11_126⟩ rfl rfl (Nat.le_of_ble_eq_true rfl) (by unfold rmOK; decide) dX11_mean_12 15 rfl (fun r2 _ => ?_)
    refine z_if_ne C dX11_mean_15 22 (by decide) 18 rfl rfl (fun _ => ?_) (fun _ => ?_)
    · refine z_aload_n C 0 rfl 0 rfl dX11_mean_22 23 rfl ?_
      refine y_getI C fX11_130 one_11 dX11_mean_23 26 rfl ?_
      refine z_bipush C (by decide) dX11_mean_26 28 rfl ?_
      refine z_icmp_le C dX11_mean_28 35 (by decide) 31 rfl rfl (w32_id (a := 6) (by decide)) (fun _ => ?_) (fun _ => ?_)
      · refine z_aload_n C 0 rfl 0 rfl dX11_mean_35 36 rfl ?_
        refine z_iload_n C 1 rfl 1 rfl dX11_mean_36 37 rfl ?_
        refine y_callVv C hR (tX11_layMean (mL X) G F σ x1) ⟨mwX11_layMean, mvX11_layMean, lkX11_344⟩ one_11 rfl rfl (Nat.le_of_ble_eq_true rfl) (by unfold rmOK; decide) dX11_mean_37 40 rfl (fun r3 _ => ?_)
        refine z_aload_n C 0 rfl 0 rfl dX11_mean_40 41 rfl ?_
        refine y_getJ C fX11_324 one_11 dX11_mean_41 44 rfl ?_
        refine z_aload_n C 0 rfl 0 rfl dX11_mean_44 45 rfl ?_
        refine y_getJ C fX11_328 one_11 dX11_mean_45 48 rfl ?_
        refine z_iload_n C 2 rfl 2 rfl dX11_mean_48 49 rfl ?_
        refine y_callSJ C hR (tX11_lowest (mL X) G F r3 (r3 143 43) (r3 143 44) x2) ⟨mwX11_lowest, msX11_lowest, lkX11_347⟩ rfl rfl (Nat.le_of_ble_eq_true rfl) (by unfold rmOK; decide) dX11_mean_49 52 rfl (fun r4 _ => ?_)
        exact z_lret C R rfl rfl dX11_mean_52
      · refine z_ldc2 (v := (-2)) C clX11_342 (by decide) dX11_mean_31 34 rfl ?_
        exact z_lret C R rfl rfl dX11_mean_34
    · refine z_ldc2 (v := (-1)) C clX11_340 (by decide) dX11_mean_18 21 rfl ?_
      exact z_lret C R rfl rfl dX11_mean_21
-- ends
def gX11_ends (F : Nat) (σ : St) (x1 : Int) (x2 : Int) : Option (Int × St) := (gX11_isRule σ x1).bind fun r1 => if w32 r1 = 0 then some ((-1), σ) else (gX11_in σ (w32 x2) 0 1).bind fun r2 => if w32 r2 ≠ 0 then if w32 (σ 143 4) ≤ 6 then (gX11_layMean F σ x1).bind fun r3 => if w32 x2 ≠ 0 then some (r3 143 46, r3) else some (r3 143 45, r3) else some ((-2), σ) else some ((-1), σ)
def rmX11_ends : Room := { frames := 6, cells := 0, slots := 0, locals := 144 }
set_option maxRecDepth 100000 in
set_option maxHeartbeats 4000000 in
theorem tX11_ends (l : Launch) (G : GG) (F : Nat) (σ : St) (x1 : Int) (x2 : Int) : Ctr l G yX11_ends cX11_ends 3 (some .int) rmX11_ends [vr G 143, vi x1, vi x2] (w0 σ) vzIw wzW (gX11_ends F σ x1 x2) := by
  refine ctr_of (by decide) (Nat.le_of_ble_eq_true rfl) mwX11_ends.1 (fun X hl hR C R hnm => ?_)
  subst hl
  refine z_lv (lv' := [(0, vr G 143), (1, vi x1), (2, vi x2)]) [0, 1, 2] rfl ?_
  show ZZ X G 3 (QM X G vzIw wzW (0, 0)) (0, 0) ((gX11_isRule σ x1).bind fun r1 => if w32 r1 = 0 then some ((-1), σ) else (gX11_in σ (w32 x2) 0 1).bind fun r2 => if w32 r2 ≠ 0 then if w32 (σ 143 4) ≤ 6 then (gX11_layMean F σ x1).bind fun r3 => if w32 x2 ≠ 0 then some (r3 143 46, r3) else some (r3 143 45, r3) else some ((-2), σ) else some ((-1), σ)) (w0 σ) 0 [(0, vr G 143), (1, vi x1), (2, vi x2)] []
  refine z_aload_n C 0 rfl 0 rfl dX11_ends_0 1 rfl ?_
  refine z_iload_n C 1 rfl 1 rfl dX11_ends_1 2 rfl ?_
  refine y_callVI C hR (tX11_isRule (mL X) G σ x1) ⟨mwX11_isRule, mvX11_isRule, lkX11_229⟩ one_11 rfl rfl (Nat.le_of_ble_eq_true rfl) (by unfold rmOK; decide) dX11_ends_2 5 rfl (fun r1 _ => ?_)
  refine z_if_eq C dX11_ends_5 18 (by decide) 8 rfl rfl (fun _ => ?_) (fun _ => ?_)
  · refine z_iconst C dX11_ends_18 19 rfl ?_
    exact z_iret C R rfl rfl dX11_ends_19
  · refine z_iload_n C 2 rfl 2 rfl dX11_ends_8 9 rfl ?_
    refine z_i2l C dX11_ends_9 10 rfl ?_
    refine z_lconst (v := 0) C (by decide) dX11_ends_10 11 rfl ?_
    refine z_lconst (v := 1) C (by decide) dX11_ends_11 12 rfl ?_
    refine y_callSI C hR (tX11_in (mL X) G σ (w32 x2) 0 1) ⟨mwX11_in, msX11_in, lkX11_126⟩ rfl rfl (Nat.le_of_ble_eq_true rfl) (by unfold rmOK; decide) dX11_ends_12 15 rfl (fun r2 _ => ?_)
    refine z_if_ne C dX11_ends_15 20 (by decide) 18 rfl rfl (fun _ => ?_) (fun _ => ?_)
    · refine z_aload_n C 0 rfl 0 rfl dX11_ends_20 21 rfl ?_
      refine y_getI C fX11_130 one_11 dX11_ends_21 24 rfl ?_
      refine z_bipush C (by decide) dX11_ends_24 26 rfl ?_
      refine z_icmp_le C dX11_ends_26 32 (by decide) 29 rfl rfl (w32_id (a := 6) (by decide)) (fun _ => ?_) (fun _ => ?_)
      · refine z_aload_n C 0 rfl 0 rfl dX11_ends_32 33 rfl ?_
        refine z_iload_n C 1 rfl 1 rfl dX11_ends_33 34 rfl ?_
        refine y_callVv C hR (tX11_layMean (mL X) G F σ x1) ⟨mwX11_layMean, mvX11_layMean, lkX11_344⟩ one_11 rfl rfl (Nat.le_of_ble_eq_true rfl) (by unfold rmOK; decide) dX11_ends_34 37 rfl (fun r3 _ => ?_)
        refine z_iload_n C 2 rfl 2 rfl dX11_ends_37 38 rfl ?_
        refine z_if_ne C dX11_ends_38 48 (by decide) 41 rfl rfl (fun _ => ?_) (fun _ => ?_)
        · refine z_aload_n C 0 rfl 0 rfl dX11_ends_48 49 rfl ?_
          refine y_getI C fX11_334 one_11 dX11_ends_49 52 rfl ?_
          exact z_iret C R rfl rfl dX11_ends_52
        · refine z_aload_n C 0 rfl 0 rfl dX11_ends_41 42 rfl ?_
          refine y_getI C fX11_331 one_11 dX11_ends_42 45 rfl ?_
          refine z_goto C dX11_ends_45 52 (by decide) ?_
          exact z_iret C R rfl rfl dX11_ends_52
      · refine z_bipush C (by decide) dX11_ends_29 31 rfl ?_
        exact z_iret C R rfl rfl dX11_ends_31
    · refine z_iconst C dX11_ends_18 19 rfl ?_
      exact z_iret C R rfl rfl dX11_ends_19
-- meanOfRanks
def gX11_meanOfRanks_L46 (F : Nat) (x1 : Int) (x2 : Int) (c38 : Int → Int → Int → St → Option (Int × St)) : Nat → Int → Int → Int → St → Option (Int × St)
  | 0, _, _, _, _ => none
  | n + 1, x3, x5, x8, σ => if w32 x8 ≥ w32 (σ 143 0) then (gX11_runByNumbers F σ x1).bind fun r1 => (gX11_valueNow F r1).bind fun r2 => (gX11_nextOrder F r1 (r1 143 0)).bind fun r3 => c38 (x3 + (w32 r2)) (x5 + 1) r3.1 r3.2 else gd (0 ≤ w32 x8 ∧ w32 x8 < 9) (gd (0 ≤ w32 (σ 166 (w32 x8)) ∧ w32 (σ 166 (w32 x8)) < 6) (gd (0 ≤ w32 x8 ∧ w32 x8 < 6) (gX11_meanOfRanks_L46 F x1 x2 c38 n x3 x5 (x8 + 1) (up σ 160 (w32 x8) (σ 145 (w32 (σ 166 (w32 x8))))))))
def gX11_meanOfRanks_L38 (F : Nat) (x1 : Int) (x2 : Int) : Nat → Int → Int → Int → St → Option (Int × St)
  | 0, _, _, _, _ => none
  | n + 1, x3, x5, x7, σ => if w32 x7 = 0 then (gX11_lowest F σ x3 x5 x2).bind fun r1 => some (r1, σ) else gX11_meanOfRanks_L46 F x1 x2 (gX11_meanOfRanks_L38 F x1 x2 n) F x3 x5 0 σ
def gX11_meanOfRanks (F : Nat) (σ : St) (x1 : Int) (x2 : Int) : Option (Int × St) := (gX11_isRule σ x1).bind fun r1 => if w32 r1 = 0 then some ((-1), σ) else (gX11_in σ (w32 x2) 0 1).bind fun r2 => if w32 r2 ≠ 0 then (gX11_loadMain F σ).bind fun r3 => (gX11_firstOrder F r3).bind fun r4 => gX11_meanOfRanks_L38 F x1 x2 F 0 0 1 r4 else some ((-1), σ)
def rmX11_meanOfRanks : Room := { frames := 5, cells := 0, slots := 0, locals := 121 }
set_option maxRecDepth 100000 in
set_option maxHeartbeats 4000000 in
theorem pX11_meanOfRanks_L46 {X : MX} {G : GG} (C : CX X G 9 cX11_meanOfRanks RX11) (R : RT X (some .long)) (hR : mR X = rmX11_meanOfRanks) (F : Nat) (x1 : Int) (x2 : Int) (c38 : Int → Int → Int → St → Option (Int × St)) (hc38 : ∀ (x3 : Int) (x5 : Int) (x7 : Int) (σ : St), ZZ X G 9 (QM X G vzJw wzW (0, 0)) (0, 0) (c38 x3 x5 x7 σ) (w0 σ) 38 [(0, vr G 143), (1, vi x1), (2, vi x2), (3, vl x3), (5, vl x5), (7, vi x7)] []) : ∀ (n : Nat) (x3 : Int) (x5 : Int) (x8 : Int) (σ : St), ZZ X G 9 (QM X G vzJw wzW (0, 0)) (0, 0) (gX11_meanOfRanks_L46 F x1 x2 c38 n x3 x5 x8 σ) (w0 σ) 46 [(0, vr G 143), (1, vi x1), (2, vi x2), (3, vl x3), (5, vl x5), (8, vi x8)] [] := by
  intro n
  induction n with
  | zero =>
    intro _ _ _ _
    exact z_none
  | succ n ih =>
    intro x3 x5 x8 σ
    show ZZ X G 9 (QM X G vzJw wzW (0, 0)) (0, 0) (if w32 x8 ≥ w32 (σ 143 0) then (gX11_runByNumbers F σ x1).bind fun r1 => (gX11_valueNow F r1).bind fun r2 => (gX11_nextOrder F r1 (r1 143 0)).bind fun r3 => c38 (x3 + (w32 r2)) (x5 + 1) r3.1 r3.2 else gd (0 ≤ w32 x8 ∧ w32 x8 < 9) (gd (0 ≤ w32 (σ 166 (w32 x8)) ∧ w32 (σ 166 (w32 x8)) < 6) (gd (0 ≤ w32 x8 ∧ w32 x8 < 6) (gX11_meanOfRanks_L46 F x1 x2 c38 n x3 x5 (x8 + 1) (up σ 160 (w32 x8) (σ 145 (w32 (σ 166 (w32 x8))))))))) (w0 σ) 46 [(0, vr G 143), (1, vi x1), (2, vi x2), (3, vl x3), (5, vl x5), (8, vi x8)] []
    refine z_iload C 5 rfl dX11_meanOfRanks_46 48 rfl ?_
    refine z_aload_n C 0 rfl 0 rfl dX11_meanOfRanks_48 49 rfl ?_
    refine y_getI C fX11_122 one_11 dX11_meanOfRanks_49 52 rfl ?_
    refine z_icmp_ge C dX11_meanOfRanks_52 80 (by decide) 55 rfl rfl rfl (fun _ => ?_) (fun _ => ?_)
    · refine z_aload_n C 0 rfl 0 rfl dX11_meanOfRanks_80 81 rfl ?_
      refine z_iload_n C 1 rfl 1 rfl dX11_meanOfRanks_81 82 rfl ?_
      refine y_callVv C hR (tX11_runByNumbers (mL X) G F σ x1) ⟨mwX11_runByNumbers, mvX11_runByNumbers, lkX11_276⟩ one_11 rfl rfl (Nat.le_of_ble_eq_true rfl) (by unfold rmOK; decide) dX11_meanOfRanks_82 85 rfl (fun r1 _ => ?_)
      refine z_lload_n C 3 rfl 3 rfl dX11_meanOfRanks_85 86 rfl ?_
      refine z_aload_n C 0 rfl 0 rfl dX11_meanOfRanks_86 87 rfl ?_
      refine y_callVI C hR (tX11_valueNow (mL X) G F r1) ⟨mwX11_valueNow, mvX11_valueNow, lkX11_279⟩ one_11 rfl rfl (Nat.le_of_ble_eq_true rfl) (by unfold rmOK; decide) dX11_meanOfRanks_87 90 rfl (fun r2 _ => ?_)
      refine z_i2l C dX11_meanOfRanks_90 91 rfl ?_
      refine z_ladd C dX11_meanOfRanks_91 92 rfl ?_
      refine z_lstore_n (lv' := [(3, vl (x3 + (w32 r2))), (0, vr G 143), (1, vi x1), (2, vi x2), (5, vl x5), (8, vi x8)]) C 3 rfl (by decide) dX11_meanOfRanks_92 93 rfl rfl ?_
      refine z_lload C 4 rfl dX11_meanOfRanks_93 95 rfl ?_
      refine z_lconst (v := 1) C (by decide) dX11_meanOfRanks_95 96 rfl ?_
      refine z_ladd C dX11_meanOfRanks_96 97 rfl ?_
      refine z_lstore (lv' := [(5, vl (x5 + 1)), (3, vl (x3 + (w32 r2))), (0, vr G 143), (1, vi x1), (2, vi x2), (8, vi x8)]) C (by decide) dX11_meanOfRanks_97 99 rfl rfl ?_
      refine z_aload_n C 0 rfl 2 rfl dX11_meanOfRanks_99 100 rfl ?_
      refine z_aload_n C 0 rfl 2 rfl dX11_meanOfRanks_100 101 rfl ?_
      refine y_getI C fX11_122 one_11 dX11_meanOfRanks_101 104 rfl ?_
      refine y_callVIw C hR (tX11_nextOrder (mL X) G F r1 (r1 143 0)) ⟨mwX11_nextOrder, mvX11_nextOrder, lkX11_337⟩ one_11 rfl rfl (Nat.le_of_ble_eq_true rfl) (by unfold rmOK; decide) dX11_meanOfRanks_104 107 rfl (fun r3 _ => ?_)
      refine z_istore (lv' := [(7, vi r3.1), (5, vl (x5 + 1)), (3, vl (x3 + (w32 r2))), (0, vr G 143), (1, vi x1), (2, vi x2), (8, vi x8)]) C (by decide) dX11_meanOfRanks_107 109 rfl rfl ?_
      refine z_goto C dX11_meanOfRanks_109 38 (by decide) ?_
      refine z_lv (lv' := [(0, vr G 143), (1, vi x1), (2, vi x2), (3, vl (x3 + (w32 r2))), (5, vl (x5 + 1)), (7, vi r3.1)]) [3, 4, 5, 2, 1, 0] rfl ?_
      exact hc38 (x3 + (w32 r2)) (x5 + 1) r3.1 r3.2
    · refine z_aload_n C 0 rfl 0 rfl dX11_meanOfRanks_55 56 rfl ?_
      refine y_getR C fX11_58 one_11 lay_11_29 dX11_meanOfRanks_56 59 rfl ?_
      refine z_iload C 5 rfl dX11_meanOfRanks_59 61 rfl ?_
      refine z_aload_n C 0 rfl 0 rfl dX11_meanOfRanks_61 62 rfl ?_
      refine y_getR C fX11_13 one_11 lay_11_2 dX11_meanOfRanks_62 65 rfl ?_
      refine z_aload_n C 0 rfl 0 rfl dX11_meanOfRanks_65 66 rfl ?_
      refine y_getR C fX11_76 one_11 lay_11_37 dX11_meanOfRanks_66 69 rfl ?_
      refine z_iload C 5 rfl dX11_meanOfRanks_69 71 rfl ?_
      refine y_iald C lay_11_37.2 rfl dX11_meanOfRanks_71 72 rfl rfl (fun _ => ?_)
      refine y_iald C lay_11_2.2 rfl dX11_meanOfRanks_72 73 rfl rfl (fun _ => ?_)
      refine y_iast C lay_11_29.2 rfl dX11_meanOfRanks_73 74 rfl rfl (fun _ => ?_)
      refine z_iinc (lv' := [(8, vi (x8 + 1)), (0, vr G 143), (1, vi x1), (2, vi x2), (3, vl x3), (5, vl x5)]) C (by decide) 5 rfl dX11_meanOfRanks_74 77 rfl rfl ?_
      refine z_goto C dX11_meanOfRanks_77 46 (by decide) ?_
      refine z_lv (lv' := [(0, vr G 143), (1, vi x1), (2, vi x2), (3, vl x3), (5, vl x5), (8, vi (x8 + 1))]) [1, 2, 3, 4, 5, 0] rfl ?_
      exact ih x3 x5 (x8 + 1) (up σ 160 (w32 x8) (σ 145 (w32 (σ 166 (w32 x8)))))
set_option maxRecDepth 100000 in
set_option maxHeartbeats 4000000 in
theorem pX11_meanOfRanks_L38 {X : MX} {G : GG} (C : CX X G 9 cX11_meanOfRanks RX11) (R : RT X (some .long)) (hR : mR X = rmX11_meanOfRanks) (F : Nat) (x1 : Int) (x2 : Int)  : ∀ (n : Nat) (x3 : Int) (x5 : Int) (x7 : Int) (σ : St), ZZ X G 9 (QM X G vzJw wzW (0, 0)) (0, 0) (gX11_meanOfRanks_L38 F x1 x2 n x3 x5 x7 σ) (w0 σ) 38 [(0, vr G 143), (1, vi x1), (2, vi x2), (3, vl x3), (5, vl x5), (7, vi x7)] [] := by
  intro n
  induction n with
  | zero =>
    intro _ _ _ _
    exact z_none
  | succ n ih =>
    intro x3 x5 x7 σ
    show ZZ X G 9 (QM X G vzJw wzW (0, 0)) (0, 0) (if w32 x7 = 0 then (gX11_lowest F σ x3 x5 x2).bind fun r1 => some (r1, σ) else gX11_meanOfRanks_L46 F x1 x2 (gX11_meanOfRanks_L38 F x1 x2 n) F x3 x5 0 σ) (w0 σ) 38 [(0, vr G 143), (1, vi x1), (2, vi x2), (3, vl x3), (5, vl x5), (7, vi x7)] []
    refine z_iload C 5 rfl dX11_meanOfRanks_38 40 rfl ?_
    refine z_if_eq C dX11_meanOfRanks_40 112 (by decide) 43 rfl rfl (fun _ => ?_) (fun _ => ?_)
    · refine z_lload_n C 3 rfl 3 rfl dX11_meanOfRanks_112 113 rfl ?_
      refine z_lload C 4 rfl dX11_meanOfRanks_113 115 rfl ?_
      refine z_iload_n C 2 rfl 2 rfl dX11_meanOfRanks_115 116 rfl ?_
      refine y_callSJ C hR (tX11_lowest (mL X) G F σ x3 x5 x2) ⟨mwX11_lowest, msX11_lowest, lkX11_347⟩ rfl rfl (Nat.le_of_ble_eq_true rfl) (by unfold rmOK; decide) dX11_meanOfRanks_116 119 rfl (fun r1 _ => ?_)
      exact z_lret C R rfl rfl dX11_meanOfRanks_119
    · refine z_iconst C dX11_meanOfRanks_43 44 rfl ?_
      refine z_istore (lv' := [(8, vi 0), (0, vr G 143), (1, vi x1), (2, vi x2), (3, vl x3), (5, vl x5), (7, vi x7)]) C (by decide) dX11_meanOfRanks_44 46 rfl rfl ?_
      refine z_lv (lv' := [(0, vr G 143), (1, vi x1), (2, vi x2), (3, vl x3), (5, vl x5), (8, vi 0)]) [1, 2, 3, 4, 5, 0] rfl ?_
      exact pX11_meanOfRanks_L46 C R hR F x1 x2 (gX11_meanOfRanks_L38 F x1 x2 n) ih F x3 x5 0 σ
set_option maxRecDepth 100000 in
set_option maxHeartbeats 4000000 in
theorem tX11_meanOfRanks (l : Launch) (G : GG) (F : Nat) (σ : St) (x1 : Int) (x2 : Int) : Ctr l G yX11_meanOfRanks cX11_meanOfRanks 9 (some .long) rmX11_meanOfRanks [vr G 143, vi x1, vi x2] (w0 σ) vzJw wzW (gX11_meanOfRanks F σ x1 x2) := by
  refine ctr_of (by decide) (Nat.le_of_ble_eq_true rfl) mwX11_meanOfRanks.1 (fun X hl hR C R hnm => ?_)
  subst hl
  refine z_lv (lv' := [(0, vr G 143), (1, vi x1), (2, vi x2)]) [0, 1, 2] rfl ?_
  show ZZ X G 9 (QM X G vzJw wzW (0, 0)) (0, 0) ((gX11_isRule σ x1).bind fun r1 => if w32 r1 = 0 then some ((-1), σ) else (gX11_in σ (w32 x2) 0 1).bind fun r2 => if w32 r2 ≠ 0 then (gX11_loadMain F σ).bind fun r3 => (gX11_firstOrder F r3).bind fun r4 => gX11_meanOfRanks_L38 F x1 x2 F 0 0 1 r4 else some ((-1), σ)) (w0 σ) 0 [(0, vr G 143), (1, vi x1), (2, vi x2)] []
  refine z_aload_n C 0 rfl 0 rfl dX11_meanOfRanks_0 1 rfl ?_
  refine z_iload_n C 1 rfl 1 rfl dX11_meanOfRanks_1 2 rfl ?_
  refine y_callVI C hR (tX11_isRule (mL X) G σ x1) ⟨mwX11_isRule, mvX11_isRule, lkX11_229⟩ one_11 rfl rfl (Nat.le_of_ble_eq_true rfl) (by unfold rmOK; decide) dX11_meanOfRanks_2 5 rfl (fun r1 _ => ?_)
  refine z_if_eq C dX11_meanOfRanks_5 18 (by decide) 8 rfl rfl (fun _ => ?_) (fun _ => ?_)
  · refine z_ldc2 (v := (-1)) C clX11_340 (by decide) dX11_meanOfRanks_18 21 rfl ?_
    exact z_lret C R rfl rfl dX11_meanOfRanks_21
  · refine z_iload_n C 2 rfl 2 rfl dX11_meanOfRanks_8 9 rfl ?_
    refine z_i2l C dX11_meanOfRanks_9 10 rfl ?_
    refine z_lconst (v := 0) C (by decide) dX11_meanOfRanks_10 11 rfl ?_
    refine z_lconst (v := 1) C (by decide) dX11_meanOfRanks_11 12 rfl ?_
    refine y_callSI C hR (tX11_in (mL X) G σ (w32 x2) 0 1) ⟨mwX11_in, msX11_in, lkX11_126⟩ rfl rfl (Nat.le_of_ble_eq_true rfl) (by unfold rmOK; decide) dX11_meanOfRanks_12 15 rfl (fun r2 _ => ?_)
    refine z_if_ne C dX11_meanOfRanks_15 22 (by decide) 18 rfl rfl (fun _ => ?_) (fun _ => ?_)
    · refine z_aload_n C 0 rfl 0 rfl dX11_meanOfRanks_22 23 rfl ?_
      refine y_callVv C hR (tX11_loadMain (mL X) G F σ) ⟨mwX11_loadMain, mvX11_loadMain, lkX11_273⟩ one_11 rfl rfl (Nat.le_of_ble_eq_true rfl) (by unfold rmOK; decide) dX11_meanOfRanks_23 26 rfl (fun r3 _ => ?_)
      refine z_aload_n C 0 rfl 0 rfl dX11_meanOfRanks_26 27 rfl ?_
      refine y_callVv C hR (tX11_firstOrder (mL X) G F r3) ⟨mwX11_firstOrder, mvX11_firstOrder, lkX11_321⟩ one_11 rfl rfl (Nat.le_of_ble_eq_true rfl) (by unfold rmOK; decide) dX11_meanOfRanks_27 30 rfl (fun r4 _ => ?_)
      refine z_lconst (v := 0) C (by decide) dX11_meanOfRanks_30 31 rfl ?_
      refine z_lstore_n (lv' := [(3, vl 0), (0, vr G 143), (1, vi x1), (2, vi x2)]) C 3 rfl (by decide) dX11_meanOfRanks_31 32 rfl rfl ?_
      refine z_lconst (v := 0) C (by decide) dX11_meanOfRanks_32 33 rfl ?_
      refine z_lstore (lv' := [(5, vl 0), (3, vl 0), (0, vr G 143), (1, vi x1), (2, vi x2)]) C (by decide) dX11_meanOfRanks_33 35 rfl rfl ?_
      refine z_iconst C dX11_meanOfRanks_35 36 rfl ?_
      refine z_istore (lv' := [(7, vi 1), (5, vl 0), (3, vl 0), (0, vr G 143), (1, vi x1), (2, vi x2)]) C (by decide) dX11_meanOfRanks_36 38 rfl rfl ?_
      refine z_lv (lv' := [(0, vr G 143), (1, vi x1), (2, vi x2), (3, vl 0), (5, vl 0), (7, vi 1)]) [3, 4, 5, 2, 1, 0] rfl ?_
      exact pX11_meanOfRanks_L38 C R hR F x1 x2 F 0 0 1 r4
    · refine z_ldc2 (v := (-1)) C clX11_340 (by decide) dX11_meanOfRanks_18 21 rfl ?_
      exact z_lret C R rfl rfl dX11_meanOfRanks_21
-- chanceSum
def gX11_chanceSum_L4 (F : Nat) (σ : St) : Nat → Int → Int → Option (Int)
  | 0, _, _ => none
  | n + 1, x1, x2 => if w32 x2 ≥ w32 (σ 143 4) then some x1 else gd (0 ≤ w32 x2 ∧ w32 x2 < 9) (gX11_chanceSum_L4 F σ n (x1 + (σ 147 (w32 x2))) (x2 + 1))
def gX11_chanceSum (F : Nat) (σ : St) : Option (Int) := gX11_chanceSum_L4 F σ F 0 0
def rmX11_chanceSum : Room := { frames := 0, cells := 0, slots := 0, locals := 0 }
set_option maxRecDepth 100000 in
set_option maxHeartbeats 4000000 in
theorem pX11_chanceSum_L4 {X : MX} {G : GG} (C : CX X G 3 cX11_chanceSum RX11) (R : RT X (some .int)) (hR : mR X = rmX11_chanceSum) (F : Nat) (σ : St)  : ∀ (n : Nat) (x1 : Int) (x2 : Int), ZZ X G 3 (QM X G vzI (wzR σ) (0, 0)) (0, 0) (gX11_chanceSum_L4 F σ n x1 x2) (w0 σ) 4 [(0, vr G 143), (1, vi x1), (2, vi x2)] [] := by
  intro n
  induction n with
  | zero =>
    intro _ _
    exact z_none
  | succ n ih =>
    intro x1 x2
    show ZZ X G 3 (QM X G vzI (wzR σ) (0, 0)) (0, 0) (if w32 x2 ≥ w32 (σ 143 4) then some x1 else gd (0 ≤ w32 x2 ∧ w32 x2 < 9) (gX11_chanceSum_L4 F σ n (x1 + (σ 147 (w32 x2))) (x2 + 1))) (w0 σ) 4 [(0, vr G 143), (1, vi x1), (2, vi x2)] []
    refine z_iload_n C 2 rfl 2 rfl dX11_chanceSum_4 5 rfl ?_
    refine z_aload_n C 0 rfl 0 rfl dX11_chanceSum_5 6 rfl ?_
    refine y_getI C fX11_130 one_11 dX11_chanceSum_6 9 rfl ?_
    refine z_icmp_ge C dX11_chanceSum_9 27 (by decide) 12 rfl rfl rfl (fun _ => ?_) (fun _ => ?_)
    · refine z_iload_n C 1 rfl 1 rfl dX11_chanceSum_27 28 rfl ?_
      exact z_iret C R rfl rfl dX11_chanceSum_28
    · refine z_iload_n C 1 rfl 1 rfl dX11_chanceSum_12 13 rfl ?_
      refine z_aload_n C 0 rfl 0 rfl dX11_chanceSum_13 14 rfl ?_
      refine y_getR C fX11_19 one_11 lay_11_5 dX11_chanceSum_14 17 rfl ?_
      refine z_iload_n C 2 rfl 2 rfl dX11_chanceSum_17 18 rfl ?_
      refine y_iald C lay_11_5.2 rfl dX11_chanceSum_18 19 rfl rfl (fun _ => ?_)
      refine z_iadd C dX11_chanceSum_19 20 rfl ?_
      refine z_istore_n (lv' := [(1, vi (x1 + (σ 147 (w32 x2)))), (0, vr G 143), (2, vi x2)]) C 1 rfl (by decide) dX11_chanceSum_20 21 rfl rfl ?_
      refine z_iinc (lv' := [(2, vi (x2 + 1)), (1, vi (x1 + (σ 147 (w32 x2)))), (0, vr G 143)]) C (by decide) 2 rfl dX11_chanceSum_21 24 rfl rfl ?_
      refine z_goto C dX11_chanceSum_24 4 (by decide) ?_
      refine z_lv (lv' := [(0, vr G 143), (1, vi (x1 + (σ 147 (w32 x2)))), (2, vi (x2 + 1))]) [2, 1, 0] rfl ?_
      exact ih (x1 + (σ 147 (w32 x2))) (x2 + 1)
set_option maxRecDepth 100000 in
set_option maxHeartbeats 4000000 in
theorem tX11_chanceSum (l : Launch) (G : GG) (F : Nat) (σ : St) : Ctr l G yX11_chanceSum cX11_chanceSum 3 (some .int) rmX11_chanceSum [vr G 143] (w0 σ) vzI (wzR σ) (gX11_chanceSum F σ) := by
  refine ctr_of (by decide) (Nat.le_of_ble_eq_true rfl) mwX11_chanceSum.1 (fun X hl hR C R hnm => ?_)
  subst hl
  refine z_lv (lv' := [(0, vr G 143)]) [0] rfl ?_
  show ZZ X G 3 (QM X G vzI (wzR σ) (0, 0)) (0, 0) (gX11_chanceSum_L4 F σ F 0 0) (w0 σ) 0 [(0, vr G 143)] []
  refine z_iconst C dX11_chanceSum_0 1 rfl ?_
  refine z_istore_n (lv' := [(1, vi 0), (0, vr G 143)]) C 1 rfl (by decide) dX11_chanceSum_1 2 rfl rfl ?_
  refine z_iconst C dX11_chanceSum_2 3 rfl ?_
  refine z_istore_n (lv' := [(2, vi 0), (1, vi 0), (0, vr G 143)]) C 2 rfl (by decide) dX11_chanceSum_3 4 rfl rfl ?_
  refine z_lv (lv' := [(0, vr G 143), (1, vi 0), (2, vi 0)]) [2, 1, 0] rfl ?_
  exact pX11_chanceSum_L4 C R hR F σ F 0 0
-- pairing
def gX11_pairing (σ : St) (x1 : Int) (x2 : Int) (x3 : Int) (x4 : Int) : Option (Int) := gd (0 ≤ w32 ((6 * x1) + x2) ∧ w32 ((6 * x1) + x2) < 54) (if w32 (σ 148 (w32 ((6 * x1) + x2))) ≤ 0 then some ((-1)) else (gX11_hasRoom σ x3 x2).bind fun r1 => if w32 r1 = 0 then some ((-1)) else gd (0 ≤ w32 x4 ∧ w32 x4 < 7) (gd (0 ≤ w32 x2 ∧ w32 x2 < 6) (gd (0 ≤ w32 (((512 * x4) + x3) - (σ 168 (w32 x2))) ∧ w32 (((512 * x4) + x3) - (σ 168 (w32 x2))) < 3584) (some (((w32 (σ 148 (w32 ((6 * x1) + x2)))) * (σ 172 (w32 x4))) + (σ 171 (w32 (((512 * x4) + x3) - (σ 168 (w32 x2))))))))))
def rmX11_pairing : Room := { frames := 1, cells := 0, slots := 0, locals := 22 }
set_option maxRecDepth 100000 in
set_option maxHeartbeats 4000000 in
theorem tX11_pairing (l : Launch) (G : GG) (σ : St) (x1 : Int) (x2 : Int) (x3 : Int) (x4 : Int) : Ctr l G yX11_pairing cX11_pairing 6 (some .long) rmX11_pairing [vr G 143, vi x1, vi x2, vi x3, vi x4] (w0 σ) vzJ (wzR σ) (gX11_pairing σ x1 x2 x3 x4) := by
  refine ctr_of (by decide) (Nat.le_of_ble_eq_true rfl) mwX11_pairing.1 (fun X hl hR C R hnm => ?_)
  subst hl
  refine z_lv (lv' := [(0, vr G 143), (1, vi x1), (2, vi x2), (3, vi x3), (4, vi x4)]) [0, 1, 2, 3, 4] rfl ?_
  show ZZ X G 6 (QM X G vzJ (wzR σ) (0, 0)) (0, 0) (gd (0 ≤ w32 ((6 * x1) + x2) ∧ w32 ((6 * x1) + x2) < 54) (if w32 (σ 148 (w32 ((6 * x1) + x2))) ≤ 0 then some ((-1)) else (gX11_hasRoom σ x3 x2).bind fun r1 => if w32 r1 = 0 then some ((-1)) else gd (0 ≤ w32 x4 ∧ w32 x4 < 7) (gd (0 ≤ w32 x2 ∧ w32 x2 < 6) (gd (0 ≤ w32 (((512 * x4) + x3) - (σ 168 (w32 x2))) ∧ w32 (((512 * x4) + x3) - (σ 168 (w32 x2))) < 3584) (some (((w32 (σ 148 (w32 ((6 * x1) + x2)))) * (σ 172 (w32 x4))) + (σ 171 (w32 (((512 * x4) + x3) - (σ 168 (w32 x2))))))))))) (w0 σ) 0 [(0, vr G 143), (1, vi x1), (2, vi x2), (3, vi x3), (4, vi x4)] []
  refine z_aload_n C 0 rfl 0 rfl dX11_pairing_0 1 rfl ?_
  refine y_getR C fX11_22 one_11 lay_11_6 dX11_pairing_1 4 rfl ?_
  refine z_bipush C (by decide) dX11_pairing_4 6 rfl ?_
  refine z_iload_n C 1 rfl 1 rfl dX11_pairing_6 7 rfl ?_
  refine z_imul C dX11_pairing_7 8 rfl ?_
  refine z_iload_n C 2 rfl 2 rfl dX11_pairing_8 9 rfl ?_
  refine z_iadd C dX11_pairing_9 10 rfl ?_
  refine y_iald C lay_11_6.2 rfl dX11_pairing_10 11 rfl rfl (fun _ => ?_)
  refine z_istore (lv' := [(5, vi (σ 148 (w32 ((6 * x1) + x2)))), (0, vr G 143), (1, vi x1), (2, vi x2), (3, vi x3), (4, vi x4)]) C (by decide) dX11_pairing_11 13 rfl rfl ?_
  refine z_iload C 0 rfl dX11_pairing_13 15 rfl ?_
  refine z_if_le C dX11_pairing_15 62 (by decide) 18 rfl rfl (fun _ => ?_) (fun _ => ?_)
  · refine z_ldc2 (v := (-1)) C clX11_340 (by decide) dX11_pairing_62 65 rfl ?_
    exact z_lret C R rfl rfl dX11_pairing_65
  · refine z_aload_n C 0 rfl 1 rfl dX11_pairing_18 19 rfl ?_
    refine z_iload_n C 3 rfl 4 rfl dX11_pairing_19 20 rfl ?_
    refine z_iload_n C 2 rfl 3 rfl dX11_pairing_20 21 rfl ?_
    refine y_callVI C hR (tX11_hasRoom (mL X) G σ x3 x2) ⟨mwX11_hasRoom, mvX11_hasRoom, lkX11_291⟩ one_11 rfl rfl (Nat.le_of_ble_eq_true rfl) (by unfold rmOK; decide) dX11_pairing_21 24 rfl (fun r1 _ => ?_)
    refine z_if_eq C dX11_pairing_24 62 (by decide) 27 rfl rfl (fun _ => ?_) (fun _ => ?_)
    · refine z_ldc2 (v := (-1)) C clX11_340 (by decide) dX11_pairing_62 65 rfl ?_
      exact z_lret C R rfl rfl dX11_pairing_65
    · refine z_iload C 0 rfl dX11_pairing_27 29 rfl ?_
      refine z_i2l C dX11_pairing_29 30 rfl ?_
      refine z_aload_n C 0 rfl 1 rfl dX11_pairing_30 31 rfl ?_
      refine y_getR C fX11_95 one_11 lay_11_48 dX11_pairing_31 34 rfl ?_
      refine z_iload C 5 rfl dX11_pairing_34 36 rfl ?_
      refine y_lald C lay_11_48.2 rfl dX11_pairing_36 37 rfl rfl (fun _ => ?_)
      refine z_lmul C dX11_pairing_37 38 rfl ?_
      refine z_aload_n C 0 rfl 1 rfl dX11_pairing_38 39 rfl ?_
      refine y_getR C fX11_91 one_11 lay_11_47 dX11_pairing_39 42 rfl ?_
      refine z_sipush C (by decide) dX11_pairing_42 45 rfl ?_
      refine z_iload C 5 rfl dX11_pairing_45 47 rfl ?_
      refine z_imul C dX11_pairing_47 48 rfl ?_
      refine z_iload_n C 3 rfl 4 rfl dX11_pairing_48 49 rfl ?_
      refine z_iadd C dX11_pairing_49 50 rfl ?_
      refine z_aload_n C 0 rfl 1 rfl dX11_pairing_50 51 rfl ?_
      refine y_getR C fX11_82 one_11 lay_11_39 dX11_pairing_51 54 rfl ?_
      refine z_iload_n C 2 rfl 3 rfl dX11_pairing_54 55 rfl ?_
      refine y_iald C lay_11_39.2 rfl dX11_pairing_55 56 rfl rfl (fun _ => ?_)
      refine z_isub C dX11_pairing_56 57 rfl ?_
      refine y_lald C lay_11_47.2 rfl dX11_pairing_57 58 rfl rfl (fun _ => ?_)
      refine z_ladd C dX11_pairing_58 59 rfl ?_
      refine z_goto C dX11_pairing_59 65 (by decide) ?_
      exact z_lret C R rfl rfl dX11_pairing_65
