-- market
def gX11_market_L66 (F : Nat) (x1 : Int) (c41 : Int → Int → St → Option (Int × St)) (x3 : Int) (s0 : Int) (s1 : Int) (σ : St) : Option (Int × St) := c41 (s0 + s1) (x3 + 1) σ
def gX11_market_L41 (F : Nat) (x1 : Int) : Nat → Int → Int → St → Option (Int × St)
  | 0, _, _, _ => none
  | n + 1, x2, x3, σ => if w32 x3 ≥ w32 (σ 143 4) then if w32 x1 ≠ 0 then if w32 x1 ≠ 1 then if w32 x1 ≠ 2 then if w32 x1 ≠ 3 then if w32 x1 ≠ 4 then gd (0 ≤ w32 (x1 - 10) ∧ w32 (x1 - 10) < 9) (some (σ 174 (w32 (x1 - 10)), σ)) else some (σ 143 54, σ) else some (x2, σ) else (gX11_came F σ).bind fun r1 => some (r1, σ) else (gX11_keptNow F σ).bind fun r2 => some (r2, σ) else (gX11_valueNow F σ).bind fun r3 => some (r3, σ) else gd (0 ≤ w32 x3 ∧ w32 x3 < 9) (if w32 (σ 174 (w32 x3)) ≠ (-4) then gX11_market_L66 F x1 (gX11_market_L41 F x1 n) x3 x2 1 σ else gX11_market_L66 F x1 (gX11_market_L41 F x1 n) x3 x2 0 σ)
def gX11_market_L33 (F : Nat) (x1 : Int) (σ : St) : Option (Int × St) := (gX11_loadMarket F σ).bind fun r1 => gX11_market_L41 F x1 F 0 0 r1
def gX11_market (F : Nat) (σ : St) (x1 : Int) : Option (Int × St) := (gX11_in σ (w32 x1) 0 4).bind fun r1 => if w32 r1 ≠ 0 then gX11_market_L33 F x1 σ else (gX11_in σ (w32 x1) 10 (w32 (9 + (σ 143 4)))).bind fun r2 => if w32 r2 ≠ 0 then gX11_market_L33 F x1 σ else some ((-1), σ)
def rmX11_market : Room := { frames := 3, cells := 0, slots := 0, locals := 63 }
set_option maxRecDepth 100000 in
set_option maxHeartbeats 4000000 in
theorem pX11_market_L66 {X : MX} {G : GG} (C : CX X G 4 cX11_market RX11) (R : RT X (some .int)) (hR : mR X = rmX11_market) (F : Nat) (x1 : Int) (c41 : Int → Int → St → Option (Int × St)) (hc41 : ∀ (x2 : Int) (x3 : Int) (σ : St), ZZ X G 4 (QM X G vzIw wzW (0, 0)) (0, 0) (c41 x2 x3 σ) (w0 σ) 41 [(0, vr G 143), (1, vi x1), (2, vi x2), (3, vi x3)] []) : ∀ (x3 : Int) (s0 : Int) (s1 : Int) (σ : St), ZZ X G 4 (QM X G vzIw wzW (0, 0)) (0, 0) (gX11_market_L66 F x1 c41 x3 s0 s1 σ) (w0 σ) 66 [(0, vr G 143), (1, vi x1), (3, vi x3)] [vi s1, vi s0] := by
  intro x3 s0 s1 σ
  show ZZ X G 4 (QM X G vzIw wzW (0, 0)) (0, 0) (c41 (s0 + s1) (x3 + 1) σ) (w0 σ) 66 [(0, vr G 143), (1, vi x1), (3, vi x3)] [vi s1, vi s0]
  refine z_iadd C dX11_market_66 67 rfl ?_
  refine z_istore_n (lv' := [(2, vi (s0 + s1)), (0, vr G 143), (1, vi x1), (3, vi x3)]) C 2 rfl (by decide) dX11_market_67 68 rfl rfl ?_
  refine z_iinc (lv' := [(3, vi (x3 + 1)), (2, vi (s0 + s1)), (0, vr G 143), (1, vi x1)]) C (by decide) 3 rfl dX11_market_68 71 rfl rfl ?_
  refine z_goto C dX11_market_71 41 (by decide) ?_
  refine z_lv (lv' := [(0, vr G 143), (1, vi x1), (2, vi (s0 + s1)), (3, vi (x3 + 1))]) [2, 3, 1, 0] rfl ?_
  exact hc41 (s0 + s1) (x3 + 1) σ
set_option maxRecDepth 100000 in
set_option maxHeartbeats 4000000 in
theorem pX11_market_L41 {X : MX} {G : GG} (C : CX X G 4 cX11_market RX11) (R : RT X (some .int)) (hR : mR X = rmX11_market) (F : Nat) (x1 : Int)  : ∀ (n : Nat) (x2 : Int) (x3 : Int) (σ : St), ZZ X G 4 (QM X G vzIw wzW (0, 0)) (0, 0) (gX11_market_L41 F x1 n x2 x3 σ) (w0 σ) 41 [(0, vr G 143), (1, vi x1), (2, vi x2), (3, vi x3)] [] := by
  intro n
  induction n with
  | zero =>
    intro _ _ _
    exact z_none
  | succ n ih =>
    intro x2 x3 σ
    show ZZ X G 4 (QM X G vzIw wzW (0, 0)) (0, 0) (if w32 x3 ≥ w32 (σ 143 4) then if w32 x1 ≠ 0 then if w32 x1 ≠ 1 then if w32 x1 ≠ 2 then if w32 x1 ≠ 3 then if w32 x1 ≠ 4 then gd (0 ≤ w32 (x1 - 10) ∧ w32 (x1 - 10) < 9) (some (σ 174 (w32 (x1 - 10)), σ)) else some (σ 143 54, σ) else some (x2, σ) else (gX11_came F σ).bind fun r1 => some (r1, σ) else (gX11_keptNow F σ).bind fun r2 => some (r2, σ) else (gX11_valueNow F σ).bind fun r3 => some (r3, σ) else gd (0 ≤ w32 x3 ∧ w32 x3 < 9) (if w32 (σ 174 (w32 x3)) ≠ (-4) then gX11_market_L66 F x1 (gX11_market_L41 F x1 n) x3 x2 1 σ else gX11_market_L66 F x1 (gX11_market_L41 F x1 n) x3 x2 0 σ)) (w0 σ) 41 [(0, vr G 143), (1, vi x1), (2, vi x2), (3, vi x3)] []
    refine z_iload_n C 3 rfl 3 rfl dX11_market_41 42 rfl ?_
    refine z_aload_n C 0 rfl 0 rfl dX11_market_42 43 rfl ?_
    refine y_getI C fX11_130 one_11 dX11_market_43 46 rfl ?_
    refine z_icmp_ge C dX11_market_46 74 (by decide) 49 rfl rfl rfl (fun _ => ?_) (fun _ => ?_)
    · refine z_iload_n C 1 rfl 1 rfl dX11_market_74 75 rfl ?_
      refine z_if_ne C dX11_market_75 85 (by decide) 78 rfl rfl (fun _ => ?_) (fun _ => ?_)
      · refine z_iload_n C 1 rfl 1 rfl dX11_market_85 86 rfl ?_
        refine z_iconst C dX11_market_86 87 rfl ?_
        refine z_icmp_ne C dX11_market_87 97 (by decide) 90 rfl rfl (w32_id (a := 1) (by decide)) (fun _ => ?_) (fun _ => ?_)
        · refine z_iload_n C 1 rfl 1 rfl dX11_market_97 98 rfl ?_
          refine z_iconst C dX11_market_98 99 rfl ?_
          refine z_icmp_ne C dX11_market_99 109 (by decide) 102 rfl rfl (w32_id (a := 2) (by decide)) (fun _ => ?_) (fun _ => ?_)
          · refine z_iload_n C 1 rfl 1 rfl dX11_market_109 110 rfl ?_
            refine z_iconst C dX11_market_110 111 rfl ?_
            refine z_icmp_ne C dX11_market_111 118 (by decide) 114 rfl rfl (w32_id (a := 3) (by decide)) (fun _ => ?_) (fun _ => ?_)
            · refine z_iload_n C 1 rfl 1 rfl dX11_market_118 119 rfl ?_
              refine z_iconst C dX11_market_119 120 rfl ?_
              refine z_icmp_ne C dX11_market_120 130 (by decide) 123 rfl rfl (w32_id (a := 4) (by decide)) (fun _ => ?_) (fun _ => ?_)
              · refine z_aload_n C 0 rfl 0 rfl dX11_market_130 131 rfl ?_
                refine y_getR C fX11_101 one_11 lay_11_50 dX11_market_131 134 rfl ?_
                refine z_iload_n C 1 rfl 1 rfl dX11_market_134 135 rfl ?_
                refine z_bipush C (by decide) dX11_market_135 137 rfl ?_
                refine z_isub C dX11_market_137 138 rfl ?_
                refine y_iald C lay_11_50.2 rfl dX11_market_138 139 rfl rfl (fun _ => ?_)
                exact z_iret C R rfl rfl dX11_market_139
              · refine z_aload_n C 0 rfl 0 rfl dX11_market_123 124 rfl ?_
                refine y_getI C fX11_367 one_11 dX11_market_124 127 rfl ?_
                refine z_goto C dX11_market_127 139 (by decide) ?_
                exact z_iret C R rfl rfl dX11_market_139
            · refine z_iload_n C 2 rfl 2 rfl dX11_market_114 115 rfl ?_
              refine z_goto C dX11_market_115 139 (by decide) ?_
              exact z_iret C R rfl rfl dX11_market_139
          · refine z_aload_n C 0 rfl 0 rfl dX11_market_102 103 rfl ?_
            refine y_callVI C hR (tX11_came (mL X) G F σ) ⟨mwX11_came, mvX11_came, lkX11_139⟩ one_11 rfl rfl (Nat.le_of_ble_eq_true rfl) (by unfold rmOK; decide) dX11_market_103 106 rfl (fun r1 _ => ?_)
            refine z_goto C dX11_market_106 139 (by decide) ?_
            exact z_iret C R rfl rfl dX11_market_139
        · refine z_aload_n C 0 rfl 0 rfl dX11_market_90 91 rfl ?_
          refine y_callVI C hR (tX11_keptNow (mL X) G F σ) ⟨mwX11_keptNow, mvX11_keptNow, lkX11_282⟩ one_11 rfl rfl (Nat.le_of_ble_eq_true rfl) (by unfold rmOK; decide) dX11_market_91 94 rfl (fun r2 _ => ?_)
          refine z_goto C dX11_market_94 139 (by decide) ?_
          exact z_iret C R rfl rfl dX11_market_139
      · refine z_aload_n C 0 rfl 0 rfl dX11_market_78 79 rfl ?_
        refine y_callVI C hR (tX11_valueNow (mL X) G F σ) ⟨mwX11_valueNow, mvX11_valueNow, lkX11_279⟩ one_11 rfl rfl (Nat.le_of_ble_eq_true rfl) (by unfold rmOK; decide) dX11_market_79 82 rfl (fun r3 _ => ?_)
        refine z_goto C dX11_market_82 139 (by decide) ?_
        exact z_iret C R rfl rfl dX11_market_139
    · refine z_iload_n C 2 rfl 2 rfl dX11_market_49 50 rfl ?_
      refine z_aload_n C 0 rfl 0 rfl dX11_market_50 51 rfl ?_
      refine y_getR C fX11_101 one_11 lay_11_50 dX11_market_51 54 rfl ?_
      refine z_iload_n C 3 rfl 3 rfl dX11_market_54 55 rfl ?_
      refine y_iald C lay_11_50.2 rfl dX11_market_55 56 rfl rfl (fun _ => ?_)
      refine z_bipush C (by decide) dX11_market_56 58 rfl ?_
      refine z_icmp_ne C dX11_market_58 65 (by decide) 61 rfl rfl (w32_id (a := (-4)) (by decide)) (fun _ => ?_) (fun _ => ?_)
      · refine z_iconst C dX11_market_65 66 rfl ?_
        refine z_lv (lv' := [(0, vr G 143), (1, vi x1), (3, vi x3)]) [0, 1, 3] rfl ?_
        exact pX11_market_L66 C R hR F x1 (gX11_market_L41 F x1 n) ih x3 x2 1 σ
      · refine z_iconst C dX11_market_61 62 rfl ?_
        refine z_goto C dX11_market_62 66 (by decide) ?_
        refine z_lv (lv' := [(0, vr G 143), (1, vi x1), (3, vi x3)]) [0, 1, 3] rfl ?_
        exact pX11_market_L66 C R hR F x1 (gX11_market_L41 F x1 n) ih x3 x2 0 σ
set_option maxRecDepth 100000 in
set_option maxHeartbeats 4000000 in
theorem pX11_market_L33 {X : MX} {G : GG} (C : CX X G 4 cX11_market RX11) (R : RT X (some .int)) (hR : mR X = rmX11_market) (F : Nat) (x1 : Int)  : ∀ (σ : St), ZZ X G 4 (QM X G vzIw wzW (0, 0)) (0, 0) (gX11_market_L33 F x1 σ) (w0 σ) 33 [(0, vr G 143), (1, vi x1)] [] := by
  intro σ
  show ZZ X G 4 (QM X G vzIw wzW (0, 0)) (0, 0) ((gX11_loadMarket F σ).bind fun r1 => gX11_market_L41 F x1 F 0 0 r1) (w0 σ) 33 [(0, vr G 143), (1, vi x1)] []
  refine z_aload_n C 0 rfl 0 rfl dX11_market_33 34 rfl ?_
  refine y_callVv C hR (tX11_loadMarket (mL X) G F σ) ⟨mwX11_loadMarket, mvX11_loadMarket, lkX11_376⟩ one_11 rfl rfl (Nat.le_of_ble_eq_true rfl) (by unfold rmOK; decide) dX11_market_34 37 rfl (fun r1 _ => ?_)
  refine z_iconst C dX11_market_37 38 rfl ?_
  refine z_istore_n (lv' := [(2, vi 0), (0, vr G 143), (1, vi x1)]) C 2 rfl (by decide) dX11_market_38 39 rfl rfl ?_
  refine z_iconst C dX11_market_39 40 rfl ?_
  refine z_istore_n (lv' := [(3, vi 0), (2, vi 0), (0, vr G 143), (1, vi x1)]) C 3 rfl (by decide) dX11_market_40 41 rfl rfl ?_
  refine z_lv (lv' := [(0, vr G 143), (1, vi x1), (2, vi 0), (3, vi 0)]) [2, 3, 1, 0] rfl ?_
  exact pX11_market_L41 C R hR F x1 F 0 0 r1
set_option maxRecDepth 100000 in
set_option maxHeartbeats 4000000 in
theorem tX11_market (l : Launch) (G : GG) (F : Nat) (σ : St) (x1 : Int) : Ctr l G yX11_market cX11_market 4 (some .int) rmX11_market [vr G 143, vi x1] (w0 σ) vzIw wzW (gX11_market F σ x1) := by
  refine ctr_of (by decide) (Nat.le_of_ble_eq_true rfl) mwX11_market.1 (fun X hl hR C R hnm => ?_)
  subst hl
  refine z_lv (lv' := [(0, vr G 143), (1, vi x1)]) [0, 1] rfl ?_
  show ZZ X G 4 (QM X G vzIw wzW (0, 0)) (0, 0) ((gX11_in σ (w32 x1) 0 4).bind fun r1 => if w32 r1 ≠ 0 then gX11_market_L33 F x1 σ else (gX11_in σ (w32 x1) 10 (w32 (9 + (σ 143 4)))).bind fun r2 => if w32 r2 ≠ 0 then gX11_market_L33 F x1 σ else some ((-1), σ)) (w0 σ) 0 [(0, vr G 143), (1, vi x1)] []
  refine z_iload_n C 1 rfl 1 rfl dX11_market_0 1 rfl ?_
  refine z_i2l C dX11_market_1 2 rfl ?_
  refine z_lconst (v := 0) C (by decide) dX11_market_2 3 rfl ?_
  refine z_ldc2 (v := 4) C clX11_382 (by decide) dX11_market_3 6 rfl ?_
  refine y_callSI C hR (tX11_in (mL X) G σ (w32 x1) 0 4) ⟨mwX11_in, msX11_in, lkX11_126⟩ rfl rfl (Nat.le_of_ble_eq_true rfl) (by unfold rmOK; decide) dX11_market_6 9 rfl (fun r1 _ => ?_)
  refine z_if_ne C dX11_market_9 33 (by decide) 12 rfl rfl (fun _ => ?_) (fun _ => ?_)
  · exact pX11_market_L33 C R hR F x1 σ
  · refine z_iload_n C 1 rfl 1 rfl dX11_market_12 13 rfl ?_
    refine z_i2l C dX11_market_13 14 rfl ?_
    refine z_ldc2 (v := 10) C clX11_232 (by decide) dX11_market_14 17 rfl ?_
    refine z_bipush C (by decide) dX11_market_17 19 rfl ?_
    refine z_aload_n C 0 rfl 0 rfl dX11_market_19 20 rfl ?_
    refine y_getI C fX11_130 one_11 dX11_market_20 23 rfl ?_
    refine z_iadd C dX11_market_23 24 rfl ?_
    refine z_i2l C dX11_market_24 25 rfl ?_
    refine y_callSI C hR (tX11_in (mL X) G σ (w32 x1) 10 (w32 (9 + (σ 143 4)))) ⟨mwX11_in, msX11_in, lkX11_126⟩ rfl rfl (Nat.le_of_ble_eq_true rfl) (by unfold rmOK; decide) dX11_market_25 28 rfl (fun r2 _ => ?_)
    refine z_if_ne C dX11_market_28 33 (by decide) 31 rfl rfl (fun _ => ?_) (fun _ => ?_)
    · exact pX11_market_L33 C R hR F x1 σ
    · refine z_iconst C dX11_market_31 32 rfl ?_
      exact z_iret C R rfl rfl dX11_market_32
-- sheet
def gX11_sheet_L56 (F : Nat) (x1 : Int) (x2 : Int) (x3 : Int) : Nat → Int → St → Option (Int × St)
  | 0, _, _ => none
  | n + 1, x4, σ => if w32 x4 ≥ 64 then some (1, σ) else gd (0 ≤ w32 ((64 * x1) + x4) ∧ w32 ((64 * x1) + x4) < 256) (gX11_sheet_L56 F x1 x2 x3 n (x4 + 1) (up σ 180 (w32 ((64 * x1) + x4)) 0))
def gX11_sheet (F : Nat) (σ : St) (x1 : Int) (x2 : Int) (x3 : Int) : Option (Int × St) := (gX11_in σ (w32 x1) 0 3).bind fun r1 => if w32 r1 = 0 then some ((-1), σ) else (gX11_in σ (w32 x2) 0 2).bind fun r2 => if w32 r2 = 0 then some ((-1), σ) else if w32 x3 ≤ 64 then if w32 x3 ≥ 0 then gd (0 ≤ w32 x1 ∧ w32 x1 < 4) (gd (0 ≤ w32 x1 ∧ w32 x1 < 4) (gX11_sheet_L56 F x1 x2 x3 F 0 (up (up σ 178 (w32 x1) x2) 179 (w32 x1) x3))) else some ((-14), σ) else some ((-1), σ)
def rmX11_sheet : Room := { frames := 1, cells := 0, slots := 0, locals := 25 }
set_option maxRecDepth 100000 in
set_option maxHeartbeats 4000000 in
theorem pX11_sheet_L56 {X : MX} {G : GG} (C : CX X G 5 cX11_sheet RX11) (R : RT X (some .int)) (hR : mR X = rmX11_sheet) (F : Nat) (x1 : Int) (x2 : Int) (x3 : Int)  : ∀ (n : Nat) (x4 : Int) (σ : St), ZZ X G 5 (QM X G vzIw wzW (0, 0)) (0, 0) (gX11_sheet_L56 F x1 x2 x3 n x4 σ) (w0 σ) 56 [(0, vr G 143), (1, vi x1), (4, vi x4)] [] := by
  intro n
  induction n with
  | zero =>
    intro _ _
    exact z_none
  | succ n ih =>
    intro x4 σ
    show ZZ X G 5 (QM X G vzIw wzW (0, 0)) (0, 0) (if w32 x4 ≥ 64 then some (1, σ) else gd (0 ≤ w32 ((64 * x1) + x4) ∧ w32 ((64 * x1) + x4) < 256) (gX11_sheet_L56 F x1 x2 x3 n (x4 + 1) (up σ 180 (w32 ((64 * x1) + x4)) 0))) (w0 σ) 56 [(0, vr G 143), (1, vi x1), (4, vi x4)] []
    refine z_iload C 2 rfl dX11_sheet_56 58 rfl ?_
    refine z_bipush C (by decide) dX11_sheet_58 60 rfl ?_
    refine z_icmp_ge C dX11_sheet_60 82 (by decide) 63 rfl rfl (w32_id (a := 64) (by decide)) (fun _ => ?_) (fun _ => ?_)
    · refine z_iconst C dX11_sheet_82 83 rfl ?_
      exact z_iret C R rfl rfl dX11_sheet_83
    · refine z_aload_n C 0 rfl 0 rfl dX11_sheet_63 64 rfl ?_
      refine y_getR C fX11_119 one_11 lay_11_58 dX11_sheet_64 67 rfl ?_
      refine z_bipush C (by decide) dX11_sheet_67 69 rfl ?_
      refine z_iload_n C 1 rfl 1 rfl dX11_sheet_69 70 rfl ?_
      refine z_imul C dX11_sheet_70 71 rfl ?_
      refine z_iload C 2 rfl dX11_sheet_71 73 rfl ?_
      refine z_iadd C dX11_sheet_73 74 rfl ?_
      refine z_iconst C dX11_sheet_74 75 rfl ?_
      refine y_iast C lay_11_58.2 rfl dX11_sheet_75 76 rfl rfl (fun _ => ?_)
      refine z_iinc (lv' := [(4, vi (x4 + 1)), (0, vr G 143), (1, vi x1)]) C (by decide) 2 rfl dX11_sheet_76 79 rfl rfl ?_
      refine z_goto C dX11_sheet_79 56 (by decide) ?_
      refine z_lv (lv' := [(0, vr G 143), (1, vi x1), (4, vi (x4 + 1))]) [1, 2, 0] rfl ?_
      exact ih (x4 + 1) (up σ 180 (w32 ((64 * x1) + x4)) 0)
set_option maxRecDepth 100000 in
set_option maxHeartbeats 4000000 in
theorem tX11_sheet (l : Launch) (G : GG) (F : Nat) (σ : St) (x1 : Int) (x2 : Int) (x3 : Int) : Ctr l G yX11_sheet cX11_sheet 5 (some .int) rmX11_sheet [vr G 143, vi x1, vi x2, vi x3] (w0 σ) vzIw wzW (gX11_sheet F σ x1 x2 x3) := by
  refine ctr_of (by decide) (Nat.le_of_ble_eq_true rfl) mwX11_sheet.1 (fun X hl hR C R hnm => ?_)
  subst hl
  refine z_lv (lv' := [(0, vr G 143), (1, vi x1), (2, vi x2), (3, vi x3)]) [0, 1, 2, 3] rfl ?_
  show ZZ X G 5 (QM X G vzIw wzW (0, 0)) (0, 0) ((gX11_in σ (w32 x1) 0 3).bind fun r1 => if w32 r1 = 0 then some ((-1), σ) else (gX11_in σ (w32 x2) 0 2).bind fun r2 => if w32 r2 = 0 then some ((-1), σ) else if w32 x3 ≤ 64 then if w32 x3 ≥ 0 then gd (0 ≤ w32 x1 ∧ w32 x1 < 4) (gd (0 ≤ w32 x1 ∧ w32 x1 < 4) (gX11_sheet_L56 F x1 x2 x3 F 0 (up (up σ 178 (w32 x1) x2) 179 (w32 x1) x3))) else some ((-14), σ) else some ((-1), σ)) (w0 σ) 0 [(0, vr G 143), (1, vi x1), (2, vi x2), (3, vi x3)] []
  refine z_iload_n C 1 rfl 1 rfl dX11_sheet_0 1 rfl ?_
  refine z_i2l C dX11_sheet_1 2 rfl ?_
  refine z_lconst (v := 0) C (by decide) dX11_sheet_2 3 rfl ?_
  refine z_ldc2 (v := 3) C clX11_133 (by decide) dX11_sheet_3 6 rfl ?_
  refine y_callSI C hR (tX11_in (mL X) G σ (w32 x1) 0 3) ⟨mwX11_in, msX11_in, lkX11_126⟩ rfl rfl (Nat.le_of_ble_eq_true rfl) (by unfold rmOK; decide) dX11_sheet_6 9 rfl (fun r1 _ => ?_)
  refine z_if_eq C dX11_sheet_9 30 (by decide) 12 rfl rfl (fun _ => ?_) (fun _ => ?_)
  · refine z_iconst C dX11_sheet_30 31 rfl ?_
    exact z_iret C R rfl rfl dX11_sheet_31
  · refine z_iload_n C 2 rfl 2 rfl dX11_sheet_12 13 rfl ?_
    refine z_i2l C dX11_sheet_13 14 rfl ?_
    refine z_lconst (v := 0) C (by decide) dX11_sheet_14 15 rfl ?_
    refine z_ldc2 (v := 2) C clX11_384 (by decide) dX11_sheet_15 18 rfl ?_
    refine y_callSI C hR (tX11_in (mL X) G σ (w32 x2) 0 2) ⟨mwX11_in, msX11_in, lkX11_126⟩ rfl rfl (Nat.le_of_ble_eq_true rfl) (by unfold rmOK; decide) dX11_sheet_18 21 rfl (fun r2 _ => ?_)
    refine z_if_eq C dX11_sheet_21 30 (by decide) 24 rfl rfl (fun _ => ?_) (fun _ => ?_)
    · refine z_iconst C dX11_sheet_30 31 rfl ?_
      exact z_iret C R rfl rfl dX11_sheet_31
    · refine z_iload_n C 3 rfl 3 rfl dX11_sheet_24 25 rfl ?_
      refine z_bipush C (by decide) dX11_sheet_25 27 rfl ?_
      refine z_icmp_le C dX11_sheet_27 32 (by decide) 30 rfl rfl (w32_id (a := 64) (by decide)) (fun _ => ?_) (fun _ => ?_)
      · refine z_iload_n C 3 rfl 3 rfl dX11_sheet_32 33 rfl ?_
        refine z_if_ge C dX11_sheet_33 39 (by decide) 36 rfl rfl (fun _ => ?_) (fun _ => ?_)
        · refine z_aload_n C 0 rfl 0 rfl dX11_sheet_39 40 rfl ?_
          refine y_getR C fX11_113 one_11 lay_11_56 dX11_sheet_40 43 rfl ?_
          refine z_iload_n C 1 rfl 1 rfl dX11_sheet_43 44 rfl ?_
          refine z_iload_n C 2 rfl 2 rfl dX11_sheet_44 45 rfl ?_
          refine y_iast C lay_11_56.2 rfl dX11_sheet_45 46 rfl rfl (fun _ => ?_)
          refine z_aload_n C 0 rfl 0 rfl dX11_sheet_46 47 rfl ?_
          refine y_getR C fX11_116 one_11 lay_11_57 dX11_sheet_47 50 rfl ?_
          refine z_iload_n C 1 rfl 1 rfl dX11_sheet_50 51 rfl ?_
          refine z_iload_n C 3 rfl 3 rfl dX11_sheet_51 52 rfl ?_
          refine y_iast C lay_11_57.2 rfl dX11_sheet_52 53 rfl rfl (fun _ => ?_)
          refine z_iconst C dX11_sheet_53 54 rfl ?_
          refine z_istore (lv' := [(4, vi 0), (0, vr G 143), (1, vi x1), (2, vi x2), (3, vi x3)]) C (by decide) dX11_sheet_54 56 rfl rfl ?_
          refine z_lv (lv' := [(0, vr G 143), (1, vi x1), (4, vi 0)]) [1, 2, 0] rfl ?_
          exact pX11_sheet_L56 C R hR F x1 x2 x3 F 0 (up (up σ 178 (w32 x1) x2) 179 (w32 x1) x3)
        · refine z_bipush C (by decide) dX11_sheet_36 38 rfl ?_
          exact z_iret C R rfl rfl dX11_sheet_38
      · refine z_iconst C dX11_sheet_30 31 rfl ?_
        exact z_iret C R rfl rfl dX11_sheet_31
-- lay
def gX11_lay (σ : St) (x1 : Int) (x2 : Int) (x3 : Int) : Option (Int × St) := (gX11_in σ (w32 x1) 0 3).bind fun r1 => if w32 r1 ≠ 0 then gd (0 ≤ w32 x1 ∧ w32 x1 < 4) (if w32 (σ 178 (w32 x1)) ≠ (-4) then gd (0 ≤ w32 x1 ∧ w32 x1 < 4) ((gX11_in σ (w32 x2) 0 (w32 ((σ 179 (w32 x1)) - 1))).bind fun r2 => if w32 r2 ≠ 0 then gd (0 ≤ w32 x1 ∧ w32 x1 < 4) (if w32 (σ 178 (w32 x1)) ≠ 0 then gd (0 ≤ w32 x1 ∧ w32 x1 < 4) (if w32 (σ 178 (w32 x1)) ≠ 1 then gd (0 ≤ w32 ((64 * x1) + x2) ∧ w32 ((64 * x1) + x2) < 256) (some (1, up σ 180 (w32 ((64 * x1) + x2)) x3)) else gd (0 ≤ w32 ((64 * x1) + x2) ∧ w32 ((64 * x1) + x2) < 256) (some (1, up σ 180 (w32 ((64 * x1) + x2)) (ishr (ishl x3 16) 16)))) else gd (0 ≤ w32 ((64 * x1) + x2) ∧ w32 ((64 * x1) + x2) < 256) (some (1, up σ 180 (w32 ((64 * x1) + x2)) (ishr (ishl x3 24) 24)))) else some ((-12), σ)) else some ((-11), σ)) else some ((-1), σ)
def rmX11_lay : Room := { frames := 1, cells := 0, slots := 0, locals := 25 }
set_option maxRecDepth 100000 in
set_option maxHeartbeats 4000000 in
theorem tX11_lay (l : Launch) (G : GG) (σ : St) (x1 : Int) (x2 : Int) (x3 : Int) : Ctr l G yX11_lay cX11_lay 4 (some .int) rmX11_lay [vr G 143, vi x1, vi x2, vi x3] (w0 σ) vzIw wzW (gX11_lay σ x1 x2 x3) := by
  refine ctr_of (by decide) (Nat.le_of_ble_eq_true rfl) mwX11_lay.1 (fun X hl hR C R hnm => ?_)
  subst hl
  refine z_lv (lv' := [(0, vr G 143), (1, vi x1), (2, vi x2), (3, vi x3)]) [0, 1, 2, 3] rfl ?_
  show ZZ X G 4 (QM X G vzIw wzW (0, 0)) (0, 0) ((gX11_in σ (w32 x1) 0 3).bind fun r1 => if w32 r1 ≠ 0 then gd (0 ≤ w32 x1 ∧ w32 x1 < 4) (if w32 (σ 178 (w32 x1)) ≠ (-4) then gd (0 ≤ w32 x1 ∧ w32 x1 < 4) ((gX11_in σ (w32 x2) 0 (w32 ((σ 179 (w32 x1)) - 1))).bind fun r2 => if w32 r2 ≠ 0 then gd (0 ≤ w32 x1 ∧ w32 x1 < 4) (if w32 (σ 178 (w32 x1)) ≠ 0 then gd (0 ≤ w32 x1 ∧ w32 x1 < 4) (if w32 (σ 178 (w32 x1)) ≠ 1 then gd (0 ≤ w32 ((64 * x1) + x2) ∧ w32 ((64 * x1) + x2) < 256) (some (1, up σ 180 (w32 ((64 * x1) + x2)) x3)) else gd (0 ≤ w32 ((64 * x1) + x2) ∧ w32 ((64 * x1) + x2) < 256) (some (1, up σ 180 (w32 ((64 * x1) + x2)) (ishr (ishl x3 16) 16)))) else gd (0 ≤ w32 ((64 * x1) + x2) ∧ w32 ((64 * x1) + x2) < 256) (some (1, up σ 180 (w32 ((64 * x1) + x2)) (ishr (ishl x3 24) 24)))) else some ((-12), σ)) else some ((-11), σ)) else some ((-1), σ)) (w0 σ) 0 [(0, vr G 143), (1, vi x1), (2, vi x2), (3, vi x3)] []
  refine z_iload_n C 1 rfl 1 rfl dX11_lay_0 1 rfl ?_
  refine z_i2l C dX11_lay_1 2 rfl ?_
  refine z_lconst (v := 0) C (by decide) dX11_lay_2 3 rfl ?_
  refine z_ldc2 (v := 3) C clX11_133 (by decide) dX11_lay_3 6 rfl ?_
  refine y_callSI C hR (tX11_in (mL X) G σ (w32 x1) 0 3) ⟨mwX11_in, msX11_in, lkX11_126⟩ rfl rfl (Nat.le_of_ble_eq_true rfl) (by unfold rmOK; decide) dX11_lay_6 9 rfl (fun r1 _ => ?_)
  refine z_if_ne C dX11_lay_9 14 (by decide) 12 rfl rfl (fun _ => ?_) (fun _ => ?_)
  · refine z_aload_n C 0 rfl 0 rfl dX11_lay_14 15 rfl ?_
    refine y_getR C fX11_113 one_11 lay_11_56 dX11_lay_15 18 rfl ?_
    refine z_iload_n C 1 rfl 1 rfl dX11_lay_18 19 rfl ?_
    refine y_iald C lay_11_56.2 rfl dX11_lay_19 20 rfl rfl (fun _ => ?_)
    refine z_bipush C (by decide) dX11_lay_20 22 rfl ?_
    refine z_icmp_ne C dX11_lay_22 28 (by decide) 25 rfl rfl (w32_id (a := (-4)) (by decide)) (fun _ => ?_) (fun _ => ?_)
    · refine z_iload_n C 2 rfl 2 rfl dX11_lay_28 29 rfl ?_
      refine z_i2l C dX11_lay_29 30 rfl ?_
      refine z_lconst (v := 0) C (by decide) dX11_lay_30 31 rfl ?_
      refine z_aload_n C 0 rfl 0 rfl dX11_lay_31 32 rfl ?_
      refine y_getR C fX11_116 one_11 lay_11_57 dX11_lay_32 35 rfl ?_
      refine z_iload_n C 1 rfl 1 rfl dX11_lay_35 36 rfl ?_
      refine y_iald C lay_11_57.2 rfl dX11_lay_36 37 rfl rfl (fun _ => ?_)
      refine z_iconst C dX11_lay_37 38 rfl ?_
      refine z_isub C dX11_lay_38 39 rfl ?_
      refine z_i2l C dX11_lay_39 40 rfl ?_
      refine y_callSI C hR (tX11_in (mL X) G σ (w32 x2) 0 (w32 ((σ 179 (w32 x1)) - 1))) ⟨mwX11_in, msX11_in, lkX11_126⟩ rfl rfl (Nat.le_of_ble_eq_true rfl) (by unfold rmOK; decide) dX11_lay_40 43 rfl (fun r2 _ => ?_)
      refine z_if_ne C dX11_lay_43 49 (by decide) 46 rfl rfl (fun _ => ?_) (fun _ => ?_)
      · refine z_aload_n C 0 rfl 0 rfl dX11_lay_49 50 rfl ?_
        refine y_getR C fX11_119 one_11 lay_11_58 dX11_lay_50 53 rfl ?_
        refine z_bipush C (by decide) dX11_lay_53 55 rfl ?_
        refine z_iload_n C 1 rfl 1 rfl dX11_lay_55 56 rfl ?_
        refine z_imul C dX11_lay_56 57 rfl ?_
        refine z_iload_n C 2 rfl 2 rfl dX11_lay_57 58 rfl ?_
        refine z_iadd C dX11_lay_58 59 rfl ?_
        refine z_aload_n C 0 rfl 0 rfl dX11_lay_59 60 rfl ?_
        refine y_getR C fX11_113 one_11 lay_11_56 dX11_lay_60 63 rfl ?_
        refine z_iload_n C 1 rfl 1 rfl dX11_lay_63 64 rfl ?_
        refine y_iald C lay_11_56.2 rfl dX11_lay_64 65 rfl rfl (fun _ => ?_)
        refine z_if_ne C dX11_lay_65 78 (by decide) 68 rfl rfl (fun _ => ?_) (fun _ => ?_)
        · refine z_aload_n C 0 rfl 0 rfl dX11_lay_78 79 rfl ?_
          refine y_getR C fX11_113 one_11 lay_11_56 dX11_lay_79 82 rfl ?_
          refine z_iload_n C 1 rfl 1 rfl dX11_lay_82 83 rfl ?_
          refine y_iald C lay_11_56.2 rfl dX11_lay_83 84 rfl rfl (fun _ => ?_)
          refine z_iconst C dX11_lay_84 85 rfl ?_
          refine z_icmp_ne C dX11_lay_85 98 (by decide) 88 rfl rfl (w32_id (a := 1) (by decide)) (fun _ => ?_) (fun _ => ?_)
          · refine z_iload_n C 3 rfl 3 rfl dX11_lay_98 99 rfl ?_
            refine y_iast C lay_11_58.2 rfl dX11_lay_99 100 rfl rfl (fun _ => ?_)
            refine z_iconst C dX11_lay_100 101 rfl ?_
            exact z_iret C R rfl rfl dX11_lay_101
          · refine z_iload_n C 3 rfl 3 rfl dX11_lay_88 89 rfl ?_
            refine z_bipush C (by decide) dX11_lay_89 91 rfl ?_
            refine z_ishl C dX11_lay_91 92 rfl ?_
            refine z_bipush C (by decide) dX11_lay_92 94 rfl ?_
            refine z_ishr C dX11_lay_94 95 rfl ?_
            refine z_goto C dX11_lay_95 99 (by decide) ?_
            refine y_iast C lay_11_58.2 rfl dX11_lay_99 100 rfl rfl (fun _ => ?_)
            refine z_iconst C dX11_lay_100 101 rfl ?_
            exact z_iret C R rfl rfl dX11_lay_101
        · refine z_iload_n C 3 rfl 3 rfl dX11_lay_68 69 rfl ?_
          refine z_bipush C (by decide) dX11_lay_69 71 rfl ?_
          refine z_ishl C dX11_lay_71 72 rfl ?_
          refine z_bipush C (by decide) dX11_lay_72 74 rfl ?_
          refine z_ishr C dX11_lay_74 75 rfl ?_
          refine z_goto C dX11_lay_75 99 (by decide) ?_
          refine y_iast C lay_11_58.2 rfl dX11_lay_99 100 rfl rfl (fun _ => ?_)
          refine z_iconst C dX11_lay_100 101 rfl ?_
          exact z_iret C R rfl rfl dX11_lay_101
      · refine z_bipush C (by decide) dX11_lay_46 48 rfl ?_
        exact z_iret C R rfl rfl dX11_lay_48
    · refine z_bipush C (by decide) dX11_lay_25 27 rfl ?_
      exact z_iret C R rfl rfl dX11_lay_27
  · refine z_iconst C dX11_lay_12 13 rfl ?_
    exact z_iret C R rfl rfl dX11_lay_13
-- net
def gX11_net_L222 (F : Nat) (x1 : Int) (x2 : Int) (x3 : Int) (c153 : Int → Int → St → Option (Int × St)) (x5 : Int) (x6 : Int) (x7 : Int) (s0 : Int) (s1 : Int) (σ : St) : Option (Int × St) := gd (0 ≤ w32 x6 ∧ w32 x6 < 54) (c153 (s0 + s1) (x5 + 1) (up σ 148 (w32 x6) x7))
def gX11_net_L153 (F : Nat) (x1 : Int) (x2 : Int) (x3 : Int) : Nat → Int → Int → St → Option (Int × St)
  | 0, _, _, _ => none
  | n + 1, x4, x5, σ => if w32 x5 ≥ w32 ((σ 143 4) * (σ 143 0)) then some (x4, σ) else gd (w32 (σ 143 0) ≠ 0) (gd (w32 (σ 143 0) ≠ 0) (gd (0 ≤ w32 (((64 * x1) + x3) + x5) ∧ w32 (((64 * x1) + x3) + x5) < 256) (gd (0 ≤ w32 ((6 * (idv x5 (σ 143 0))) + (irm x5 (σ 143 0))) ∧ w32 ((6 * (idv x5 (σ 143 0))) + (irm x5 (σ 143 0))) < 54) (if w32 (σ 148 (w32 ((6 * (idv x5 (σ 143 0))) + (irm x5 (σ 143 0))))) = w32 (σ 180 (w32 (((64 * x1) + x3) + x5))) then gX11_net_L222 F x1 x2 x3 (gX11_net_L153 F x1 x2 x3 n) x5 ((6 * (idv x5 (σ 143 0))) + (irm x5 (σ 143 0))) (σ 180 (w32 (((64 * x1) + x3) + x5))) x4 0 σ else gX11_net_L222 F x1 x2 x3 (gX11_net_L153 F x1 x2 x3 n) x5 ((6 * (idv x5 (σ 143 0))) + (irm x5 (σ 143 0))) (σ 180 (w32 (((64 * x1) + x3) + x5))) x4 1 σ))))
def gX11_net_L58 (F : Nat) (x1 : Int) (x2 : Int) (x3 : Int) : Nat → Int → St → Option (Int × St)
  | 0, _, _ => none
  | n + 1, x4, σ => if w32 x4 ≥ w32 ((σ 143 4) * (σ 143 0)) then (gX11_came F σ).bind fun r1 => if w32 r1 ≤ 0 then gX11_net_L153 F x1 x2 x3 F 0 0 σ else some ((-2), σ) else gd (0 ≤ w32 x1 ∧ w32 x1 < 4) ((gX11_in σ ((w32 x3) + (w32 x4)) 0 (w32 ((σ 179 (w32 x1)) - 1))).bind fun r2 => if w32 r2 ≠ 0 then gd (0 ≤ w32 ((64 * x1) + (l2i_ ((w32 x3) + (w32 x4)))) ∧ w32 ((64 * x1) + (l2i_ ((w32 x3) + (w32 x4)))) < 256) ((gX11_in σ (w32 (σ 180 (w32 ((64 * x1) + (l2i_ ((w32 x3) + (w32 x4))))))) 0 99).bind fun r3 => if w32 r3 ≠ 0 then gX11_net_L58 F x1 x2 x3 n (x4 + 1) σ else some (((-100)) - x4, σ)) else some ((-12), σ))
def gX11_net (F : Nat) (σ : St) (x1 : Int) (x2 : Int) (x3 : Int) : Option (Int × St) := (gX11_in σ (w32 x1) 0 3).bind fun r1 => if w32 r1 = 0 then some ((-1), σ) else (gX11_in σ (w32 x2) 0 2).bind fun r2 => if w32 r2 ≠ 0 then gd (0 ≤ w32 x1 ∧ w32 x1 < 4) (if w32 (σ 178 (w32 x1)) = w32 x2 then gX11_net_L58 F x1 x2 x3 F 0 σ else gd (0 ≤ w32 x1 ∧ w32 x1 < 4) (if w32 (σ 178 (w32 x1)) ≠ (-4) then some ((-13), σ) else some ((-11), σ))) else some ((-1), σ)
def rmX11_net : Room := { frames := 1, cells := 0, slots := 0, locals := 25 }
set_option maxRecDepth 100000 in
set_option maxHeartbeats 4000000 in
theorem pX11_net_L222 {X : MX} {G : GG} (C : CX X G 8 cX11_net RX11) (R : RT X (some .int)) (hR : mR X = rmX11_net) (F : Nat) (x1 : Int) (x2 : Int) (x3 : Int) (c153 : Int → Int → St → Option (Int × St)) (hc153 : ∀ (x4 : Int) (x5 : Int) (σ : St), ZZ X G 8 (QM X G vzIw wzW (0, 0)) (0, 0) (c153 x4 x5 σ) (w0 σ) 153 [(0, vr G 143), (1, vi x1), (3, vi x3), (4, vi x4), (5, vi x5)] []) : ∀ (x5 : Int) (x6 : Int) (x7 : Int) (s0 : Int) (s1 : Int) (σ : St), ZZ X G 8 (QM X G vzIw wzW (0, 0)) (0, 0) (gX11_net_L222 F x1 x2 x3 c153 x5 x6 x7 s0 s1 σ) (w0 σ) 222 [(0, vr G 143), (1, vi x1), (3, vi x3), (5, vi x5), (6, vi x6), (7, vi x7)] [vi s1, vi s0] := by
  intro x5 x6 x7 s0 s1 σ
  show ZZ X G 8 (QM X G vzIw wzW (0, 0)) (0, 0) (gd (0 ≤ w32 x6 ∧ w32 x6 < 54) (c153 (s0 + s1) (x5 + 1) (up σ 148 (w32 x6) x7))) (w0 σ) 222 [(0, vr G 143), (1, vi x1), (3, vi x3), (5, vi x5), (6, vi x6), (7, vi x7)] [vi s1, vi s0]
  refine z_iadd C dX11_net_222 223 rfl ?_
  refine z_istore (lv' := [(4, vi (s0 + s1)), (0, vr G 143), (1, vi x1), (3, vi x3), (5, vi x5), (6, vi x6), (7, vi x7)]) C (by decide) dX11_net_223 225 rfl rfl ?_
  refine z_aload_n C 0 rfl 1 rfl dX11_net_225 226 rfl ?_
  refine y_getR C fX11_22 one_11 lay_11_6 dX11_net_226 229 rfl ?_
  refine z_iload C 5 rfl dX11_net_229 231 rfl ?_
  refine z_iload C 6 rfl dX11_net_231 233 rfl ?_
  refine y_iast C lay_11_6.2 rfl dX11_net_233 234 rfl rfl (fun _ => ?_)
  refine z_iinc (lv' := [(5, vi (x5 + 1)), (4, vi (s0 + s1)), (0, vr G 143), (1, vi x1), (3, vi x3), (6, vi x6), (7, vi x7)]) C (by decide) 4 rfl dX11_net_234 237 rfl rfl ?_
  refine z_goto C dX11_net_237 153 (by decide) ?_
  refine z_lv (lv' := [(0, vr G 143), (1, vi x1), (3, vi x3), (4, vi (s0 + s1)), (5, vi (x5 + 1))]) [2, 3, 4, 1, 0] rfl ?_
  exact hc153 (s0 + s1) (x5 + 1) (up σ 148 (w32 x6) x7)
set_option maxRecDepth 100000 in
set_option maxHeartbeats 4000000 in
theorem pX11_net_L153 {X : MX} {G : GG} (C : CX X G 8 cX11_net RX11) (R : RT X (some .int)) (hR : mR X = rmX11_net) (F : Nat) (x1 : Int) (x2 : Int) (x3 : Int)  : ∀ (n : Nat) (x4 : Int) (x5 : Int) (σ : St), ZZ X G 8 (QM X G vzIw wzW (0, 0)) (0, 0) (gX11_net_L153 F x1 x2 x3 n x4 x5 σ) (w0 σ) 153 [(0, vr G 143), (1, vi x1), (3, vi x3), (4, vi x4), (5, vi x5)] [] := by
  intro n
  induction n with
  | zero =>
    intro _ _ _
    exact z_none
  | succ n ih =>
    intro x4 x5 σ
    show ZZ X G 8 (QM X G vzIw wzW (0, 0)) (0, 0) (if w32 x5 ≥ w32 ((σ 143 4) * (σ 143 0)) then some (x4, σ) else gd (w32 (σ 143 0) ≠ 0) (gd (w32 (σ 143 0) ≠ 0) (gd (0 ≤ w32 (((64 * x1) + x3) + x5) ∧ w32 (((64 * x1) + x3) + x5) < 256) (gd (0 ≤ w32 ((6 * (idv x5 (σ 143 0))) + (irm x5 (σ 143 0))) ∧ w32 ((6 * (idv x5 (σ 143 0))) + (irm x5 (σ 143 0))) < 54) (if w32 (σ 148 (w32 ((6 * (idv x5 (σ 143 0))) + (irm x5 (σ 143 0))))) = w32 (σ 180 (w32 (((64 * x1) + x3) + x5))) then gX11_net_L222 F x1 x2 x3 (gX11_net_L153 F x1 x2 x3 n) x5 ((6 * (idv x5 (σ 143 0))) + (irm x5 (σ 143 0))) (σ 180 (w32 (((64 * x1) + x3) + x5))) x4 0 σ else gX11_net_L222 F x1 x2 x3 (gX11_net_L153 F x1 x2 x3 n) x5 ((6 * (idv x5 (σ 143 0))) + (irm x5 (σ 143 0))) (σ 180 (w32 (((64 * x1) + x3) + x5))) x4 1 σ))))) (w0 σ) 153 [(0, vr G 143), (1, vi x1), (3, vi x3), (4, vi x4), (5, vi x5)] []
    refine z_iload C 4 rfl dX11_net_153 155 rfl ?_
    refine z_aload_n C 0 rfl 0 rfl dX11_net_155 156 rfl ?_
    refine y_getI C fX11_130 one_11 dX11_net_156 159 rfl ?_
    refine z_aload_n C 0 rfl 0 rfl dX11_net_159 160 rfl ?_
    refine y_getI C fX11_122 one_11 dX11_net_160 163 rfl ?_
    refine z_imul C dX11_net_163 164 rfl ?_
    refine z_icmp_ge C dX11_net_164 240 (by decide) 167 rfl rfl rfl (fun _ => ?_) (fun _ => ?_)
    · refine z_iload C 3 rfl dX11_net_240 242 rfl ?_
      exact z_iret C R rfl rfl dX11_net_242
    · refine z_bipush C (by decide) dX11_net_167 169 rfl ?_
      refine z_iload C 4 rfl dX11_net_169 171 rfl ?_
      refine z_aload_n C 0 rfl 0 rfl dX11_net_171 172 rfl ?_
      refine y_getI C fX11_122 one_11 dX11_net_172 175 rfl ?_
      refine z_idiv C dX11_net_175 176 rfl ?_
      refine z_imul C dX11_net_176 177 rfl ?_
      refine z_iload C 4 rfl dX11_net_177 179 rfl ?_
      refine z_aload_n C 0 rfl 0 rfl dX11_net_179 180 rfl ?_
      refine y_getI C fX11_122 one_11 dX11_net_180 183 rfl ?_
      refine z_irem C dX11_net_183 184 rfl ?_
      refine z_iadd C dX11_net_184 185 rfl ?_
      refine z_istore (lv' := [(6, vi ((6 * (idv x5 (σ 143 0))) + (irm x5 (σ 143 0)))), (0, vr G 143), (1, vi x1), (3, vi x3), (4, vi x4), (5, vi x5)]) C (by decide) dX11_net_185 187 rfl rfl ?_
      refine z_aload_n C 0 rfl 1 rfl dX11_net_187 188 rfl ?_
      refine y_getR C fX11_119 one_11 lay_11_58 dX11_net_188 191 rfl ?_
      refine z_bipush C (by decide) dX11_net_191 193 rfl ?_
      refine z_iload_n C 1 rfl 2 rfl dX11_net_193 194 rfl ?_
      refine z_imul C dX11_net_194 195 rfl ?_
      refine z_iload_n C 3 rfl 3 rfl dX11_net_195 196 rfl ?_
      refine z_iadd C dX11_net_196 197 rfl ?_
      refine z_iload C 5 rfl dX11_net_197 199 rfl ?_
      refine z_iadd C dX11_net_199 200 rfl ?_
      refine y_iald C lay_11_58.2 rfl dX11_net_200 201 rfl rfl (fun _ => ?_)
      refine z_istore (lv' := [(7, vi (σ 180 (w32 (((64 * x1) + x3) + x5)))), (6, vi ((6 * (idv x5 (σ 143 0))) + (irm x5 (σ 143 0)))), (0, vr G 143), (1, vi x1), (3, vi x3), (4, vi x4), (5, vi x5)]) C (by decide) dX11_net_201 203 rfl rfl ?_
      refine z_iload C 5 rfl dX11_net_203 205 rfl ?_
      refine z_aload_n C 0 rfl 2 rfl dX11_net_205 206 rfl ?_
      refine y_getR C fX11_22 one_11 lay_11_6 dX11_net_206 209 rfl ?_
      refine z_iload C 1 rfl dX11_net_209 211 rfl ?_
      refine y_iald C lay_11_6.2 rfl dX11_net_211 212 rfl rfl (fun _ => ?_)
      refine z_iload C 0 rfl dX11_net_212 214 rfl ?_
      refine z_icmp_eq C dX11_net_214 221 (by decide) 217 rfl rfl rfl (fun _ => ?_) (fun _ => ?_)
      · refine z_iconst C dX11_net_221 222 rfl ?_
        refine z_lv (lv' := [(0, vr G 143), (1, vi x1), (3, vi x3), (5, vi x5), (6, vi ((6 * (idv x5 (σ 143 0))) + (irm x5 (σ 143 0)))), (7, vi (σ 180 (w32 (((64 * x1) + x3) + x5))))]) [2, 3, 4, 6, 1, 0] rfl ?_
        exact pX11_net_L222 C R hR F x1 x2 x3 (gX11_net_L153 F x1 x2 x3 n) ih x5 ((6 * (idv x5 (σ 143 0))) + (irm x5 (σ 143 0))) (σ 180 (w32 (((64 * x1) + x3) + x5))) x4 0 σ
      · refine z_iconst C dX11_net_217 218 rfl ?_
        refine z_goto C dX11_net_218 222 (by decide) ?_
        refine z_lv (lv' := [(0, vr G 143), (1, vi x1), (3, vi x3), (5, vi x5), (6, vi ((6 * (idv x5 (σ 143 0))) + (irm x5 (σ 143 0)))), (7, vi (σ 180 (w32 (((64 * x1) + x3) + x5))))]) [2, 3, 4, 6, 1, 0] rfl ?_
        exact pX11_net_L222 C R hR F x1 x2 x3 (gX11_net_L153 F x1 x2 x3 n) ih x5 ((6 * (idv x5 (σ 143 0))) + (irm x5 (σ 143 0))) (σ 180 (w32 (((64 * x1) + x3) + x5))) x4 1 σ
set_option maxRecDepth 100000 in
set_option maxHeartbeats 4000000 in
theorem pX11_net_L58 {X : MX} {G : GG} (C : CX X G 8 cX11_net RX11) (R : RT X (some .int)) (hR : mR X = rmX11_net) (F : Nat) (x1 : Int) (x2 : Int) (x3 : Int)  : ∀ (n : Nat) (x4 : Int) (σ : St), ZZ X G 8 (QM X G vzIw wzW (0, 0)) (0, 0) (gX11_net_L58 F x1 x2 x3 n x4 σ) (w0 σ) 58 [(0, vr G 143), (1, vi x1), (3, vi x3), (4, vi x4)] [] := by
  intro n
  induction n with
  | zero =>
    intro _ _
    exact z_none
  | succ n ih =>
    intro x4 σ
    show ZZ X G 8 (QM X G vzIw wzW (0, 0)) (0, 0) (if w32 x4 ≥ w32 ((σ 143 4) * (σ 143 0)) then (gX11_came F σ).bind fun r1 => if w32 r1 ≤ 0 then gX11_net_L153 F x1 x2 x3 F 0 0 σ else some ((-2), σ) else gd (0 ≤ w32 x1 ∧ w32 x1 < 4) ((gX11_in σ ((w32 x3) + (w32 x4)) 0 (w32 ((σ 179 (w32 x1)) - 1))).bind fun r2 => if w32 r2 ≠ 0 then gd (0 ≤ w32 ((64 * x1) + (l2i_ ((w32 x3) + (w32 x4)))) ∧ w32 ((64 * x1) + (l2i_ ((w32 x3) + (w32 x4)))) < 256) ((gX11_in σ (w32 (σ 180 (w32 ((64 * x1) + (l2i_ ((w32 x3) + (w32 x4))))))) 0 99).bind fun r3 => if w32 r3 ≠ 0 then gX11_net_L58 F x1 x2 x3 n (x4 + 1) σ else some (((-100)) - x4, σ)) else some ((-12), σ))) (w0 σ) 58 [(0, vr G 143), (1, vi x1), (3, vi x3), (4, vi x4)] []
    refine z_iload C 3 rfl dX11_net_58 60 rfl ?_
    refine z_aload_n C 0 rfl 0 rfl dX11_net_60 61 rfl ?_
    refine y_getI C fX11_130 one_11 dX11_net_61 64 rfl ?_
    refine z_aload_n C 0 rfl 0 rfl dX11_net_64 65 rfl ?_
    refine y_getI C fX11_122 one_11 dX11_net_65 68 rfl ?_
    refine z_imul C dX11_net_68 69 rfl ?_
    refine z_icmp_ge C dX11_net_69 137 (by decide) 72 rfl rfl rfl (fun _ => ?_) (fun _ => ?_)
    · refine z_aload_n C 0 rfl 0 rfl dX11_net_137 138 rfl ?_
      refine y_callVI C hR (tX11_came (mL X) G F σ) ⟨mwX11_came, mvX11_came, lkX11_139⟩ one_11 rfl rfl (Nat.le_of_ble_eq_true rfl) (by unfold rmOK; decide) dX11_net_138 141 rfl (fun r1 _ => ?_)
      refine z_if_le C dX11_net_141 147 (by decide) 144 rfl rfl (fun _ => ?_) (fun _ => ?_)
      · refine z_iconst C dX11_net_147 148 rfl ?_
        refine z_istore (lv' := [(4, vi 0), (0, vr G 143), (1, vi x1), (3, vi x3)]) C (by decide) dX11_net_148 150 rfl rfl ?_
        refine z_iconst C dX11_net_150 151 rfl ?_
        refine z_istore (lv' := [(5, vi 0), (4, vi 0), (0, vr G 143), (1, vi x1), (3, vi x3)]) C (by decide) dX11_net_151 153 rfl rfl ?_
        refine z_lv (lv' := [(0, vr G 143), (1, vi x1), (3, vi x3), (4, vi 0), (5, vi 0)]) [2, 3, 4, 1, 0] rfl ?_
        exact pX11_net_L153 C R hR F x1 x2 x3 F 0 0 σ
      · refine z_bipush C (by decide) dX11_net_144 146 rfl ?_
        exact z_iret C R rfl rfl dX11_net_146
    · refine z_iload_n C 3 rfl 2 rfl dX11_net_72 73 rfl ?_
      refine z_i2l C dX11_net_73 74 rfl ?_
      refine z_iload C 3 rfl dX11_net_74 76 rfl ?_
      refine z_i2l C dX11_net_76 77 rfl ?_
      refine z_ladd C dX11_net_77 78 rfl ?_
      refine z_lstore (lv' := [(5, vl ((w32 x3) + (w32 x4))), (0, vr G 143), (1, vi x1), (3, vi x3), (4, vi x4)]) C (by decide) dX11_net_78 80 rfl rfl ?_
      refine z_lload C 0 rfl dX11_net_80 82 rfl ?_
      refine z_lconst (v := 0) C (by decide) dX11_net_82 83 rfl ?_
      refine z_aload_n C 0 rfl 1 rfl dX11_net_83 84 rfl ?_
      refine y_getR C fX11_116 one_11 lay_11_57 dX11_net_84 87 rfl ?_
      refine z_iload_n C 1 rfl 2 rfl dX11_net_87 88 rfl ?_
      refine y_iald C lay_11_57.2 rfl dX11_net_88 89 rfl rfl (fun _ => ?_)
      refine z_iconst C dX11_net_89 90 rfl ?_
      refine z_isub C dX11_net_90 91 rfl ?_
      refine z_i2l C dX11_net_91 92 rfl ?_
      refine y_callSI C hR (tX11_in (mL X) G σ ((w32 x3) + (w32 x4)) 0 (w32 ((σ 179 (w32 x1)) - 1))) ⟨mwX11_in, msX11_in, lkX11_126⟩ rfl rfl (Nat.le_of_ble_eq_true rfl) (by unfold rmOK; decide) dX11_net_92 95 rfl (fun r2 _ => ?_)
      refine z_if_ne C dX11_net_95 101 (by decide) 98 rfl rfl (fun _ => ?_) (fun _ => ?_)
      · refine z_aload_n C 0 rfl 1 rfl dX11_net_101 102 rfl ?_
        refine y_getR C fX11_119 one_11 lay_11_58 dX11_net_102 105 rfl ?_
        refine z_bipush C (by decide) dX11_net_105 107 rfl ?_
        refine z_iload_n C 1 rfl 2 rfl dX11_net_107 108 rfl ?_
        refine z_imul C dX11_net_108 109 rfl ?_
        refine z_lload C 0 rfl dX11_net_109 111 rfl ?_
        refine z_l2i C dX11_net_111 112 rfl ?_
        refine z_iadd C dX11_net_112 113 rfl ?_
        refine y_iald C lay_11_58.2 rfl dX11_net_113 114 rfl rfl (fun _ => ?_)
        refine z_i2l C dX11_net_114 115 rfl ?_
        refine z_lconst (v := 0) C (by decide) dX11_net_115 116 rfl ?_
        refine z_ldc2 (v := 99) C clX11_135 (by decide) dX11_net_116 119 rfl ?_
        refine y_callSI C hR (tX11_in (mL X) G σ (w32 (σ 180 (w32 ((64 * x1) + (l2i_ ((w32 x3) + (w32 x4))))))) 0 99) ⟨mwX11_in, msX11_in, lkX11_126⟩ rfl rfl (Nat.le_of_ble_eq_true rfl) (by unfold rmOK; decide) dX11_net_119 122 rfl (fun r3 _ => ?_)
        refine z_if_ne C dX11_net_122 131 (by decide) 125 rfl rfl (fun _ => ?_) (fun _ => ?_)
        · refine z_iinc (lv' := [(4, vi (x4 + 1)), (5, vl ((w32 x3) + (w32 x4))), (0, vr G 143), (1, vi x1), (3, vi x3)]) C (by decide) 4 rfl dX11_net_131 134 rfl rfl ?_
          refine z_goto C dX11_net_134 58 (by decide) ?_
          refine z_lv (lv' := [(0, vr G 143), (1, vi x1), (3, vi x3), (4, vi (x4 + 1))]) [2, 3, 4, 0] rfl ?_
          exact ih (x4 + 1) σ
        · refine z_bipush C (by decide) dX11_net_125 127 rfl ?_
          refine z_iload C 4 rfl dX11_net_127 129 rfl ?_
          refine z_isub C dX11_net_129 130 rfl ?_
          exact z_iret C R rfl rfl dX11_net_130
      · refine z_bipush C (by decide) dX11_net_98 100 rfl ?_
        exact z_iret C R rfl rfl dX11_net_100
set_option maxRecDepth 100000 in
set_option maxHeartbeats 4000000 in
theorem tX11_net (l : Launch) (G : GG) (F : Nat) (σ : St) (x1 : Int) (x2 : Int) (x3 : Int) : Ctr l G yX11_net cX11_net 8 (some .int) rmX11_net [vr G 143, vi x1, vi x2, vi x3] (w0 σ) vzIw wzW (gX11_net F σ x1 x2 x3) := by
  refine ctr_of (by decide) (Nat.le_of_ble_eq_true rfl) mwX11_net.1 (fun X hl hR C R hnm => ?_)
  subst hl
  refine z_lv (lv' := [(0, vr G 143), (1, vi x1), (2, vi x2), (3, vi x3)]) [0, 1, 2, 3] rfl ?_
  show ZZ X G 8 (QM X G vzIw wzW (0, 0)) (0, 0) ((gX11_in σ (w32 x1) 0 3).bind fun r1 => if w32 r1 = 0 then some ((-1), σ) else (gX11_in σ (w32 x2) 0 2).bind fun r2 => if w32 r2 ≠ 0 then gd (0 ≤ w32 x1 ∧ w32 x1 < 4) (if w32 (σ 178 (w32 x1)) = w32 x2 then gX11_net_L58 F x1 x2 x3 F 0 σ else gd (0 ≤ w32 x1 ∧ w32 x1 < 4) (if w32 (σ 178 (w32 x1)) ≠ (-4) then some ((-13), σ) else some ((-11), σ))) else some ((-1), σ)) (w0 σ) 0 [(0, vr G 143), (1, vi x1), (2, vi x2), (3, vi x3)] []
  refine z_iload_n C 1 rfl 1 rfl dX11_net_0 1 rfl ?_
  refine z_i2l C dX11_net_1 2 rfl ?_
  refine z_lconst (v := 0) C (by decide) dX11_net_2 3 rfl ?_
  refine z_ldc2 (v := 3) C clX11_133 (by decide) dX11_net_3 6 rfl ?_
  refine y_callSI C hR (tX11_in (mL X) G σ (w32 x1) 0 3) ⟨mwX11_in, msX11_in, lkX11_126⟩ rfl rfl (Nat.le_of_ble_eq_true rfl) (by unfold rmOK; decide) dX11_net_6 9 rfl (fun r1 _ => ?_)
  refine z_if_eq C dX11_net_9 24 (by decide) 12 rfl rfl (fun _ => ?_) (fun _ => ?_)
  · refine z_iconst C dX11_net_24 25 rfl ?_
    exact z_iret C R rfl rfl dX11_net_25
  · refine z_iload_n C 2 rfl 2 rfl dX11_net_12 13 rfl ?_
    refine z_i2l C dX11_net_13 14 rfl ?_
    refine z_lconst (v := 0) C (by decide) dX11_net_14 15 rfl ?_
    refine z_ldc2 (v := 2) C clX11_384 (by decide) dX11_net_15 18 rfl ?_
    refine y_callSI C hR (tX11_in (mL X) G σ (w32 x2) 0 2) ⟨mwX11_in, msX11_in, lkX11_126⟩ rfl rfl (Nat.le_of_ble_eq_true rfl) (by unfold rmOK; decide) dX11_net_18 21 rfl (fun r2 _ => ?_)
    refine z_if_ne C dX11_net_21 26 (by decide) 24 rfl rfl (fun _ => ?_) (fun _ => ?_)
    · refine z_aload_n C 0 rfl 0 rfl dX11_net_26 27 rfl ?_
      refine y_getR C fX11_113 one_11 lay_11_56 dX11_net_27 30 rfl ?_
      refine z_iload_n C 1 rfl 1 rfl dX11_net_30 31 rfl ?_
      refine y_iald C lay_11_56.2 rfl dX11_net_31 32 rfl rfl (fun _ => ?_)
      refine z_iload_n C 2 rfl 2 rfl dX11_net_32 33 rfl ?_
      refine z_icmp_eq C dX11_net_33 55 (by decide) 36 rfl rfl rfl (fun _ => ?_) (fun _ => ?_)
      · refine z_iconst C dX11_net_55 56 rfl ?_
        refine z_istore (lv' := [(4, vi 0), (0, vr G 143), (1, vi x1), (2, vi x2), (3, vi x3)]) C (by decide) dX11_net_56 58 rfl rfl ?_
        refine z_lv (lv' := [(0, vr G 143), (1, vi x1), (3, vi x3), (4, vi 0)]) [1, 2, 4, 0] rfl ?_
        exact pX11_net_L58 C R hR F x1 x2 x3 F 0 σ
      · refine z_aload_n C 0 rfl 0 rfl dX11_net_36 37 rfl ?_
        refine y_getR C fX11_113 one_11 lay_11_56 dX11_net_37 40 rfl ?_
        refine z_iload_n C 1 rfl 1 rfl dX11_net_40 41 rfl ?_
        refine y_iald C lay_11_56.2 rfl dX11_net_41 42 rfl rfl (fun _ => ?_)
        refine z_bipush C (by decide) dX11_net_42 44 rfl ?_
        refine z_icmp_ne C dX11_net_44 52 (by decide) 47 rfl rfl (w32_id (a := (-4)) (by decide)) (fun _ => ?_) (fun _ => ?_)
        · refine z_bipush C (by decide) dX11_net_52 54 rfl ?_
          exact z_iret C R rfl rfl dX11_net_54
        · refine z_bipush C (by decide) dX11_net_47 49 rfl ?_
          refine z_goto C dX11_net_49 54 (by decide) ?_
          exact z_iret C R rfl rfl dX11_net_54
    · refine z_iconst C dX11_net_24 25 rfl ?_
      exact z_iret C R rfl rfl dX11_net_25
-- count
def gX11_count_L4 (F : Nat) (σ : St) (x1 : Int) : Nat → Int → Int → Option (Int)
  | 0, _, _ => none
  | n + 1, x2, x3 => if w32 x3 ≥ w32 (σ 143 0) then if w32 x1 = 0 then some (σ 143 0) else if w32 x1 = 1 then some (σ 143 4) else if w32 x1 = 2 then some (σ 143 16) else if w32 x1 = 3 then some x2 else if w32 x1 = 4 then (gX11_roomSum F σ).bind fun r1 => some r1 else if w32 x1 = 5 then some (σ 143 8) else if w32 x1 = 6 then gd (0 ≤ 0 ∧ 0 < 4) (if w32 (σ 178 0) ≠ (-4) then gd (0 ≤ 0 ∧ 0 < 4) (some (σ 179 0)) else some ((-4))) else some ((-1)) else (gX11_linksOf F σ x3).bind fun r2 => gX11_count_L4 F σ x1 n (x2 + r2) (x3 + 1)
def gX11_count (F : Nat) (σ : St) (x1 : Int) : Option (Int) := gX11_count_L4 F σ x1 F 0 0
def rmX11_count : Room := { frames := 1, cells := 0, slots := 0, locals := 23 }
set_option maxRecDepth 100000 in
set_option maxHeartbeats 4000000 in
theorem pX11_count_L4 {X : MX} {G : GG} (C : CX X G 4 cX11_count RX11) (R : RT X (some .int)) (hR : mR X = rmX11_count) (F : Nat) (σ : St) (x1 : Int)  : ∀ (n : Nat) (x2 : Int) (x3 : Int), ZZ X G 4 (QM X G vzI (wzR σ) (0, 0)) (0, 0) (gX11_count_L4 F σ x1 n x2 x3) (w0 σ) 4 [(0, vr G 143), (1, vi x1), (2, vi x2), (3, vi x3)] [] := by
  intro n
  induction n with
  | zero =>
    intro _ _
    exact z_none
  | succ n ih =>
    intro x2 x3
    show ZZ X G 4 (QM X G vzI (wzR σ) (0, 0)) (0, 0) (if w32 x3 ≥ w32 (σ 143 0) then if w32 x1 = 0 then some (σ 143 0) else if w32 x1 = 1 then some (σ 143 4) else if w32 x1 = 2 then some (σ 143 16) else if w32 x1 = 3 then some x2 else if w32 x1 = 4 then (gX11_roomSum F σ).bind fun r1 => some r1 else if w32 x1 = 5 then some (σ 143 8) else if w32 x1 = 6 then gd (0 ≤ 0 ∧ 0 < 4) (if w32 (σ 178 0) ≠ (-4) then gd (0 ≤ 0 ∧ 0 < 4) (some (σ 179 0)) else some ((-4))) else some ((-1)) else (gX11_linksOf F σ x3).bind fun r2 => gX11_count_L4 F σ x1 n (x2 + r2) (x3 + 1)) (w0 σ) 4 [(0, vr G 143), (1, vi x1), (2, vi x2), (3, vi x3)] []
    refine z_iload_n C 3 rfl 3 rfl dX11_count_4 5 rfl ?_
    refine z_aload_n C 0 rfl 0 rfl dX11_count_5 6 rfl ?_
    refine y_getI C fX11_122 one_11 dX11_count_6 9 rfl ?_
    refine z_icmp_ge C dX11_count_9 26 (by decide) 12 rfl rfl rfl (fun _ => ?_) (fun _ => ?_)
    · refine z_iload_n C 1 rfl 1 rfl dX11_count_26 27 rfl ?_
      refine z_ite (fun hq0 => ?_) (fun hn0 => ?_)
      · refine z_tin C dX11_count_27 (v := 0) (hq0) (by decide) rfl 68 (by decide) ?_
        refine z_aload_n C 0 rfl 0 rfl dX11_count_68 69 rfl ?_
        refine y_getI C fX11_122 one_11 dX11_count_69 72 rfl ?_
        exact z_iret C R rfl rfl dX11_count_72
      refine z_ite (fun hq1 => ?_) (fun hn1 => ?_)
      · refine z_tin C dX11_count_27 (v := 1) (hq1) (by decide) rfl 73 (by decide) ?_
        refine z_aload_n C 0 rfl 0 rfl dX11_count_73 74 rfl ?_
        refine y_getI C fX11_130 one_11 dX11_count_74 77 rfl ?_
        exact z_iret C R rfl rfl dX11_count_77
      refine z_ite (fun hq2 => ?_) (fun hn2 => ?_)
      · refine z_tin C dX11_count_27 (v := 2) (hq2) (by decide) rfl 78 (by decide) ?_
        refine z_aload_n C 0 rfl 0 rfl dX11_count_78 79 rfl ?_
        refine y_getI C fX11_211 one_11 dX11_count_79 82 rfl ?_
        exact z_iret C R rfl rfl dX11_count_82
      refine z_ite (fun hq3 => ?_) (fun hn3 => ?_)
      · refine z_tin C dX11_count_27 (v := 3) (hq3) (by decide) rfl 83 (by decide) ?_
        refine z_iload_n C 2 rfl 2 rfl dX11_count_83 84 rfl ?_
        exact z_iret C R rfl rfl dX11_count_84
      refine z_ite (fun hq4 => ?_) (fun hn4 => ?_)
      · refine z_tin C dX11_count_27 (v := 4) (hq4) (by decide) rfl 85 (by decide) ?_
        refine z_aload_n C 0 rfl 0 rfl dX11_count_85 86 rfl ?_
        refine y_callVI C hR (tX11_roomSum (mL X) G F σ) ⟨mwX11_roomSum, mvX11_roomSum, lkX11_143⟩ one_11 rfl rfl (Nat.le_of_ble_eq_true rfl) (by unfold rmOK; decide) dX11_count_86 89 rfl (fun r1 _ => ?_)
        exact z_iret C R rfl rfl dX11_count_89
      refine z_ite (fun hq5 => ?_) (fun hn5 => ?_)
      · refine z_tin C dX11_count_27 (v := 5) (hq5) (by decide) rfl 90 (by decide) ?_
        refine z_aload_n C 0 rfl 0 rfl dX11_count_90 91 rfl ?_
        refine y_getI C fX11_161 one_11 dX11_count_91 94 rfl ?_
        exact z_iret C R rfl rfl dX11_count_94
      refine z_ite (fun hq6 => ?_) (fun hn6 => ?_)
      · refine z_tin C dX11_count_27 (v := 6) (hq6) (by decide) rfl 95 (by decide) ?_
        refine z_aload_n C 0 rfl 0 rfl dX11_count_95 96 rfl ?_
        refine y_getR C fX11_113 one_11 lay_11_56 dX11_count_96 99 rfl ?_
        refine z_iconst C dX11_count_99 100 rfl ?_
        refine y_iald C lay_11_56.2 rfl dX11_count_100 101 rfl (w32_id (a := 0) (by decide)) (fun _ => ?_)
        refine z_bipush C (by decide) dX11_count_101 103 rfl ?_
        refine z_icmp_ne C dX11_count_103 111 (by decide) 106 rfl rfl (w32_id (a := (-4)) (by decide)) (fun _ => ?_) (fun _ => ?_)
        · refine z_aload_n C 0 rfl 0 rfl dX11_count_111 112 rfl ?_
          refine y_getR C fX11_116 one_11 lay_11_57 dX11_count_112 115 rfl ?_
          refine z_iconst C dX11_count_115 116 rfl ?_
          refine y_iald C lay_11_57.2 rfl dX11_count_116 117 rfl (w32_id (a := 0) (by decide)) (fun _ => ?_)
          exact z_iret C R rfl rfl dX11_count_117
        · refine z_bipush C (by decide) dX11_count_106 108 rfl ?_
          refine z_goto C dX11_count_108 117 (by decide) ?_
          exact z_iret C R rfl rfl dX11_count_117
      refine z_tout C dX11_count_27 (by omega) 118 (by decide) ?_
      refine z_iconst C dX11_count_118 119 rfl ?_
      exact z_iret C R rfl rfl dX11_count_119
    · refine z_iload_n C 2 rfl 2 rfl dX11_count_12 13 rfl ?_
      refine z_aload_n C 0 rfl 0 rfl dX11_count_13 14 rfl ?_
      refine z_iload_n C 3 rfl 3 rfl dX11_count_14 15 rfl ?_
      refine y_callVI C hR (tX11_linksOf (mL X) G F σ x3) ⟨mwX11_linksOf, mvX11_linksOf, lkX11_157⟩ one_11 rfl rfl (Nat.le_of_ble_eq_true rfl) (by unfold rmOK; decide) dX11_count_15 18 rfl (fun r2 _ => ?_)
      refine z_iadd C dX11_count_18 19 rfl ?_
      refine z_istore_n (lv' := [(2, vi (x2 + r2)), (0, vr G 143), (1, vi x1), (3, vi x3)]) C 2 rfl (by decide) dX11_count_19 20 rfl rfl ?_
      refine z_iinc (lv' := [(3, vi (x3 + 1)), (2, vi (x2 + r2)), (0, vr G 143), (1, vi x1)]) C (by decide) 3 rfl dX11_count_20 23 rfl rfl ?_
      refine z_goto C dX11_count_23 4 (by decide) ?_
      refine z_lv (lv' := [(0, vr G 143), (1, vi x1), (2, vi (x2 + r2)), (3, vi (x3 + 1))]) [2, 3, 1, 0] rfl ?_
      exact ih (x2 + r2) (x3 + 1)
set_option maxRecDepth 100000 in
set_option maxHeartbeats 4000000 in
theorem tX11_count (l : Launch) (G : GG) (F : Nat) (σ : St) (x1 : Int) : Ctr l G yX11_count cX11_count 4 (some .int) rmX11_count [vr G 143, vi x1] (w0 σ) vzI (wzR σ) (gX11_count F σ x1) := by
  refine ctr_of (by decide) (Nat.le_of_ble_eq_true rfl) mwX11_count.1 (fun X hl hR C R hnm => ?_)
  subst hl
  refine z_lv (lv' := [(0, vr G 143), (1, vi x1)]) [0, 1] rfl ?_
  show ZZ X G 4 (QM X G vzI (wzR σ) (0, 0)) (0, 0) (gX11_count_L4 F σ x1 F 0 0) (w0 σ) 0 [(0, vr G 143), (1, vi x1)] []
  refine z_iconst C dX11_count_0 1 rfl ?_
  refine z_istore_n (lv' := [(2, vi 0), (0, vr G 143), (1, vi x1)]) C 2 rfl (by decide) dX11_count_1 2 rfl rfl ?_
  refine z_iconst C dX11_count_2 3 rfl ?_
  refine z_istore_n (lv' := [(3, vi 0), (2, vi 0), (0, vr G 143), (1, vi x1)]) C 3 rfl (by decide) dX11_count_3 4 rfl rfl ?_
  refine z_lv (lv' := [(0, vr G 143), (1, vi x1), (2, vi 0), (3, vi 0)]) [2, 3, 1, 0] rfl ?_
  exact pX11_count_L4 C R hR F σ x1 F 0 0
