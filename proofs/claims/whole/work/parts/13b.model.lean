-- readRule
def gX11_readRule_L176 (F : Nat) (σ : St) : Option (St) := (gX11_next F σ).bind fun r1 => if w32 (r1 143 10) ≠ 0 then some r1 else if w32 (r1 143 14) = 0 then some r1 else (gX11_fails r1 5).bind fun r2 => some r2
def gX11_readRule_L155 (F : Nat) (σ : St) : Option (St) := if w32 (σ 143 10) ≠ 0 then gX11_readRule_L176 F σ else (gX11_isSign σ 59).bind fun r1 => if w32 r1 ≠ 0 then gX11_readRule_L176 F σ else (gX11_fails σ 2).bind fun r2 => gX11_readRule_L176 F r2
def gX11_readRule_L125 (F : Nat) (σ : St) : Option (St) := if w32 (σ 143 10) ≠ 0 then gX11_readRule_L155 F σ else (gX11_isName σ 9).bind fun r1 => if w32 r1 = 0 then gX11_readRule_L155 F σ else gd (0 ≤ w32 (σ 143 16) ∧ w32 (σ 143 16) < 6) ((gX11_next F (up σ 156 (w32 (σ 143 16)) 1)).bind fun r2 => gX11_readRule_L155 F r2)
def gX11_readRule_L98 (F : Nat) : Nat → St → Option (St)
  | 0, _ => none
  | n + 1, σ => if w32 (σ 143 10) ≠ 0 then gX11_readRule_L125 F σ else (gX11_isName σ 8).bind fun r1 => if w32 r1 = 0 then gX11_readRule_L125 F σ else (gX11_next F σ).bind fun r2 => (gX11_test F r2).bind fun r3 => gX11_readRule_L98 F n r3
def gX11_readRule_L74 (F : Nat) (σ : St) : Option (St) := if w32 (σ 143 10) ≠ 0 then gX11_readRule_L125 F σ else (gX11_isName σ 7).bind fun r1 => if w32 r1 = 0 then gX11_readRule_L125 F σ else (gX11_next F σ).bind fun r2 => (gX11_test F r2).bind fun r3 => gX11_readRule_L98 F F r3
def gX11_readRule_L40 (F : Nat) : Nat → St → Option (St)
  | 0, _ => none
  | n + 1, σ => if w32 (σ 143 10) ≠ 0 then gX11_readRule_L74 F σ else (gX11_isSign σ 44).bind fun r1 => if w32 r1 = 0 then gX11_readRule_L74 F σ else (gX11_next F σ).bind fun r2 => if w32 (r2 143 10) ≠ 0 then gX11_readRule_L40 F n r2 else (gX11_key F r2).bind fun r3 => gX11_readRule_L40 F n r3
def gX11_readRule_L25 (F : Nat) (σ : St) : Option (St) := (gX11_next F σ).bind fun r1 => if w32 (r1 143 10) ≠ 0 then gX11_readRule_L40 F F r1 else (gX11_key F r1).bind fun r2 => gX11_readRule_L40 F F r2
def gX11_readRule (F : Nat) (σ : St) : Option (St) := (gX11_next F σ).bind fun r1 => if w32 (r1 143 10) ≠ 0 then gX11_readRule_L25 F r1 else (gX11_isName r1 6).bind fun r2 => if w32 r2 ≠ 0 then gX11_readRule_L25 F r1 else (gX11_fails r1 2).bind fun r3 => gX11_readRule_L25 F r3
def rmX11_readRule : Room := { frames := 4, cells := 0, slots := 0, locals := 89 }
set_option maxRecDepth 100000 in
set_option maxHeartbeats 4000000 in
theorem pX11_readRule_L176 {X : MX} {G : GG} (C : CX X G 1 cX11_readRule RX11) (R : RT X none) (hR : mR X = rmX11_readRule) (F : Nat)  : ∀ (σ : St), ZZ X G 1 (QM X G vzV wzV (0, 0)) (0, 0) (gX11_readRule_L176 F σ) (w0 σ) 176 [(0, vr G 143)] [] := by
  intro σ
  show ZZ X G 1 (QM X G vzV wzV (0, 0)) (0, 0) ((gX11_next F σ).bind fun r1 => if w32 (r1 143 10) ≠ 0 then some r1 else if w32 (r1 143 14) = 0 then some r1 else (gX11_fails r1 5).bind fun r2 => some r2) (w0 σ) 176 [(0, vr G 143)] []
  refine z_aload_n C 0 rfl 0 rfl dX11_readRule_176 177 rfl ?_
  refine y_callVv C hR (tX11_next (mL X) G F σ) ⟨mwX11_next, mvX11_next, lkX11_204⟩ one_11 rfl rfl (Nat.le_of_ble_eq_true rfl) (by unfold rmOK; decide) dX11_readRule_177 180 rfl (fun r1 _ => ?_)
  refine z_aload_n C 0 rfl 0 rfl dX11_readRule_180 181 rfl ?_
  refine y_getI C fX11_164 one_11 dX11_readRule_181 184 rfl ?_
  refine z_if_ne C dX11_readRule_184 199 (by decide) 187 rfl rfl (fun _ => ?_) (fun _ => ?_)
  · exact z_vret C R rfl rfl dX11_readRule_199
  · refine z_aload_n C 0 rfl 0 rfl dX11_readRule_187 188 rfl ?_
    refine y_getI C fX11_182 one_11 dX11_readRule_188 191 rfl ?_
    refine z_if_eq C dX11_readRule_191 199 (by decide) 194 rfl rfl (fun _ => ?_) (fun _ => ?_)
    · exact z_vret C R rfl rfl dX11_readRule_199
    · refine z_aload_n C 0 rfl 0 rfl dX11_readRule_194 195 rfl ?_
      refine z_iconst C dX11_readRule_195 196 rfl ?_
      refine y_callVv C hR (tX11_fails (mL X) G r1 5) ⟨mwX11_fails, mvX11_fails, lkX11_193⟩ one_11 rfl rfl (Nat.le_of_ble_eq_true rfl) (by unfold rmOK; decide) dX11_readRule_196 199 rfl (fun r2 _ => ?_)
      exact z_vret C R rfl rfl dX11_readRule_199
set_option maxRecDepth 100000 in
set_option maxHeartbeats 4000000 in
theorem pX11_readRule_L155 {X : MX} {G : GG} (C : CX X G 1 cX11_readRule RX11) (R : RT X none) (hR : mR X = rmX11_readRule) (F : Nat)  : ∀ (σ : St), ZZ X G 1 (QM X G vzV wzV (0, 0)) (0, 0) (gX11_readRule_L155 F σ) (w0 σ) 155 [(0, vr G 143)] [] := by
  intro σ
  show ZZ X G 1 (QM X G vzV wzV (0, 0)) (0, 0) (if w32 (σ 143 10) ≠ 0 then gX11_readRule_L176 F σ else (gX11_isSign σ 59).bind fun r1 => if w32 r1 ≠ 0 then gX11_readRule_L176 F σ else (gX11_fails σ 2).bind fun r2 => gX11_readRule_L176 F r2) (w0 σ) 155 [(0, vr G 143)] []
  refine z_aload_n C 0 rfl 0 rfl dX11_readRule_155 156 rfl ?_
  refine y_getI C fX11_164 one_11 dX11_readRule_156 159 rfl ?_
  refine z_if_ne C dX11_readRule_159 176 (by decide) 162 rfl rfl (fun _ => ?_) (fun _ => ?_)
  · exact pX11_readRule_L176 C R hR F σ
  · refine z_aload_n C 0 rfl 0 rfl dX11_readRule_162 163 rfl ?_
    refine z_bipush C (by decide) dX11_readRule_163 165 rfl ?_
    refine y_callVI C hR (tX11_isSign (mL X) G σ 59) ⟨mwX11_isSign, mvX11_isSign, lkX11_201⟩ one_11 rfl rfl (Nat.le_of_ble_eq_true rfl) (by unfold rmOK; decide) dX11_readRule_165 168 rfl (fun r1 _ => ?_)
    refine z_if_ne C dX11_readRule_168 176 (by decide) 171 rfl rfl (fun _ => ?_) (fun _ => ?_)
    · exact pX11_readRule_L176 C R hR F σ
    · refine z_aload_n C 0 rfl 0 rfl dX11_readRule_171 172 rfl ?_
      refine z_iconst C dX11_readRule_172 173 rfl ?_
      refine y_callVv C hR (tX11_fails (mL X) G σ 2) ⟨mwX11_fails, mvX11_fails, lkX11_193⟩ one_11 rfl rfl (Nat.le_of_ble_eq_true rfl) (by unfold rmOK; decide) dX11_readRule_173 176 rfl (fun r2 _ => ?_)
      exact pX11_readRule_L176 C R hR F r2
set_option maxRecDepth 100000 in
set_option maxHeartbeats 4000000 in
theorem pX11_readRule_L125 {X : MX} {G : GG} (C : CX X G 1 cX11_readRule RX11) (R : RT X none) (hR : mR X = rmX11_readRule) (F : Nat)  : ∀ (σ : St), ZZ X G 1 (QM X G vzV wzV (0, 0)) (0, 0) (gX11_readRule_L125 F σ) (w0 σ) 125 [(0, vr G 143)] [] := by
  intro σ
  show ZZ X G 1 (QM X G vzV wzV (0, 0)) (0, 0) (if w32 (σ 143 10) ≠ 0 then gX11_readRule_L155 F σ else (gX11_isName σ 9).bind fun r1 => if w32 r1 = 0 then gX11_readRule_L155 F σ else gd (0 ≤ w32 (σ 143 16) ∧ w32 (σ 143 16) < 6) ((gX11_next F (up σ 156 (w32 (σ 143 16)) 1)).bind fun r2 => gX11_readRule_L155 F r2)) (w0 σ) 125 [(0, vr G 143)] []
  refine z_aload_n C 0 rfl 0 rfl dX11_readRule_125 126 rfl ?_
  refine y_getI C fX11_164 one_11 dX11_readRule_126 129 rfl ?_
  refine z_if_ne C dX11_readRule_129 155 (by decide) 132 rfl rfl (fun _ => ?_) (fun _ => ?_)
  · exact pX11_readRule_L155 C R hR F σ
  · refine z_aload_n C 0 rfl 0 rfl dX11_readRule_132 133 rfl ?_
    refine z_bipush C (by decide) dX11_readRule_133 135 rfl ?_
    refine y_callVI C hR (tX11_isName (mL X) G σ 9) ⟨mwX11_isName, mvX11_isName, lkX11_214⟩ one_11 rfl rfl (Nat.le_of_ble_eq_true rfl) (by unfold rmOK; decide) dX11_readRule_135 138 rfl (fun r1 _ => ?_)
    refine z_if_eq C dX11_readRule_138 155 (by decide) 141 rfl rfl (fun _ => ?_) (fun _ => ?_)
    · exact pX11_readRule_L155 C R hR F σ
    · refine z_aload_n C 0 rfl 0 rfl dX11_readRule_141 142 rfl ?_
      refine y_getR C fX11_46 one_11 lay_11_23 dX11_readRule_142 145 rfl ?_
      refine z_aload_n C 0 rfl 0 rfl dX11_readRule_145 146 rfl ?_
      refine y_getI C fX11_211 one_11 dX11_readRule_146 149 rfl ?_
      refine z_iconst C dX11_readRule_149 150 rfl ?_
      refine y_iast C lay_11_23.2 rfl dX11_readRule_150 151 rfl rfl (fun _ => ?_)
      refine z_aload_n C 0 rfl 0 rfl dX11_readRule_151 152 rfl ?_
      refine y_callVv C hR (tX11_next (mL X) G F (up σ 156 (w32 (σ 143 16)) 1)) ⟨mwX11_next, mvX11_next, lkX11_204⟩ one_11 rfl rfl (Nat.le_of_ble_eq_true rfl) (by unfold rmOK; decide) dX11_readRule_152 155 rfl (fun r2 _ => ?_)
      exact pX11_readRule_L155 C R hR F r2
set_option maxRecDepth 100000 in
set_option maxHeartbeats 4000000 in
theorem pX11_readRule_L98 {X : MX} {G : GG} (C : CX X G 1 cX11_readRule RX11) (R : RT X none) (hR : mR X = rmX11_readRule) (F : Nat)  : ∀ (n : Nat)  (σ : St), ZZ X G 1 (QM X G vzV wzV (0, 0)) (0, 0) (gX11_readRule_L98 F n σ) (w0 σ) 98 [(0, vr G 143)] [] := by
  intro n
  induction n with
  | zero =>
    intro _
    exact z_none
  | succ n ih =>
    intro σ
    show ZZ X G 1 (QM X G vzV wzV (0, 0)) (0, 0) (if w32 (σ 143 10) ≠ 0 then gX11_readRule_L125 F σ else (gX11_isName σ 8).bind fun r1 => if w32 r1 = 0 then gX11_readRule_L125 F σ else (gX11_next F σ).bind fun r2 => (gX11_test F r2).bind fun r3 => gX11_readRule_L98 F n r3) (w0 σ) 98 [(0, vr G 143)] []
    refine z_aload_n C 0 rfl 0 rfl dX11_readRule_98 99 rfl ?_
    refine y_getI C fX11_164 one_11 dX11_readRule_99 102 rfl ?_
    refine z_if_ne C dX11_readRule_102 125 (by decide) 105 rfl rfl (fun _ => ?_) (fun _ => ?_)
    · exact pX11_readRule_L125 C R hR F σ
    · refine z_aload_n C 0 rfl 0 rfl dX11_readRule_105 106 rfl ?_
      refine z_bipush C (by decide) dX11_readRule_106 108 rfl ?_
      refine y_callVI C hR (tX11_isName (mL X) G σ 8) ⟨mwX11_isName, mvX11_isName, lkX11_214⟩ one_11 rfl rfl (Nat.le_of_ble_eq_true rfl) (by unfold rmOK; decide) dX11_readRule_108 111 rfl (fun r1 _ => ?_)
      refine z_if_eq C dX11_readRule_111 125 (by decide) 114 rfl rfl (fun _ => ?_) (fun _ => ?_)
      · exact pX11_readRule_L125 C R hR F σ
      · refine z_aload_n C 0 rfl 0 rfl dX11_readRule_114 115 rfl ?_
        refine y_callVv C hR (tX11_next (mL X) G F σ) ⟨mwX11_next, mvX11_next, lkX11_204⟩ one_11 rfl rfl (Nat.le_of_ble_eq_true rfl) (by unfold rmOK; decide) dX11_readRule_115 118 rfl (fun r2 _ => ?_)
        refine z_aload_n C 0 rfl 0 rfl dX11_readRule_118 119 rfl ?_
        refine y_callVv C hR (tX11_test (mL X) G F r2) ⟨mwX11_test, mvX11_test, lkX11_220⟩ one_11 rfl rfl (Nat.le_of_ble_eq_true rfl) (by unfold rmOK; decide) dX11_readRule_119 122 rfl (fun r3 _ => ?_)
        refine z_goto C dX11_readRule_122 98 (by decide) ?_
        exact ih r3
set_option maxRecDepth 100000 in
set_option maxHeartbeats 4000000 in
theorem pX11_readRule_L74 {X : MX} {G : GG} (C : CX X G 1 cX11_readRule RX11) (R : RT X none) (hR : mR X = rmX11_readRule) (F : Nat)  : ∀ (σ : St), ZZ X G 1 (QM X G vzV wzV (0, 0)) (0, 0) (gX11_readRule_L74 F σ) (w0 σ) 74 [(0, vr G 143)] [] := by
  intro σ
  show ZZ X G 1 (QM X G vzV wzV (0, 0)) (0, 0) (if w32 (σ 143 10) ≠ 0 then gX11_readRule_L125 F σ else (gX11_isName σ 7).bind fun r1 => if w32 r1 = 0 then gX11_readRule_L125 F σ else (gX11_next F σ).bind fun r2 => (gX11_test F r2).bind fun r3 => gX11_readRule_L98 F F r3) (w0 σ) 74 [(0, vr G 143)] []
  refine z_aload_n C 0 rfl 0 rfl dX11_readRule_74 75 rfl ?_
  refine y_getI C fX11_164 one_11 dX11_readRule_75 78 rfl ?_
  refine z_if_ne C dX11_readRule_78 125 (by decide) 81 rfl rfl (fun _ => ?_) (fun _ => ?_)
  · exact pX11_readRule_L125 C R hR F σ
  · refine z_aload_n C 0 rfl 0 rfl dX11_readRule_81 82 rfl ?_
    refine z_bipush C (by decide) dX11_readRule_82 84 rfl ?_
    refine y_callVI C hR (tX11_isName (mL X) G σ 7) ⟨mwX11_isName, mvX11_isName, lkX11_214⟩ one_11 rfl rfl (Nat.le_of_ble_eq_true rfl) (by unfold rmOK; decide) dX11_readRule_84 87 rfl (fun r1 _ => ?_)
    refine z_if_eq C dX11_readRule_87 125 (by decide) 90 rfl rfl (fun _ => ?_) (fun _ => ?_)
    · exact pX11_readRule_L125 C R hR F σ
    · refine z_aload_n C 0 rfl 0 rfl dX11_readRule_90 91 rfl ?_
      refine y_callVv C hR (tX11_next (mL X) G F σ) ⟨mwX11_next, mvX11_next, lkX11_204⟩ one_11 rfl rfl (Nat.le_of_ble_eq_true rfl) (by unfold rmOK; decide) dX11_readRule_91 94 rfl (fun r2 _ => ?_)
      refine z_aload_n C 0 rfl 0 rfl dX11_readRule_94 95 rfl ?_
      refine y_callVv C hR (tX11_test (mL X) G F r2) ⟨mwX11_test, mvX11_test, lkX11_220⟩ one_11 rfl rfl (Nat.le_of_ble_eq_true rfl) (by unfold rmOK; decide) dX11_readRule_95 98 rfl (fun r3 _ => ?_)
      exact pX11_readRule_L98 C R hR F F r3
set_option maxRecDepth 100000 in
set_option maxHeartbeats 4000000 in
theorem pX11_readRule_L40 {X : MX} {G : GG} (C : CX X G 1 cX11_readRule RX11) (R : RT X none) (hR : mR X = rmX11_readRule) (F : Nat)  : ∀ (n : Nat)  (σ : St), ZZ X G 1 (QM X G vzV wzV (0, 0)) (0, 0) (gX11_readRule_L40 F n σ) (w0 σ) 40 [(0, vr G 143)] [] := by
  intro n
  induction n with
  | zero =>
    intro _
    exact z_none
  | succ n ih =>
    intro σ
    show ZZ X G 1 (QM X G vzV wzV (0, 0)) (0, 0) (if w32 (σ 143 10) ≠ 0 then gX11_readRule_L74 F σ else (gX11_isSign σ 44).bind fun r1 => if w32 r1 = 0 then gX11_readRule_L74 F σ else (gX11_next F σ).bind fun r2 => if w32 (r2 143 10) ≠ 0 then gX11_readRule_L40 F n r2 else (gX11_key F r2).bind fun r3 => gX11_readRule_L40 F n r3) (w0 σ) 40 [(0, vr G 143)] []
    refine z_aload_n C 0 rfl 0 rfl dX11_readRule_40 41 rfl ?_
    refine y_getI C fX11_164 one_11 dX11_readRule_41 44 rfl ?_
    refine z_if_ne C dX11_readRule_44 74 (by decide) 47 rfl rfl (fun _ => ?_) (fun _ => ?_)
    · exact pX11_readRule_L74 C R hR F σ
    · refine z_aload_n C 0 rfl 0 rfl dX11_readRule_47 48 rfl ?_
      refine z_bipush C (by decide) dX11_readRule_48 50 rfl ?_
      refine y_callVI C hR (tX11_isSign (mL X) G σ 44) ⟨mwX11_isSign, mvX11_isSign, lkX11_201⟩ one_11 rfl rfl (Nat.le_of_ble_eq_true rfl) (by unfold rmOK; decide) dX11_readRule_50 53 rfl (fun r1 _ => ?_)
      refine z_if_eq C dX11_readRule_53 74 (by decide) 56 rfl rfl (fun _ => ?_) (fun _ => ?_)
      · exact pX11_readRule_L74 C R hR F σ
      · refine z_aload_n C 0 rfl 0 rfl dX11_readRule_56 57 rfl ?_
        refine y_callVv C hR (tX11_next (mL X) G F σ) ⟨mwX11_next, mvX11_next, lkX11_204⟩ one_11 rfl rfl (Nat.le_of_ble_eq_true rfl) (by unfold rmOK; decide) dX11_readRule_57 60 rfl (fun r2 _ => ?_)
        refine z_aload_n C 0 rfl 0 rfl dX11_readRule_60 61 rfl ?_
        refine y_getI C fX11_164 one_11 dX11_readRule_61 64 rfl ?_
        refine z_if_ne C dX11_readRule_64 40 (by decide) 67 rfl rfl (fun _ => ?_) (fun _ => ?_)
        · exact ih r2
        · refine z_aload_n C 0 rfl 0 rfl dX11_readRule_67 68 rfl ?_
          refine y_callVv C hR (tX11_key (mL X) G F r2) ⟨mwX11_key, mvX11_key, lkX11_217⟩ one_11 rfl rfl (Nat.le_of_ble_eq_true rfl) (by unfold rmOK; decide) dX11_readRule_68 71 rfl (fun r3 _ => ?_)
          refine z_goto C dX11_readRule_71 40 (by decide) ?_
          exact ih r3
set_option maxRecDepth 100000 in
set_option maxHeartbeats 4000000 in
theorem pX11_readRule_L25 {X : MX} {G : GG} (C : CX X G 1 cX11_readRule RX11) (R : RT X none) (hR : mR X = rmX11_readRule) (F : Nat)  : ∀ (σ : St), ZZ X G 1 (QM X G vzV wzV (0, 0)) (0, 0) (gX11_readRule_L25 F σ) (w0 σ) 25 [(0, vr G 143)] [] := by
  intro σ
  show ZZ X G 1 (QM X G vzV wzV (0, 0)) (0, 0) ((gX11_next F σ).bind fun r1 => if w32 (r1 143 10) ≠ 0 then gX11_readRule_L40 F F r1 else (gX11_key F r1).bind fun r2 => gX11_readRule_L40 F F r2) (w0 σ) 25 [(0, vr G 143)] []
  refine z_aload_n C 0 rfl 0 rfl dX11_readRule_25 26 rfl ?_
  refine y_callVv C hR (tX11_next (mL X) G F σ) ⟨mwX11_next, mvX11_next, lkX11_204⟩ one_11 rfl rfl (Nat.le_of_ble_eq_true rfl) (by unfold rmOK; decide) dX11_readRule_26 29 rfl (fun r1 _ => ?_)
  refine z_aload_n C 0 rfl 0 rfl dX11_readRule_29 30 rfl ?_
  refine y_getI C fX11_164 one_11 dX11_readRule_30 33 rfl ?_
  refine z_if_ne C dX11_readRule_33 40 (by decide) 36 rfl rfl (fun _ => ?_) (fun _ => ?_)
  · exact pX11_readRule_L40 C R hR F F r1
  · refine z_aload_n C 0 rfl 0 rfl dX11_readRule_36 37 rfl ?_
    refine y_callVv C hR (tX11_key (mL X) G F r1) ⟨mwX11_key, mvX11_key, lkX11_217⟩ one_11 rfl rfl (Nat.le_of_ble_eq_true rfl) (by unfold rmOK; decide) dX11_readRule_37 40 rfl (fun r2 _ => ?_)
    exact pX11_readRule_L40 C R hR F F r2
set_option maxRecDepth 100000 in
set_option maxHeartbeats 4000000 in
theorem tX11_readRule (l : Launch) (G : GG) (F : Nat) (σ : St) : Ctr l G yX11_readRule cX11_readRule 1 none rmX11_readRule [vr G 143] (w0 σ) vzV wzV (gX11_readRule F σ) := by
  refine ctr_of (by decide) (Nat.le_of_ble_eq_true rfl) mwX11_readRule.1 (fun X hl hR C R hnm => ?_)
  subst hl
  refine z_lv (lv' := [(0, vr G 143)]) [0] rfl ?_
  show ZZ X G 1 (QM X G vzV wzV (0, 0)) (0, 0) ((gX11_next F σ).bind fun r1 => if w32 (r1 143 10) ≠ 0 then gX11_readRule_L25 F r1 else (gX11_isName r1 6).bind fun r2 => if w32 r2 ≠ 0 then gX11_readRule_L25 F r1 else (gX11_fails r1 2).bind fun r3 => gX11_readRule_L25 F r3) (w0 σ) 0 [(0, vr G 143)] []
  refine z_aload_n C 0 rfl 0 rfl dX11_readRule_0 1 rfl ?_
  refine y_callVv C hR (tX11_next (mL X) G F σ) ⟨mwX11_next, mvX11_next, lkX11_204⟩ one_11 rfl rfl (Nat.le_of_ble_eq_true rfl) (by unfold rmOK; decide) dX11_readRule_1 4 rfl (fun r1 _ => ?_)
  refine z_aload_n C 0 rfl 0 rfl dX11_readRule_4 5 rfl ?_
  refine y_getI C fX11_164 one_11 dX11_readRule_5 8 rfl ?_
  refine z_if_ne C dX11_readRule_8 25 (by decide) 11 rfl rfl (fun _ => ?_) (fun _ => ?_)
  · exact pX11_readRule_L25 C R hR F r1
  · refine z_aload_n C 0 rfl 0 rfl dX11_readRule_11 12 rfl ?_
    refine z_bipush C (by decide) dX11_readRule_12 14 rfl ?_
    refine y_callVI C hR (tX11_isName (mL X) G r1 6) ⟨mwX11_isName, mvX11_isName, lkX11_214⟩ one_11 rfl rfl (Nat.le_of_ble_eq_true rfl) (by unfold rmOK; decide) dX11_readRule_14 17 rfl (fun r2 _ => ?_)
    refine z_if_ne C dX11_readRule_17 25 (by decide) 20 rfl rfl (fun _ => ?_) (fun _ => ?_)
    · exact pX11_readRule_L25 C R hR F r1
    · refine z_aload_n C 0 rfl 0 rfl dX11_readRule_20 21 rfl ?_
      refine z_iconst C dX11_readRule_21 22 rfl ?_
      refine y_callVv C hR (tX11_fails (mL X) G r1 2) ⟨mwX11_fails, mvX11_fails, lkX11_193⟩ one_11 rfl rfl (Nat.le_of_ble_eq_true rfl) (by unfold rmOK; decide) dX11_readRule_22 25 rfl (fun r3 _ => ?_)
      exact pX11_readRule_L25 C R hR F r3
-- rule
def gX11_rule (F : Nat) (σ : St) : Option (Int × St) := if w32 (σ 143 16) ≠ 6 then gd (0 ≤ w32 ((up (up σ 143 10 0) 143 12 0) 143 16) ∧ w32 ((up (up σ 143 10 0) 143 12 0) 143 16) < 6) (gd (0 ≤ w32 ((up (up (up σ 143 10 0) 143 12 0) 150 (w32 ((up (up σ 143 10 0) 143 12 0) 143 16)) 0) 143 16) ∧ w32 ((up (up (up σ 143 10 0) 143 12 0) 150 (w32 ((up (up σ 143 10 0) 143 12 0) 143 16)) 0) 143 16) < 6) (gd (0 ≤ w32 ((up (up (up (up σ 143 10 0) 143 12 0) 150 (w32 ((up (up σ 143 10 0) 143 12 0) 143 16)) 0) 152 (w32 ((up (up (up σ 143 10 0) 143 12 0) 150 (w32 ((up (up σ 143 10 0) 143 12 0) 143 16)) 0) 143 16)) 0) 143 16) ∧ w32 ((up (up (up (up σ 143 10 0) 143 12 0) 150 (w32 ((up (up σ 143 10 0) 143 12 0) 143 16)) 0) 152 (w32 ((up (up (up σ 143 10 0) 143 12 0) 150 (w32 ((up (up σ 143 10 0) 143 12 0) 143 16)) 0) 143 16)) 0) 143 16) < 6) ((gX11_readRule F (up (up (up (up (up σ 143 10 0) 143 12 0) 150 (w32 ((up (up σ 143 10 0) 143 12 0) 143 16)) 0) 152 (w32 ((up (up (up σ 143 10 0) 143 12 0) 150 (w32 ((up (up σ 143 10 0) 143 12 0) 143 16)) 0) 143 16)) 0) 156 (w32 ((up (up (up (up σ 143 10 0) 143 12 0) 150 (w32 ((up (up σ 143 10 0) 143 12 0) 143 16)) 0) 152 (w32 ((up (up (up σ 143 10 0) 143 12 0) 150 (w32 ((up (up σ 143 10 0) 143 12 0) 143 16)) 0) 143 16)) 0) 143 16)) 0)).bind fun r1 => if w32 ((up (up r1 143 8 0) 143 9 ((up r1 143 8 0) 143 10)) 143 10) ≤ 0 then some (((up (up (up r1 143 8 0) 143 9 ((up r1 143 8 0) 143 10)) 143 16 (((up (up r1 143 8 0) 143 9 ((up r1 143 8 0) 143 10)) 143 16) + 1)) 143 16) - 1, up (up (up r1 143 8 0) 143 9 ((up r1 143 8 0) 143 10)) 143 16 (((up (up r1 143 8 0) 143 9 ((up r1 143 8 0) 143 10)) 143 16) + 1)) else some (((-10)) - ((up (up r1 143 8 0) 143 9 ((up r1 143 8 0) 143 10)) 143 11), up (up r1 143 8 0) 143 9 ((up r1 143 8 0) 143 10))))) else some ((-3), σ)
def rmX11_rule : Room := { frames := 5, cells := 0, slots := 0, locals := 109 }
set_option maxRecDepth 100000 in
set_option maxHeartbeats 4000000 in
theorem tX11_rule (l : Launch) (G : GG) (F : Nat) (σ : St) : Ctr l G yX11_rule cX11_rule 1 (some .int) rmX11_rule [vr G 143] (w0 σ) vzIw wzW (gX11_rule F σ) := by
  refine ctr_of (by decide) (Nat.le_of_ble_eq_true rfl) mwX11_rule.1 (fun X hl hR C R hnm => ?_)
  subst hl
  refine z_lv (lv' := [(0, vr G 143)]) [0] rfl ?_
  show ZZ X G 1 (QM X G vzIw wzW (0, 0)) (0, 0) (if w32 (σ 143 16) ≠ 6 then gd (0 ≤ w32 ((up (up σ 143 10 0) 143 12 0) 143 16) ∧ w32 ((up (up σ 143 10 0) 143 12 0) 143 16) < 6) (gd (0 ≤ w32 ((up (up (up σ 143 10 0) 143 12 0) 150 (w32 ((up (up σ 143 10 0) 143 12 0) 143 16)) 0) 143 16) ∧ w32 ((up (up (up σ 143 10 0) 143 12 0) 150 (w32 ((up (up σ 143 10 0) 143 12 0) 143 16)) 0) 143 16) < 6) (gd (0 ≤ w32 ((up (up (up (up σ 143 10 0) 143 12 0) 150 (w32 ((up (up σ 143 10 0) 143 12 0) 143 16)) 0) 152 (w32 ((up (up (up σ 143 10 0) 143 12 0) 150 (w32 ((up (up σ 143 10 0) 143 12 0) 143 16)) 0) 143 16)) 0) 143 16) ∧ w32 ((up (up (up (up σ 143 10 0) 143 12 0) 150 (w32 ((up (up σ 143 10 0) 143 12 0) 143 16)) 0) 152 (w32 ((up (up (up σ 143 10 0) 143 12 0) 150 (w32 ((up (up σ 143 10 0) 143 12 0) 143 16)) 0) 143 16)) 0) 143 16) < 6) ((gX11_readRule F (up (up (up (up (up σ 143 10 0) 143 12 0) 150 (w32 ((up (up σ 143 10 0) 143 12 0) 143 16)) 0) 152 (w32 ((up (up (up σ 143 10 0) 143 12 0) 150 (w32 ((up (up σ 143 10 0) 143 12 0) 143 16)) 0) 143 16)) 0) 156 (w32 ((up (up (up (up σ 143 10 0) 143 12 0) 150 (w32 ((up (up σ 143 10 0) 143 12 0) 143 16)) 0) 152 (w32 ((up (up (up σ 143 10 0) 143 12 0) 150 (w32 ((up (up σ 143 10 0) 143 12 0) 143 16)) 0) 143 16)) 0) 143 16)) 0)).bind fun r1 => if w32 ((up (up r1 143 8 0) 143 9 ((up r1 143 8 0) 143 10)) 143 10) ≤ 0 then some (((up (up (up r1 143 8 0) 143 9 ((up r1 143 8 0) 143 10)) 143 16 (((up (up r1 143 8 0) 143 9 ((up r1 143 8 0) 143 10)) 143 16) + 1)) 143 16) - 1, up (up (up r1 143 8 0) 143 9 ((up r1 143 8 0) 143 10)) 143 16 (((up (up r1 143 8 0) 143 9 ((up r1 143 8 0) 143 10)) 143 16) + 1)) else some (((-10)) - ((up (up r1 143 8 0) 143 9 ((up r1 143 8 0) 143 10)) 143 11), up (up r1 143 8 0) 143 9 ((up r1 143 8 0) 143 10))))) else some ((-3), σ)) (w0 σ) 0 [(0, vr G 143)] []
  refine z_aload_n C 0 rfl 0 rfl dX11_rule_0 1 rfl ?_
  refine y_getI C fX11_211 one_11 dX11_rule_1 4 rfl ?_
  refine z_bipush C (by decide) dX11_rule_4 6 rfl ?_
  refine z_icmp_ne C dX11_rule_6 12 (by decide) 9 rfl rfl (w32_id (a := 6) (by decide)) (fun _ => ?_) (fun _ => ?_)
  · refine z_aload_n C 0 rfl 0 rfl dX11_rule_12 13 rfl ?_
    refine z_iconst C dX11_rule_13 14 rfl ?_
    refine y_putI C fX11_164 one_11 ⟨rfl, rfl⟩ dX11_rule_14 17 rfl ?_
    refine z_aload_n C 0 rfl 0 rfl dX11_rule_17 18 rfl ?_
    refine z_iconst C dX11_rule_18 19 rfl ?_
    refine y_putI C fX11_176 one_11 ⟨rfl, rfl⟩ dX11_rule_19 22 rfl ?_
    refine z_aload_n C 0 rfl 0 rfl dX11_rule_22 23 rfl ?_
    refine y_getR C fX11_28 one_11 lay_11_17 dX11_rule_23 26 rfl ?_
    refine z_aload_n C 0 rfl 0 rfl dX11_rule_26 27 rfl ?_
    refine y_getI C fX11_211 one_11 dX11_rule_27 30 rfl ?_
    refine z_iconst C dX11_rule_30 31 rfl ?_
    refine y_iast C lay_11_17.2 rfl dX11_rule_31 32 rfl rfl (fun _ => ?_)
    refine z_aload_n C 0 rfl 0 rfl dX11_rule_32 33 rfl ?_
    refine y_getR C fX11_34 one_11 lay_11_19 dX11_rule_33 36 rfl ?_
    refine z_aload_n C 0 rfl 0 rfl dX11_rule_36 37 rfl ?_
    refine y_getI C fX11_211 one_11 dX11_rule_37 40 rfl ?_
    refine z_iconst C dX11_rule_40 41 rfl ?_
    refine y_iast C lay_11_19.2 rfl dX11_rule_41 42 rfl rfl (fun _ => ?_)
    refine z_aload_n C 0 rfl 0 rfl dX11_rule_42 43 rfl ?_
    refine y_getR C fX11_46 one_11 lay_11_23 dX11_rule_43 46 rfl ?_
    refine z_aload_n C 0 rfl 0 rfl dX11_rule_46 47 rfl ?_
    refine y_getI C fX11_211 one_11 dX11_rule_47 50 rfl ?_
    refine z_iconst C dX11_rule_50 51 rfl ?_
    refine y_iast C lay_11_23.2 rfl dX11_rule_51 52 rfl rfl (fun _ => ?_)
    refine z_aload_n C 0 rfl 0 rfl dX11_rule_52 53 rfl ?_
    refine y_callVv C hR (tX11_readRule (mL X) G F (up (up (up (up (up σ 143 10 0) 143 12 0) 150 (w32 ((up (up σ 143 10 0) 143 12 0) 143 16)) 0) 152 (w32 ((up (up (up σ 143 10 0) 143 12 0) 150 (w32 ((up (up σ 143 10 0) 143 12 0) 143 16)) 0) 143 16)) 0) 156 (w32 ((up (up (up (up σ 143 10 0) 143 12 0) 150 (w32 ((up (up σ 143 10 0) 143 12 0) 143 16)) 0) 152 (w32 ((up (up (up σ 143 10 0) 143 12 0) 150 (w32 ((up (up σ 143 10 0) 143 12 0) 143 16)) 0) 143 16)) 0) 143 16)) 0)) ⟨mwX11_readRule, mvX11_readRule, lkX11_223⟩ one_11 rfl rfl (Nat.le_of_ble_eq_true rfl) (by unfold rmOK; decide) dX11_rule_53 56 rfl (fun r1 _ => ?_)
    refine z_aload_n C 0 rfl 0 rfl dX11_rule_56 57 rfl ?_
    refine z_iconst C dX11_rule_57 58 rfl ?_
    refine y_putI C fX11_161 one_11 ⟨rfl, rfl⟩ dX11_rule_58 61 rfl ?_
    refine z_aload_n C 0 rfl 0 rfl dX11_rule_61 62 rfl ?_
    refine z_aload_n C 0 rfl 0 rfl dX11_rule_62 63 rfl ?_
    refine y_getI C fX11_164 one_11 dX11_rule_63 66 rfl ?_
    refine y_putI C fX11_226 one_11 ⟨rfl, rfl⟩ dX11_rule_66 69 rfl ?_
    refine z_aload_n C 0 rfl 0 rfl dX11_rule_69 70 rfl ?_
    refine y_getI C fX11_164 one_11 dX11_rule_70 73 rfl ?_
    refine z_if_le C dX11_rule_73 84 (by decide) 76 rfl rfl (fun _ => ?_) (fun _ => ?_)
    · refine z_aload_n C 0 rfl 0 rfl dX11_rule_84 85 rfl ?_
      refine z_dup C rfl dX11_rule_85 86 rfl ?_
      refine y_getI C fX11_211 one_11 dX11_rule_86 89 rfl ?_
      refine z_iconst C dX11_rule_89 90 rfl ?_
      refine z_iadd C dX11_rule_90 91 rfl ?_
      refine y_putI C fX11_211 one_11 ⟨rfl, rfl⟩ dX11_rule_91 94 rfl ?_
      refine z_aload_n C 0 rfl 0 rfl dX11_rule_94 95 rfl ?_
      refine y_getI C fX11_211 one_11 dX11_rule_95 98 rfl ?_
      refine z_iconst C dX11_rule_98 99 rfl ?_
      refine z_isub C dX11_rule_99 100 rfl ?_
      exact z_iret C R rfl rfl dX11_rule_100
    · refine z_bipush C (by decide) dX11_rule_76 78 rfl ?_
      refine z_aload_n C 0 rfl 0 rfl dX11_rule_78 79 rfl ?_
      refine y_getI C fX11_170 one_11 dX11_rule_79 82 rfl ?_
      refine z_isub C dX11_rule_82 83 rfl ?_
      exact z_iret C R rfl rfl dX11_rule_83
  · refine z_bipush C (by decide) dX11_rule_9 11 rfl ?_
    exact z_iret C R rfl rfl dX11_rule_11
-- fault
def gX11_fault (σ : St) : Option (Int) := some (σ 143 9)
def rmX11_fault : Room := { frames := 0, cells := 0, slots := 0, locals := 0 }
set_option maxRecDepth 100000 in
set_option maxHeartbeats 4000000 in
theorem tX11_fault (l : Launch) (G : GG) (σ : St) : Ctr l G yX11_fault cX11_fault 1 (some .int) rmX11_fault [vr G 143] (w0 σ) vzI (wzR σ) (gX11_fault σ) := by
  refine ctr_of (by decide) (Nat.le_of_ble_eq_true rfl) mwX11_fault.1 (fun X hl hR C R hnm => ?_)
  subst hl
  refine z_lv (lv' := [(0, vr G 143)]) [0] rfl ?_
  show ZZ X G 1 (QM X G vzI (wzR σ) (0, 0)) (0, 0) (some (σ 143 9)) (w0 σ) 0 [(0, vr G 143)] []
  refine z_aload_n C 0 rfl 0 rfl dX11_fault_0 1 rfl ?_
  refine y_getI C fX11_226 one_11 dX11_fault_1 4 rfl ?_
  exact z_iret C R rfl rfl dX11_fault_4
-- isRule
def gX11_isRule (σ : St) (x1 : Int) : Option (Int) := (gX11_in σ (w32 x1) 0 (w32 ((σ 143 16) - 1))).bind fun r1 => some (b1 r1)
def rmX11_isRule : Room := { frames := 1, cells := 0, slots := 0, locals := 25 }
set_option maxRecDepth 100000 in
set_option maxHeartbeats 4000000 in
theorem tX11_isRule (l : Launch) (G : GG) (σ : St) (x1 : Int) : Ctr l G yX11_isRule cX11_isRule 2 (some .boolean) rmX11_isRule [vr G 143, vi x1] (w0 σ) vzI (wzR σ) (gX11_isRule σ x1) := by
  refine ctr_of (by decide) (Nat.le_of_ble_eq_true rfl) mwX11_isRule.1 (fun X hl hR C R hnm => ?_)
  subst hl
  refine z_lv (lv' := [(0, vr G 143), (1, vi x1)]) [0, 1] rfl ?_
  show ZZ X G 2 (QM X G vzI (wzR σ) (0, 0)) (0, 0) ((gX11_in σ (w32 x1) 0 (w32 ((σ 143 16) - 1))).bind fun r1 => some (b1 r1)) (w0 σ) 0 [(0, vr G 143), (1, vi x1)] []
  refine z_iload_n C 1 rfl 1 rfl dX11_isRule_0 1 rfl ?_
  refine z_i2l C dX11_isRule_1 2 rfl ?_
  refine z_lconst (v := 0) C (by decide) dX11_isRule_2 3 rfl ?_
  refine z_aload_n C 0 rfl 0 rfl dX11_isRule_3 4 rfl ?_
  refine y_getI C fX11_211 one_11 dX11_isRule_4 7 rfl ?_
  refine z_iconst C dX11_isRule_7 8 rfl ?_
  refine z_isub C dX11_isRule_8 9 rfl ?_
  refine z_i2l C dX11_isRule_9 10 rfl ?_
  refine y_callSI C hR (tX11_in (mL X) G σ (w32 x1) 0 (w32 ((σ 143 16) - 1))) ⟨mwX11_in, msX11_in, lkX11_126⟩ rfl rfl (Nat.le_of_ble_eq_true rfl) (by unfold rmOK; decide) dX11_isRule_10 13 rfl (fun r1 _ => ?_)
  exact z_zretb C R rfl rfl dX11_isRule_13
-- ruleOf
def gX11_ruleOf (σ : St) (x1 : Int) (x2 : Int) : Option (Int) := (gX11_isRule σ x1).bind fun r1 => if w32 r1 ≠ 0 then gd (0 ≤ w32 x1 ∧ w32 x1 < 6) ((gX11_in σ (w32 x2) 10 (w32 (9 + (σ 150 (w32 x1))))).bind fun r2 => if w32 r2 = 0 then if w32 x2 ≠ 0 then if w32 x2 ≠ 1 then if w32 x2 ≠ 2 then some ((-1)) else gd (0 ≤ w32 x1 ∧ w32 x1 < 6) (some (σ 156 (w32 x1))) else gd (0 ≤ w32 x1 ∧ w32 x1 < 6) (some (σ 152 (w32 x1))) else gd (0 ≤ w32 x1 ∧ w32 x1 < 6) (some (σ 150 (w32 x1))) else gd (0 ≤ w32 (((6 * x1) + x2) - 10) ∧ w32 (((6 * x1) + x2) - 10) < 36) (some (σ 151 (w32 (((6 * x1) + x2) - 10))))) else some ((-1))
def rmX11_ruleOf : Room := { frames := 2, cells := 0, slots := 0, locals := 46 }
set_option maxRecDepth 100000 in
set_option maxHeartbeats 4000000 in
theorem tX11_ruleOf (l : Launch) (G : GG) (σ : St) (x1 : Int) (x2 : Int) : Ctr l G yX11_ruleOf cX11_ruleOf 3 (some .int) rmX11_ruleOf [vr G 143, vi x1, vi x2] (w0 σ) vzI (wzR σ) (gX11_ruleOf σ x1 x2) := by
  refine ctr_of (by decide) (Nat.le_of_ble_eq_true rfl) mwX11_ruleOf.1 (fun X hl hR C R hnm => ?_)
  subst hl
  refine z_lv (lv' := [(0, vr G 143), (1, vi x1), (2, vi x2)]) [0, 1, 2] rfl ?_
  show ZZ X G 3 (QM X G vzI (wzR σ) (0, 0)) (0, 0) ((gX11_isRule σ x1).bind fun r1 => if w32 r1 ≠ 0 then gd (0 ≤ w32 x1 ∧ w32 x1 < 6) ((gX11_in σ (w32 x2) 10 (w32 (9 + (σ 150 (w32 x1))))).bind fun r2 => if w32 r2 = 0 then if w32 x2 ≠ 0 then if w32 x2 ≠ 1 then if w32 x2 ≠ 2 then some ((-1)) else gd (0 ≤ w32 x1 ∧ w32 x1 < 6) (some (σ 156 (w32 x1))) else gd (0 ≤ w32 x1 ∧ w32 x1 < 6) (some (σ 152 (w32 x1))) else gd (0 ≤ w32 x1 ∧ w32 x1 < 6) (some (σ 150 (w32 x1))) else gd (0 ≤ w32 (((6 * x1) + x2) - 10) ∧ w32 (((6 * x1) + x2) - 10) < 36) (some (σ 151 (w32 (((6 * x1) + x2) - 10))))) else some ((-1))) (w0 σ) 0 [(0, vr G 143), (1, vi x1), (2, vi x2)] []
  refine z_aload_n C 0 rfl 0 rfl dX11_ruleOf_0 1 rfl ?_
  refine z_iload_n C 1 rfl 1 rfl dX11_ruleOf_1 2 rfl ?_
  refine y_callVI C hR (tX11_isRule (mL X) G σ x1) ⟨mwX11_isRule, mvX11_isRule, lkX11_229⟩ one_11 rfl rfl (Nat.le_of_ble_eq_true rfl) (by unfold rmOK; decide) dX11_ruleOf_2 5 rfl (fun r1 _ => ?_)
  refine z_if_ne C dX11_ruleOf_5 10 (by decide) 8 rfl rfl (fun _ => ?_) (fun _ => ?_)
  · refine z_iload_n C 2 rfl 2 rfl dX11_ruleOf_10 11 rfl ?_
    refine z_i2l C dX11_ruleOf_11 12 rfl ?_
    refine z_ldc2 (v := 10) C clX11_232 (by decide) dX11_ruleOf_12 15 rfl ?_
    refine z_bipush C (by decide) dX11_ruleOf_15 17 rfl ?_
    refine z_aload_n C 0 rfl 0 rfl dX11_ruleOf_17 18 rfl ?_
    refine y_getR C fX11_28 one_11 lay_11_17 dX11_ruleOf_18 21 rfl ?_
    refine z_iload_n C 1 rfl 1 rfl dX11_ruleOf_21 22 rfl ?_
    refine y_iald C lay_11_17.2 rfl dX11_ruleOf_22 23 rfl rfl (fun _ => ?_)
    refine z_iadd C dX11_ruleOf_23 24 rfl ?_
    refine z_i2l C dX11_ruleOf_24 25 rfl ?_
    refine y_callSI C hR (tX11_in (mL X) G σ (w32 x2) 10 (w32 (9 + (σ 150 (w32 x1))))) ⟨mwX11_in, msX11_in, lkX11_126⟩ rfl rfl (Nat.le_of_ble_eq_true rfl) (by unfold rmOK; decide) dX11_ruleOf_25 28 rfl (fun r2 _ => ?_)
    refine z_if_eq C dX11_ruleOf_28 46 (by decide) 31 rfl rfl (fun _ => ?_) (fun _ => ?_)
    · refine z_iload_n C 2 rfl 2 rfl dX11_ruleOf_46 47 rfl ?_
      refine z_if_ne C dX11_ruleOf_47 59 (by decide) 50 rfl rfl (fun _ => ?_) (fun _ => ?_)
      · refine z_iload_n C 2 rfl 2 rfl dX11_ruleOf_59 60 rfl ?_
        refine z_iconst C dX11_ruleOf_60 61 rfl ?_
        refine z_icmp_ne C dX11_ruleOf_61 73 (by decide) 64 rfl rfl (w32_id (a := 1) (by decide)) (fun _ => ?_) (fun _ => ?_)
        · refine z_iload_n C 2 rfl 2 rfl dX11_ruleOf_73 74 rfl ?_
          refine z_iconst C dX11_ruleOf_74 75 rfl ?_
          refine z_icmp_ne C dX11_ruleOf_75 87 (by decide) 78 rfl rfl (w32_id (a := 2) (by decide)) (fun _ => ?_) (fun _ => ?_)
          · refine z_iconst C dX11_ruleOf_87 88 rfl ?_
            exact z_iret C R rfl rfl dX11_ruleOf_88
          · refine z_aload_n C 0 rfl 0 rfl dX11_ruleOf_78 79 rfl ?_
            refine y_getR C fX11_46 one_11 lay_11_23 dX11_ruleOf_79 82 rfl ?_
            refine z_iload_n C 1 rfl 1 rfl dX11_ruleOf_82 83 rfl ?_
            refine y_iald C lay_11_23.2 rfl dX11_ruleOf_83 84 rfl rfl (fun _ => ?_)
            refine z_goto C dX11_ruleOf_84 88 (by decide) ?_
            exact z_iret C R rfl rfl dX11_ruleOf_88
        · refine z_aload_n C 0 rfl 0 rfl dX11_ruleOf_64 65 rfl ?_
          refine y_getR C fX11_34 one_11 lay_11_19 dX11_ruleOf_65 68 rfl ?_
          refine z_iload_n C 1 rfl 1 rfl dX11_ruleOf_68 69 rfl ?_
          refine y_iald C lay_11_19.2 rfl dX11_ruleOf_69 70 rfl rfl (fun _ => ?_)
          refine z_goto C dX11_ruleOf_70 88 (by decide) ?_
          exact z_iret C R rfl rfl dX11_ruleOf_88
      · refine z_aload_n C 0 rfl 0 rfl dX11_ruleOf_50 51 rfl ?_
        refine y_getR C fX11_28 one_11 lay_11_17 dX11_ruleOf_51 54 rfl ?_
        refine z_iload_n C 1 rfl 1 rfl dX11_ruleOf_54 55 rfl ?_
        refine y_iald C lay_11_17.2 rfl dX11_ruleOf_55 56 rfl rfl (fun _ => ?_)
        refine z_goto C dX11_ruleOf_56 88 (by decide) ?_
        exact z_iret C R rfl rfl dX11_ruleOf_88
    · refine z_aload_n C 0 rfl 0 rfl dX11_ruleOf_31 32 rfl ?_
      refine y_getR C fX11_31 one_11 lay_11_18 dX11_ruleOf_32 35 rfl ?_
      refine z_bipush C (by decide) dX11_ruleOf_35 37 rfl ?_
      refine z_iload_n C 1 rfl 1 rfl dX11_ruleOf_37 38 rfl ?_
      refine z_imul C dX11_ruleOf_38 39 rfl ?_
      refine z_iload_n C 2 rfl 2 rfl dX11_ruleOf_39 40 rfl ?_
      refine z_iadd C dX11_ruleOf_40 41 rfl ?_
      refine z_bipush C (by decide) dX11_ruleOf_41 43 rfl ?_
      refine z_isub C dX11_ruleOf_43 44 rfl ?_
      refine y_iald C lay_11_18.2 rfl dX11_ruleOf_44 45 rfl rfl (fun _ => ?_)
      exact z_iret C R rfl rfl dX11_ruleOf_45
  · refine z_iconst C dX11_ruleOf_8 9 rfl ?_
    exact z_iret C R rfl rfl dX11_ruleOf_9
-- fresh
def gX11_fresh_L23 (F : Nat) : Nat → Int → St → Option (St)
  | 0, _, _ => none
  | n + 1, x1, σ => if w32 x1 ≥ 9 then some (up (up σ 143 35 0) 143 36 0) else gd (0 ≤ w32 x1 ∧ w32 x1 < 9) (gd (0 ≤ w32 x1 ∧ w32 x1 < 9) (gX11_fresh_L23 F n (x1 + 1) (up (up σ 164 (w32 x1) ((-4))) 165 (w32 x1) 0)))
def gX11_fresh_L2 (F : Nat) : Nat → Int → St → Option (St)
  | 0, _, _ => none
  | n + 1, x1, σ => if w32 x1 ≥ 6 then gX11_fresh_L23 F F 0 σ else gd (0 ≤ w32 x1 ∧ w32 x1 < 6) (gX11_fresh_L2 F n (x1 + 1) (up σ 163 (w32 x1) 0))
def gX11_fresh (F : Nat) (σ : St) : Option (St) := gX11_fresh_L2 F F 0 σ
def rmX11_fresh : Room := { frames := 0, cells := 0, slots := 0, locals := 0 }
set_option maxRecDepth 100000 in
set_option maxHeartbeats 4000000 in
theorem pX11_fresh_L23 {X : MX} {G : GG} (C : CX X G 2 cX11_fresh RX11) (R : RT X none) (hR : mR X = rmX11_fresh) (F : Nat)  : ∀ (n : Nat) (x1 : Int) (σ : St), ZZ X G 2 (QM X G vzV wzV (0, 0)) (0, 0) (gX11_fresh_L23 F n x1 σ) (w0 σ) 23 [(0, vr G 143), (1, vi x1)] [] := by
  intro n
  induction n with
  | zero =>
    intro _ _
    exact z_none
  | succ n ih =>
    intro x1 σ
    show ZZ X G 2 (QM X G vzV wzV (0, 0)) (0, 0) (if w32 x1 ≥ 9 then some (up (up σ 143 35 0) 143 36 0) else gd (0 ≤ w32 x1 ∧ w32 x1 < 9) (gd (0 ≤ w32 x1 ∧ w32 x1 < 9) (gX11_fresh_L23 F n (x1 + 1) (up (up σ 164 (w32 x1) ((-4))) 165 (w32 x1) 0)))) (w0 σ) 23 [(0, vr G 143), (1, vi x1)] []
    refine z_iload_n C 1 rfl 1 rfl dX11_fresh_23 24 rfl ?_
    refine z_bipush C (by decide) dX11_fresh_24 26 rfl ?_
    refine z_icmp_ge C dX11_fresh_26 50 (by decide) 29 rfl rfl (w32_id (a := 9) (by decide)) (fun _ => ?_) (fun _ => ?_)
    · refine z_aload_n C 0 rfl 0 rfl dX11_fresh_50 51 rfl ?_
      refine z_iconst C dX11_fresh_51 52 rfl ?_
      refine y_putI C fX11_234 one_11 ⟨rfl, rfl⟩ dX11_fresh_52 55 rfl ?_
      refine z_aload_n C 0 rfl 0 rfl dX11_fresh_55 56 rfl ?_
      refine z_iconst C dX11_fresh_56 57 rfl ?_
      refine y_putI C fX11_237 one_11 ⟨rfl, rfl⟩ dX11_fresh_57 60 rfl ?_
      exact z_vret C R rfl rfl dX11_fresh_60
    · refine z_aload_n C 0 rfl 0 rfl dX11_fresh_29 30 rfl ?_
      refine y_getR C fX11_70 one_11 lay_11_33 dX11_fresh_30 33 rfl ?_
      refine z_iload_n C 1 rfl 1 rfl dX11_fresh_33 34 rfl ?_
      refine z_bipush C (by decide) dX11_fresh_34 36 rfl ?_
      refine y_iast C lay_11_33.2 rfl dX11_fresh_36 37 rfl rfl (fun _ => ?_)
      refine z_aload_n C 0 rfl 0 rfl dX11_fresh_37 38 rfl ?_
      refine y_getR C fX11_73 one_11 lay_11_34 dX11_fresh_38 41 rfl ?_
      refine z_iload_n C 1 rfl 1 rfl dX11_fresh_41 42 rfl ?_
      refine z_iconst C dX11_fresh_42 43 rfl ?_
      refine y_iast C lay_11_34.2 rfl dX11_fresh_43 44 rfl rfl (fun _ => ?_)
      refine z_iinc (lv' := [(1, vi (x1 + 1)), (0, vr G 143)]) C (by decide) 1 rfl dX11_fresh_44 47 rfl rfl ?_
      refine z_goto C dX11_fresh_47 23 (by decide) ?_
      refine z_lv (lv' := [(0, vr G 143), (1, vi (x1 + 1))]) [1, 0] rfl ?_
      exact ih (x1 + 1) (up (up σ 164 (w32 x1) ((-4))) 165 (w32 x1) 0)
set_option maxRecDepth 100000 in
set_option maxHeartbeats 4000000 in
theorem pX11_fresh_L2 {X : MX} {G : GG} (C : CX X G 2 cX11_fresh RX11) (R : RT X none) (hR : mR X = rmX11_fresh) (F : Nat)  : ∀ (n : Nat) (x1 : Int) (σ : St), ZZ X G 2 (QM X G vzV wzV (0, 0)) (0, 0) (gX11_fresh_L2 F n x1 σ) (w0 σ) 2 [(0, vr G 143), (1, vi x1)] [] := by
  intro n
  induction n with
  | zero =>
    intro _ _
    exact z_none
  | succ n ih =>
    intro x1 σ
    show ZZ X G 2 (QM X G vzV wzV (0, 0)) (0, 0) (if w32 x1 ≥ 6 then gX11_fresh_L23 F F 0 σ else gd (0 ≤ w32 x1 ∧ w32 x1 < 6) (gX11_fresh_L2 F n (x1 + 1) (up σ 163 (w32 x1) 0))) (w0 σ) 2 [(0, vr G 143), (1, vi x1)] []
    refine z_iload_n C 1 rfl 1 rfl dX11_fresh_2 3 rfl ?_
    refine z_bipush C (by decide) dX11_fresh_3 5 rfl ?_
    refine z_icmp_ge C dX11_fresh_5 21 (by decide) 8 rfl rfl (w32_id (a := 6) (by decide)) (fun _ => ?_) (fun _ => ?_)
    · refine z_iconst C dX11_fresh_21 22 rfl ?_
      refine z_istore_n (lv' := [(1, vi 0), (0, vr G 143)]) C 1 rfl (by decide) dX11_fresh_22 23 rfl rfl ?_
      refine z_lv (lv' := [(0, vr G 143), (1, vi 0)]) [1, 0] rfl ?_
      exact pX11_fresh_L23 C R hR F F 0 σ
    · refine z_aload_n C 0 rfl 0 rfl dX11_fresh_8 9 rfl ?_
      refine y_getR C fX11_67 one_11 lay_11_32 dX11_fresh_9 12 rfl ?_
      refine z_iload_n C 1 rfl 1 rfl dX11_fresh_12 13 rfl ?_
      refine z_iconst C dX11_fresh_13 14 rfl ?_
      refine y_iast C lay_11_32.2 rfl dX11_fresh_14 15 rfl rfl (fun _ => ?_)
      refine z_iinc (lv' := [(1, vi (x1 + 1)), (0, vr G 143)]) C (by decide) 1 rfl dX11_fresh_15 18 rfl rfl ?_
      refine z_goto C dX11_fresh_18 2 (by decide) ?_
      refine z_lv (lv' := [(0, vr G 143), (1, vi (x1 + 1))]) [1, 0] rfl ?_
      exact ih (x1 + 1) (up σ 163 (w32 x1) 0)
set_option maxRecDepth 100000 in
set_option maxHeartbeats 4000000 in
theorem tX11_fresh (l : Launch) (G : GG) (F : Nat) (σ : St) : Ctr l G yX11_fresh cX11_fresh 2 none rmX11_fresh [vr G 143] (w0 σ) vzV wzV (gX11_fresh F σ) := by
  refine ctr_of (by decide) (Nat.le_of_ble_eq_true rfl) mwX11_fresh.1 (fun X hl hR C R hnm => ?_)
  subst hl
  refine z_lv (lv' := [(0, vr G 143)]) [0] rfl ?_
  show ZZ X G 2 (QM X G vzV wzV (0, 0)) (0, 0) (gX11_fresh_L2 F F 0 σ) (w0 σ) 0 [(0, vr G 143)] []
  refine z_iconst C dX11_fresh_0 1 rfl ?_
  refine z_istore_n (lv' := [(1, vi 0), (0, vr G 143)]) C 1 rfl (by decide) dX11_fresh_1 2 rfl rfl ?_
  refine z_lv (lv' := [(0, vr G 143), (1, vi 0)]) [1, 0] rfl ?_
  exact pX11_fresh_L2 C R hR F F 0 σ
-- loadMain
def gX11_loadMain_L68 (F : Nat) : Nat → Int → St → Option (St)
  | 0, _, _ => none
  | n + 1, x1, σ => if w32 x1 ≥ 54 then (gX11_fresh F σ).bind fun r1 => some r1 else gd (0 ≤ w32 x1 ∧ w32 x1 < 54) (gd (0 ≤ w32 x1 ∧ w32 x1 < 54) (gX11_loadMain_L68 F n (x1 + 1) (up σ 162 (w32 x1) (σ 148 (w32 x1)))))
def gX11_loadMain_L18 (F : Nat) : Nat → Int → St → Option (St)
  | 0, _, _ => none
  | n + 1, x1, σ => if w32 x1 ≥ 6 then gX11_loadMain_L68 F F 0 σ else gd (0 ≤ w32 x1 ∧ w32 x1 < 6) (gd (0 ≤ w32 x1 ∧ w32 x1 < 6) (gd (0 ≤ w32 x1 ∧ w32 x1 < 6) (gd (0 ≤ w32 x1 ∧ w32 x1 < 6) (gd (0 ≤ w32 x1 ∧ w32 x1 < 6) (gd (0 ≤ w32 x1 ∧ w32 x1 < 6) (gX11_loadMain_L18 F n (x1 + 1) (up (up (up σ 159 (w32 x1) (σ 144 (w32 x1))) 160 (w32 x1) ((up σ 159 (w32 x1) (σ 144 (w32 x1))) 145 (w32 x1))) 161 (w32 x1) ((up (up σ 159 (w32 x1) (σ 144 (w32 x1))) 160 (w32 x1) ((up σ 159 (w32 x1) (σ 144 (w32 x1))) 145 (w32 x1))) 146 (w32 x1)))))))))
def gX11_loadMain (F : Nat) (σ : St) : Option (St) := gX11_loadMain_L18 F F 0 (up (up σ 143 26 (σ 143 0)) 143 27 ((up σ 143 26 (σ 143 0)) 143 4))
def rmX11_loadMain : Room := { frames := 1, cells := 0, slots := 0, locals := 21 }
set_option maxRecDepth 100000 in
set_option maxHeartbeats 4000000 in
theorem pX11_loadMain_L68 {X : MX} {G : GG} (C : CX X G 2 cX11_loadMain RX11) (R : RT X none) (hR : mR X = rmX11_loadMain) (F : Nat)  : ∀ (n : Nat) (x1 : Int) (σ : St), ZZ X G 2 (QM X G vzV wzV (0, 0)) (0, 0) (gX11_loadMain_L68 F n x1 σ) (w0 σ) 68 [(0, vr G 143), (1, vi x1)] [] := by
  intro n
  induction n with
  | zero =>
    intro _ _
    exact z_none
  | succ n ih =>
    intro x1 σ
    show ZZ X G 2 (QM X G vzV wzV (0, 0)) (0, 0) (if w32 x1 ≥ 54 then (gX11_fresh F σ).bind fun r1 => some r1 else gd (0 ≤ w32 x1 ∧ w32 x1 < 54) (gd (0 ≤ w32 x1 ∧ w32 x1 < 54) (gX11_loadMain_L68 F n (x1 + 1) (up σ 162 (w32 x1) (σ 148 (w32 x1)))))) (w0 σ) 68 [(0, vr G 143), (1, vi x1)] []
    refine z_iload_n C 1 rfl 1 rfl dX11_loadMain_68 69 rfl ?_
    refine z_bipush C (by decide) dX11_loadMain_69 71 rfl ?_
    refine z_icmp_ge C dX11_loadMain_71 92 (by decide) 74 rfl rfl (w32_id (a := 54) (by decide)) (fun _ => ?_) (fun _ => ?_)
    · refine z_aload_n C 0 rfl 0 rfl dX11_loadMain_92 93 rfl ?_
      refine y_callVv C hR (tX11_fresh (mL X) G F σ) ⟨mwX11_fresh, mvX11_fresh, lkX11_246⟩ one_11 rfl rfl (Nat.le_of_ble_eq_true rfl) (by unfold rmOK; decide) dX11_loadMain_93 96 rfl (fun r1 _ => ?_)
      exact z_vret C R rfl rfl dX11_loadMain_96
    · refine z_aload_n C 0 rfl 0 rfl dX11_loadMain_74 75 rfl ?_
      refine y_getR C fX11_64 one_11 lay_11_31 dX11_loadMain_75 78 rfl ?_
      refine z_iload_n C 1 rfl 1 rfl dX11_loadMain_78 79 rfl ?_
      refine z_aload_n C 0 rfl 0 rfl dX11_loadMain_79 80 rfl ?_
      refine y_getR C fX11_22 one_11 lay_11_6 dX11_loadMain_80 83 rfl ?_
      refine z_iload_n C 1 rfl 1 rfl dX11_loadMain_83 84 rfl ?_
      refine y_iald C lay_11_6.2 rfl dX11_loadMain_84 85 rfl rfl (fun _ => ?_)
      refine y_iast C lay_11_31.2 rfl dX11_loadMain_85 86 rfl rfl (fun _ => ?_)
      refine z_iinc (lv' := [(1, vi (x1 + 1)), (0, vr G 143)]) C (by decide) 1 rfl dX11_loadMain_86 89 rfl rfl ?_
      refine z_goto C dX11_loadMain_89 68 (by decide) ?_
      refine z_lv (lv' := [(0, vr G 143), (1, vi (x1 + 1))]) [1, 0] rfl ?_
      exact ih (x1 + 1) (up σ 162 (w32 x1) (σ 148 (w32 x1)))
set_option maxRecDepth 100000 in
set_option maxHeartbeats 4000000 in
theorem pX11_loadMain_L18 {X : MX} {G : GG} (C : CX X G 2 cX11_loadMain RX11) (R : RT X none) (hR : mR X = rmX11_loadMain) (F : Nat)  : ∀ (n : Nat) (x1 : Int) (σ : St), ZZ X G 2 (QM X G vzV wzV (0, 0)) (0, 0) (gX11_loadMain_L18 F n x1 σ) (w0 σ) 18 [(0, vr G 143), (1, vi x1)] [] := by
  intro n
  induction n with
  | zero =>
    intro _ _
    exact z_none
  | succ n ih =>
    intro x1 σ
    show ZZ X G 2 (QM X G vzV wzV (0, 0)) (0, 0) (if w32 x1 ≥ 6 then gX11_loadMain_L68 F F 0 σ else gd (0 ≤ w32 x1 ∧ w32 x1 < 6) (gd (0 ≤ w32 x1 ∧ w32 x1 < 6) (gd (0 ≤ w32 x1 ∧ w32 x1 < 6) (gd (0 ≤ w32 x1 ∧ w32 x1 < 6) (gd (0 ≤ w32 x1 ∧ w32 x1 < 6) (gd (0 ≤ w32 x1 ∧ w32 x1 < 6) (gX11_loadMain_L18 F n (x1 + 1) (up (up (up σ 159 (w32 x1) (σ 144 (w32 x1))) 160 (w32 x1) ((up σ 159 (w32 x1) (σ 144 (w32 x1))) 145 (w32 x1))) 161 (w32 x1) ((up (up σ 159 (w32 x1) (σ 144 (w32 x1))) 160 (w32 x1) ((up σ 159 (w32 x1) (σ 144 (w32 x1))) 145 (w32 x1))) 146 (w32 x1)))))))))) (w0 σ) 18 [(0, vr G 143), (1, vi x1)] []
    refine z_iload_n C 1 rfl 1 rfl dX11_loadMain_18 19 rfl ?_
    refine z_bipush C (by decide) dX11_loadMain_19 21 rfl ?_
    refine z_icmp_ge C dX11_loadMain_21 66 (by decide) 24 rfl rfl (w32_id (a := 6) (by decide)) (fun _ => ?_) (fun _ => ?_)
    · refine z_iconst C dX11_loadMain_66 67 rfl ?_
      refine z_istore_n (lv' := [(1, vi 0), (0, vr G 143)]) C 1 rfl (by decide) dX11_loadMain_67 68 rfl rfl ?_
      refine z_lv (lv' := [(0, vr G 143), (1, vi 0)]) [1, 0] rfl ?_
      exact pX11_loadMain_L68 C R hR F F 0 σ
    · refine z_aload_n C 0 rfl 0 rfl dX11_loadMain_24 25 rfl ?_
      refine y_getR C fX11_55 one_11 lay_11_28 dX11_loadMain_25 28 rfl ?_
      refine z_iload_n C 1 rfl 1 rfl dX11_loadMain_28 29 rfl ?_
      refine z_aload_n C 0 rfl 0 rfl dX11_loadMain_29 30 rfl ?_
      refine y_getR C fX11_7 one_11 lay_11_1 dX11_loadMain_30 33 rfl ?_
      refine z_iload_n C 1 rfl 1 rfl dX11_loadMain_33 34 rfl ?_
      refine y_iald C lay_11_1.2 rfl dX11_loadMain_34 35 rfl rfl (fun _ => ?_)
      refine y_iast C lay_11_28.2 rfl dX11_loadMain_35 36 rfl rfl (fun _ => ?_)
      refine z_aload_n C 0 rfl 0 rfl dX11_loadMain_36 37 rfl ?_
      refine y_getR C fX11_58 one_11 lay_11_29 dX11_loadMain_37 40 rfl ?_
      refine z_iload_n C 1 rfl 1 rfl dX11_loadMain_40 41 rfl ?_
      refine z_aload_n C 0 rfl 0 rfl dX11_loadMain_41 42 rfl ?_
      refine y_getR C fX11_13 one_11 lay_11_2 dX11_loadMain_42 45 rfl ?_
      refine z_iload_n C 1 rfl 1 rfl dX11_loadMain_45 46 rfl ?_
      refine y_iald C lay_11_2.2 rfl dX11_loadMain_46 47 rfl rfl (fun _ => ?_)
      refine y_iast C lay_11_29.2 rfl dX11_loadMain_47 48 rfl rfl (fun _ => ?_)
      refine z_aload_n C 0 rfl 0 rfl dX11_loadMain_48 49 rfl ?_
      refine y_getR C fX11_61 one_11 lay_11_30 dX11_loadMain_49 52 rfl ?_
      refine z_iload_n C 1 rfl 1 rfl dX11_loadMain_52 53 rfl ?_
      refine z_aload_n C 0 rfl 0 rfl dX11_loadMain_53 54 rfl ?_
      refine y_getR C fX11_16 one_11 lay_11_3 dX11_loadMain_54 57 rfl ?_
      refine z_iload_n C 1 rfl 1 rfl dX11_loadMain_57 58 rfl ?_
      refine y_iald C lay_11_3.2 rfl dX11_loadMain_58 59 rfl rfl (fun _ => ?_)
      refine y_iast C lay_11_30.2 rfl dX11_loadMain_59 60 rfl rfl (fun _ => ?_)
      refine z_iinc (lv' := [(1, vi (x1 + 1)), (0, vr G 143)]) C (by decide) 1 rfl dX11_loadMain_60 63 rfl rfl ?_
      refine z_goto C dX11_loadMain_63 18 (by decide) ?_
      refine z_lv (lv' := [(0, vr G 143), (1, vi (x1 + 1))]) [1, 0] rfl ?_
      exact ih (x1 + 1) (up (up (up σ 159 (w32 x1) (σ 144 (w32 x1))) 160 (w32 x1) ((up σ 159 (w32 x1) (σ 144 (w32 x1))) 145 (w32 x1))) 161 (w32 x1) ((up (up σ 159 (w32 x1) (σ 144 (w32 x1))) 160 (w32 x1) ((up σ 159 (w32 x1) (σ 144 (w32 x1))) 145 (w32 x1))) 146 (w32 x1)))
set_option maxRecDepth 100000 in
set_option maxHeartbeats 4000000 in
theorem tX11_loadMain (l : Launch) (G : GG) (F : Nat) (σ : St) : Ctr l G yX11_loadMain cX11_loadMain 2 none rmX11_loadMain [vr G 143] (w0 σ) vzV wzV (gX11_loadMain F σ) := by
  refine ctr_of (by decide) (Nat.le_of_ble_eq_true rfl) mwX11_loadMain.1 (fun X hl hR C R hnm => ?_)
  subst hl
  refine z_lv (lv' := [(0, vr G 143)]) [0] rfl ?_
  show ZZ X G 2 (QM X G vzV wzV (0, 0)) (0, 0) (gX11_loadMain_L18 F F 0 (up (up σ 143 26 (σ 143 0)) 143 27 ((up σ 143 26 (σ 143 0)) 143 4))) (w0 σ) 0 [(0, vr G 143)] []
  refine z_aload_n C 0 rfl 0 rfl dX11_loadMain_0 1 rfl ?_
  refine z_aload_n C 0 rfl 0 rfl dX11_loadMain_1 2 rfl ?_
  refine y_getI C fX11_122 one_11 dX11_loadMain_2 5 rfl ?_
  refine y_putI C fX11_240 one_11 ⟨rfl, rfl⟩ dX11_loadMain_5 8 rfl ?_
  refine z_aload_n C 0 rfl 0 rfl dX11_loadMain_8 9 rfl ?_
  refine z_aload_n C 0 rfl 0 rfl dX11_loadMain_9 10 rfl ?_
  refine y_getI C fX11_130 one_11 dX11_loadMain_10 13 rfl ?_
  refine y_putI C fX11_243 one_11 ⟨rfl, rfl⟩ dX11_loadMain_13 16 rfl ?_
  refine z_iconst C dX11_loadMain_16 17 rfl ?_
  refine z_istore_n (lv' := [(1, vi 0), (0, vr G 143)]) C 1 rfl (by decide) dX11_loadMain_17 18 rfl rfl ?_
  refine z_lv (lv' := [(0, vr G 143), (1, vi 0)]) [1, 0] rfl ?_
  exact pX11_loadMain_L18 C R hR F F 0 (up (up σ 143 26 (σ 143 0)) 143 27 ((up σ 143 26 (σ 143 0)) 143 4))
-- heldBy
def gX11_heldBy_L28 (F : Nat) (σ : St) (x1 : Int) (c4 : Int → Int → Option (Int)) (x3 : Int) (s0 : Int) (s1 : Int) : Option (Int) := c4 (s0 + s1) (x3 + 1)
def gX11_heldBy_L4 (F : Nat) (σ : St) (x1 : Int) : Nat → Int → Int → Option (Int)
  | 0, _, _ => none
  | n + 1, x2, x3 => if w32 x3 ≥ w32 (σ 143 27) then some x2 else gd (0 ≤ w32 x3 ∧ w32 x3 < 9) (if w32 (σ 164 (w32 x3)) ≠ w32 x1 then gX11_heldBy_L28 F σ x1 (gX11_heldBy_L4 F σ x1 n) x3 x2 0 else gX11_heldBy_L28 F σ x1 (gX11_heldBy_L4 F σ x1 n) x3 x2 1)
def gX11_heldBy (F : Nat) (σ : St) (x1 : Int) : Option (Int) := gX11_heldBy_L4 F σ x1 F 0 0
def rmX11_heldBy : Room := { frames := 0, cells := 0, slots := 0, locals := 0 }
set_option maxRecDepth 100000 in
set_option maxHeartbeats 4000000 in
theorem pX11_heldBy_L28 {X : MX} {G : GG} (C : CX X G 4 cX11_heldBy RX11) (R : RT X (some .int)) (hR : mR X = rmX11_heldBy) (F : Nat) (σ : St) (x1 : Int) (c4 : Int → Int → Option (Int)) (hc4 : ∀ (x2 : Int) (x3 : Int), ZZ X G 4 (QM X G vzI (wzR σ) (0, 0)) (0, 0) (c4 x2 x3) (w0 σ) 4 [(0, vr G 143), (1, vi x1), (2, vi x2), (3, vi x3)] []) : ∀ (x3 : Int) (s0 : Int) (s1 : Int), ZZ X G 4 (QM X G vzI (wzR σ) (0, 0)) (0, 0) (gX11_heldBy_L28 F σ x1 c4 x3 s0 s1) (w0 σ) 28 [(0, vr G 143), (1, vi x1), (3, vi x3)] [vi s1, vi s0] := by
  intro x3 s0 s1
  show ZZ X G 4 (QM X G vzI (wzR σ) (0, 0)) (0, 0) (c4 (s0 + s1) (x3 + 1)) (w0 σ) 28 [(0, vr G 143), (1, vi x1), (3, vi x3)] [vi s1, vi s0]
  refine z_iadd C dX11_heldBy_28 29 rfl ?_
  refine z_istore_n (lv' := [(2, vi (s0 + s1)), (0, vr G 143), (1, vi x1), (3, vi x3)]) C 2 rfl (by decide) dX11_heldBy_29 30 rfl rfl ?_
  refine z_iinc (lv' := [(3, vi (x3 + 1)), (2, vi (s0 + s1)), (0, vr G 143), (1, vi x1)]) C (by decide) 3 rfl dX11_heldBy_30 33 rfl rfl ?_
  refine z_goto C dX11_heldBy_33 4 (by decide) ?_
  refine z_lv (lv' := [(0, vr G 143), (1, vi x1), (2, vi (s0 + s1)), (3, vi (x3 + 1))]) [2, 3, 1, 0] rfl ?_
  exact hc4 (s0 + s1) (x3 + 1)
set_option maxRecDepth 100000 in
set_option maxHeartbeats 4000000 in
theorem pX11_heldBy_L4 {X : MX} {G : GG} (C : CX X G 4 cX11_heldBy RX11) (R : RT X (some .int)) (hR : mR X = rmX11_heldBy) (F : Nat) (σ : St) (x1 : Int)  : ∀ (n : Nat) (x2 : Int) (x3 : Int), ZZ X G 4 (QM X G vzI (wzR σ) (0, 0)) (0, 0) (gX11_heldBy_L4 F σ x1 n x2 x3) (w0 σ) 4 [(0, vr G 143), (1, vi x1), (2, vi x2), (3, vi x3)] [] := by
  intro n
  induction n with
  | zero =>
    intro _ _
    exact z_none
  | succ n ih =>
    intro x2 x3
    show ZZ X G 4 (QM X G vzI (wzR σ) (0, 0)) (0, 0) (if w32 x3 ≥ w32 (σ 143 27) then some x2 else gd (0 ≤ w32 x3 ∧ w32 x3 < 9) (if w32 (σ 164 (w32 x3)) ≠ w32 x1 then gX11_heldBy_L28 F σ x1 (gX11_heldBy_L4 F σ x1 n) x3 x2 0 else gX11_heldBy_L28 F σ x1 (gX11_heldBy_L4 F σ x1 n) x3 x2 1)) (w0 σ) 4 [(0, vr G 143), (1, vi x1), (2, vi x2), (3, vi x3)] []
    refine z_iload_n C 3 rfl 3 rfl dX11_heldBy_4 5 rfl ?_
    refine z_aload_n C 0 rfl 0 rfl dX11_heldBy_5 6 rfl ?_
    refine y_getI C fX11_243 one_11 dX11_heldBy_6 9 rfl ?_
    refine z_icmp_ge C dX11_heldBy_9 36 (by decide) 12 rfl rfl rfl (fun _ => ?_) (fun _ => ?_)
    · refine z_iload_n C 2 rfl 2 rfl dX11_heldBy_36 37 rfl ?_
      exact z_iret C R rfl rfl dX11_heldBy_37
    · refine z_iload_n C 2 rfl 2 rfl dX11_heldBy_12 13 rfl ?_
      refine z_aload_n C 0 rfl 0 rfl dX11_heldBy_13 14 rfl ?_
      refine y_getR C fX11_70 one_11 lay_11_33 dX11_heldBy_14 17 rfl ?_
      refine z_iload_n C 3 rfl 3 rfl dX11_heldBy_17 18 rfl ?_
      refine y_iald C lay_11_33.2 rfl dX11_heldBy_18 19 rfl rfl (fun _ => ?_)
      refine z_iload_n C 1 rfl 1 rfl dX11_heldBy_19 20 rfl ?_
      refine z_icmp_ne C dX11_heldBy_20 27 (by decide) 23 rfl rfl rfl (fun _ => ?_) (fun _ => ?_)
      · refine z_iconst C dX11_heldBy_27 28 rfl ?_
        refine z_lv (lv' := [(0, vr G 143), (1, vi x1), (3, vi x3)]) [0, 1, 3] rfl ?_
        exact pX11_heldBy_L28 C R hR F σ x1 (gX11_heldBy_L4 F σ x1 n) ih x3 x2 0
      · refine z_iconst C dX11_heldBy_23 24 rfl ?_
        refine z_goto C dX11_heldBy_24 28 (by decide) ?_
        refine z_lv (lv' := [(0, vr G 143), (1, vi x1), (3, vi x3)]) [0, 1, 3] rfl ?_
        exact pX11_heldBy_L28 C R hR F σ x1 (gX11_heldBy_L4 F σ x1 n) ih x3 x2 1
set_option maxRecDepth 100000 in
set_option maxHeartbeats 4000000 in
theorem tX11_heldBy (l : Launch) (G : GG) (F : Nat) (σ : St) (x1 : Int) : Ctr l G yX11_heldBy cX11_heldBy 4 (some .int) rmX11_heldBy [vr G 143, vi x1] (w0 σ) vzI (wzR σ) (gX11_heldBy F σ x1) := by
  refine ctr_of (by decide) (Nat.le_of_ble_eq_true rfl) mwX11_heldBy.1 (fun X hl hR C R hnm => ?_)
  subst hl
  refine z_lv (lv' := [(0, vr G 143), (1, vi x1)]) [0, 1] rfl ?_
  show ZZ X G 4 (QM X G vzI (wzR σ) (0, 0)) (0, 0) (gX11_heldBy_L4 F σ x1 F 0 0) (w0 σ) 0 [(0, vr G 143), (1, vi x1)] []
  refine z_iconst C dX11_heldBy_0 1 rfl ?_
  refine z_istore_n (lv' := [(2, vi 0), (0, vr G 143), (1, vi x1)]) C 2 rfl (by decide) dX11_heldBy_1 2 rfl rfl ?_
  refine z_iconst C dX11_heldBy_2 3 rfl ?_
  refine z_istore_n (lv' := [(3, vi 0), (2, vi 0), (0, vr G 143), (1, vi x1)]) C 3 rfl (by decide) dX11_heldBy_3 4 rfl rfl ?_
  refine z_lv (lv' := [(0, vr G 143), (1, vi x1), (2, vi 0), (3, vi 0)]) [2, 3, 1, 0] rfl ?_
  exact pX11_heldBy_L4 C R hR F σ x1 F 0 0
-- lastOf
def gX11_lastOf_L130 (F : Nat) (σ : St) (x1 : Int) (c5 : Int → Int → Option (Int)) (x2 : Int) (x3 : Int) : Option (Int) := c5 x2 (x3 + 1)
def gX11_lastOf_L129 (F : Nat) (σ : St) (x1 : Int) (c5 : Int → Int → Option (Int)) (x3 : Int) (s0 : Int) : Option (Int) := gX11_lastOf_L130 F σ x1 c5 s0 x3
def gX11_lastOf_L124 (F : Nat) (σ : St) (x1 : Int) (c5 : Int → Int → Option (Int)) (x3 : Int) : Option (Int) := gX11_lastOf_L129 F σ x1 c5 x3 x3
def gX11_lastOf_L112 (F : Nat) (σ : St) (x1 : Int) (c5 : Int → Int → Option (Int)) (x2 : Int) (x3 : Int) (x4 : Int) (s0 : Int) : Option (Int) := if w32 x4 ≠ 0 then gX11_lastOf_L124 F σ x1 c5 x3 else if w32 s0 = 0 then gX11_lastOf_L129 F σ x1 c5 x3 x2 else gX11_lastOf_L124 F σ x1 c5 x3
def gX11_lastOf_L111 (F : Nat) (σ : St) (x1 : Int) (c5 : Int → Int → Option (Int)) (x2 : Int) (x3 : Int) (x4 : Int) : Option (Int) := gX11_lastOf_L112 F σ x1 c5 x2 x3 x4 0
def gX11_lastOf_L59 (F : Nat) (σ : St) (x1 : Int) (c5 : Int → Int → Option (Int)) (x2 : Int) (x3 : Int) (s0 : Int) : Option (Int) := if w32 x2 = (-4) then gX11_lastOf_L111 F σ x1 c5 x2 x3 s0 else gd (0 ≤ w32 ((6 * x3) + x1) ∧ w32 ((6 * x3) + x1) < 54) (gd (0 ≤ w32 ((6 * x2) + x1) ∧ w32 ((6 * x2) + x1) < 54) (if w32 (σ 162 (w32 ((6 * x3) + x1))) ≠ w32 (σ 162 (w32 ((6 * x2) + x1))) then gX11_lastOf_L111 F σ x1 c5 x2 x3 s0 else gd (0 ≤ w32 x3 ∧ w32 x3 < 9) (gd (0 ≤ w32 x2 ∧ w32 x2 < 9) (if w32 (σ 165 (w32 x3)) ≤ w32 (σ 165 (w32 x2)) then gX11_lastOf_L111 F σ x1 c5 x2 x3 s0 else gX11_lastOf_L112 F σ x1 c5 x2 x3 s0 1))))
def gX11_lastOf_L54 (F : Nat) (σ : St) (x1 : Int) (c5 : Int → Int → Option (Int)) (x2 : Int) (x3 : Int) : Option (Int) := gX11_lastOf_L59 F σ x1 c5 x2 x3 1
def gX11_lastOf_L5 (F : Nat) (σ : St) (x1 : Int) : Nat → Int → Int → Option (Int)
  | 0, _, _ => none
  | n + 1, x2, x3 => if w32 x3 ≥ w32 (σ 143 27) then some x2 else gd (0 ≤ w32 x3 ∧ w32 x3 < 9) (if w32 (σ 164 (w32 x3)) ≠ w32 x1 then gX11_lastOf_L130 F σ x1 (gX11_lastOf_L5 F σ x1 n) x2 x3 else if w32 x2 = (-4) then gX11_lastOf_L54 F σ x1 (gX11_lastOf_L5 F σ x1 n) x2 x3 else gd (0 ≤ w32 ((6 * x3) + x1) ∧ w32 ((6 * x3) + x1) < 54) (gd (0 ≤ w32 ((6 * x2) + x1) ∧ w32 ((6 * x2) + x1) < 54) (if w32 (σ 162 (w32 ((6 * x3) + x1))) ≥ w32 (σ 162 (w32 ((6 * x2) + x1))) then gX11_lastOf_L59 F σ x1 (gX11_lastOf_L5 F σ x1 n) x2 x3 0 else gX11_lastOf_L54 F σ x1 (gX11_lastOf_L5 F σ x1 n) x2 x3)))
def gX11_lastOf (F : Nat) (σ : St) (x1 : Int) : Option (Int) := gX11_lastOf_L5 F σ x1 F ((-4)) 0
def rmX11_lastOf : Room := { frames := 0, cells := 0, slots := 0, locals := 0 }
set_option maxRecDepth 100000 in
set_option maxHeartbeats 4000000 in
theorem pX11_lastOf_L130 {X : MX} {G : GG} (C : CX X G 6 cX11_lastOf RX11) (R : RT X (some .int)) (hR : mR X = rmX11_lastOf) (F : Nat) (σ : St) (x1 : Int) (c5 : Int → Int → Option (Int)) (hc5 : ∀ (x2 : Int) (x3 : Int), ZZ X G 6 (QM X G vzI (wzR σ) (0, 0)) (0, 0) (c5 x2 x3) (w0 σ) 5 [(0, vr G 143), (1, vi x1), (2, vi x2), (3, vi x3)] []) : ∀ (x2 : Int) (x3 : Int), ZZ X G 6 (QM X G vzI (wzR σ) (0, 0)) (0, 0) (gX11_lastOf_L130 F σ x1 c5 x2 x3) (w0 σ) 130 [(0, vr G 143), (1, vi x1), (2, vi x2), (3, vi x3)] [] := by
  intro x2 x3
  show ZZ X G 6 (QM X G vzI (wzR σ) (0, 0)) (0, 0) (c5 x2 (x3 + 1)) (w0 σ) 130 [(0, vr G 143), (1, vi x1), (2, vi x2), (3, vi x3)] []
  refine z_iinc (lv' := [(3, vi (x3 + 1)), (0, vr G 143), (1, vi x1), (2, vi x2)]) C (by decide) 3 rfl dX11_lastOf_130 133 rfl rfl ?_
  refine z_goto C dX11_lastOf_133 5 (by decide) ?_
  refine z_lv (lv' := [(0, vr G 143), (1, vi x1), (2, vi x2), (3, vi (x3 + 1))]) [1, 2, 3, 0] rfl ?_
  exact hc5 x2 (x3 + 1)
set_option maxRecDepth 100000 in
set_option maxHeartbeats 4000000 in
theorem pX11_lastOf_L129 {X : MX} {G : GG} (C : CX X G 6 cX11_lastOf RX11) (R : RT X (some .int)) (hR : mR X = rmX11_lastOf) (F : Nat) (σ : St) (x1 : Int) (c5 : Int → Int → Option (Int)) (hc5 : ∀ (x2 : Int) (x3 : Int), ZZ X G 6 (QM X G vzI (wzR σ) (0, 0)) (0, 0) (c5 x2 x3) (w0 σ) 5 [(0, vr G 143), (1, vi x1), (2, vi x2), (3, vi x3)] []) : ∀ (x3 : Int) (s0 : Int), ZZ X G 6 (QM X G vzI (wzR σ) (0, 0)) (0, 0) (gX11_lastOf_L129 F σ x1 c5 x3 s0) (w0 σ) 129 [(0, vr G 143), (1, vi x1), (3, vi x3)] [vi s0] := by
  intro x3 s0
  show ZZ X G 6 (QM X G vzI (wzR σ) (0, 0)) (0, 0) (gX11_lastOf_L130 F σ x1 c5 s0 x3) (w0 σ) 129 [(0, vr G 143), (1, vi x1), (3, vi x3)] [vi s0]
  refine z_istore_n (lv' := [(2, vi s0), (0, vr G 143), (1, vi x1), (3, vi x3)]) C 2 rfl (by decide) dX11_lastOf_129 130 rfl rfl ?_
  refine z_lv (lv' := [(0, vr G 143), (1, vi x1), (2, vi s0), (3, vi x3)]) [1, 2, 0, 3] rfl ?_
  exact pX11_lastOf_L130 C R hR F σ x1 c5 hc5 s0 x3
set_option maxRecDepth 100000 in
set_option maxHeartbeats 4000000 in
theorem pX11_lastOf_L124 {X : MX} {G : GG} (C : CX X G 6 cX11_lastOf RX11) (R : RT X (some .int)) (hR : mR X = rmX11_lastOf) (F : Nat) (σ : St) (x1 : Int) (c5 : Int → Int → Option (Int)) (hc5 : ∀ (x2 : Int) (x3 : Int), ZZ X G 6 (QM X G vzI (wzR σ) (0, 0)) (0, 0) (c5 x2 x3) (w0 σ) 5 [(0, vr G 143), (1, vi x1), (2, vi x2), (3, vi x3)] []) : ∀ (x3 : Int), ZZ X G 6 (QM X G vzI (wzR σ) (0, 0)) (0, 0) (gX11_lastOf_L124 F σ x1 c5 x3) (w0 σ) 124 [(0, vr G 143), (1, vi x1), (3, vi x3)] [] := by
  intro x3
  show ZZ X G 6 (QM X G vzI (wzR σ) (0, 0)) (0, 0) (gX11_lastOf_L129 F σ x1 c5 x3 x3) (w0 σ) 124 [(0, vr G 143), (1, vi x1), (3, vi x3)] []
  refine z_iload_n C 3 rfl 2 rfl dX11_lastOf_124 125 rfl ?_
  refine z_goto C dX11_lastOf_125 129 (by decide) ?_
  exact pX11_lastOf_L129 C R hR F σ x1 c5 hc5 x3 x3
set_option maxRecDepth 100000 in
set_option maxHeartbeats 4000000 in
theorem pX11_lastOf_L112 {X : MX} {G : GG} (C : CX X G 6 cX11_lastOf RX11) (R : RT X (some .int)) (hR : mR X = rmX11_lastOf) (F : Nat) (σ : St) (x1 : Int) (c5 : Int → Int → Option (Int)) (hc5 : ∀ (x2 : Int) (x3 : Int), ZZ X G 6 (QM X G vzI (wzR σ) (0, 0)) (0, 0) (c5 x2 x3) (w0 σ) 5 [(0, vr G 143), (1, vi x1), (2, vi x2), (3, vi x3)] []) : ∀ (x2 : Int) (x3 : Int) (x4 : Int) (s0 : Int), ZZ X G 6 (QM X G vzI (wzR σ) (0, 0)) (0, 0) (gX11_lastOf_L112 F σ x1 c5 x2 x3 x4 s0) (w0 σ) 112 [(0, vr G 143), (1, vi x1), (2, vi x2), (3, vi x3), (4, vi x4)] [vi s0] := by
  intro x2 x3 x4 s0
  show ZZ X G 6 (QM X G vzI (wzR σ) (0, 0)) (0, 0) (if w32 x4 ≠ 0 then gX11_lastOf_L124 F σ x1 c5 x3 else if w32 s0 = 0 then gX11_lastOf_L129 F σ x1 c5 x3 x2 else gX11_lastOf_L124 F σ x1 c5 x3) (w0 σ) 112 [(0, vr G 143), (1, vi x1), (2, vi x2), (3, vi x3), (4, vi x4)] [vi s0]
  refine z_istore (lv' := [(5, vi s0), (0, vr G 143), (1, vi x1), (2, vi x2), (3, vi x3), (4, vi x4)]) C (by decide) dX11_lastOf_112 114 rfl rfl ?_
  refine z_iload C 5 rfl dX11_lastOf_114 116 rfl ?_
  refine z_if_ne C dX11_lastOf_116 124 (by decide) 119 rfl rfl (fun _ => ?_) (fun _ => ?_)
  · refine z_lv (lv' := [(0, vr G 143), (1, vi x1), (3, vi x3)]) [1, 2, 4] rfl ?_
    exact pX11_lastOf_L124 C R hR F σ x1 c5 hc5 x3
  · refine z_iload C 0 rfl dX11_lastOf_119 121 rfl ?_
    refine z_if_eq C dX11_lastOf_121 128 (by decide) 124 rfl rfl (fun _ => ?_) (fun _ => ?_)
    · refine z_iload_n C 2 rfl 3 rfl dX11_lastOf_128 129 rfl ?_
      refine z_lv (lv' := [(0, vr G 143), (1, vi x1), (3, vi x3)]) [1, 2, 4] rfl ?_
      exact pX11_lastOf_L129 C R hR F σ x1 c5 hc5 x3 x2
    · refine z_lv (lv' := [(0, vr G 143), (1, vi x1), (3, vi x3)]) [1, 2, 4] rfl ?_
      exact pX11_lastOf_L124 C R hR F σ x1 c5 hc5 x3
set_option maxRecDepth 100000 in
set_option maxHeartbeats 4000000 in
theorem pX11_lastOf_L111 {X : MX} {G : GG} (C : CX X G 6 cX11_lastOf RX11) (R : RT X (some .int)) (hR : mR X = rmX11_lastOf) (F : Nat) (σ : St) (x1 : Int) (c5 : Int → Int → Option (Int)) (hc5 : ∀ (x2 : Int) (x3 : Int), ZZ X G 6 (QM X G vzI (wzR σ) (0, 0)) (0, 0) (c5 x2 x3) (w0 σ) 5 [(0, vr G 143), (1, vi x1), (2, vi x2), (3, vi x3)] []) : ∀ (x2 : Int) (x3 : Int) (x4 : Int), ZZ X G 6 (QM X G vzI (wzR σ) (0, 0)) (0, 0) (gX11_lastOf_L111 F σ x1 c5 x2 x3 x4) (w0 σ) 111 [(0, vr G 143), (1, vi x1), (2, vi x2), (3, vi x3), (4, vi x4)] [] := by
  intro x2 x3 x4
  show ZZ X G 6 (QM X G vzI (wzR σ) (0, 0)) (0, 0) (gX11_lastOf_L112 F σ x1 c5 x2 x3 x4 0) (w0 σ) 111 [(0, vr G 143), (1, vi x1), (2, vi x2), (3, vi x3), (4, vi x4)] []
  refine z_iconst C dX11_lastOf_111 112 rfl ?_
  exact pX11_lastOf_L112 C R hR F σ x1 c5 hc5 x2 x3 x4 0
set_option maxRecDepth 100000 in
set_option maxHeartbeats 4000000 in
theorem pX11_lastOf_L59 {X : MX} {G : GG} (C : CX X G 6 cX11_lastOf RX11) (R : RT X (some .int)) (hR : mR X = rmX11_lastOf) (F : Nat) (σ : St) (x1 : Int) (c5 : Int → Int → Option (Int)) (hc5 : ∀ (x2 : Int) (x3 : Int), ZZ X G 6 (QM X G vzI (wzR σ) (0, 0)) (0, 0) (c5 x2 x3) (w0 σ) 5 [(0, vr G 143), (1, vi x1), (2, vi x2), (3, vi x3)] []) : ∀ (x2 : Int) (x3 : Int) (s0 : Int), ZZ X G 6 (QM X G vzI (wzR σ) (0, 0)) (0, 0) (gX11_lastOf_L59 F σ x1 c5 x2 x3 s0) (w0 σ) 59 [(0, vr G 143), (1, vi x1), (2, vi x2), (3, vi x3)] [vi s0] := by
  intro x2 x3 s0
  show ZZ X G 6 (QM X G vzI (wzR σ) (0, 0)) (0, 0) (if w32 x2 = (-4) then gX11_lastOf_L111 F σ x1 c5 x2 x3 s0 else gd (0 ≤ w32 ((6 * x3) + x1) ∧ w32 ((6 * x3) + x1) < 54) (gd (0 ≤ w32 ((6 * x2) + x1) ∧ w32 ((6 * x2) + x1) < 54) (if w32 (σ 162 (w32 ((6 * x3) + x1))) ≠ w32 (σ 162 (w32 ((6 * x2) + x1))) then gX11_lastOf_L111 F σ x1 c5 x2 x3 s0 else gd (0 ≤ w32 x3 ∧ w32 x3 < 9) (gd (0 ≤ w32 x2 ∧ w32 x2 < 9) (if w32 (σ 165 (w32 x3)) ≤ w32 (σ 165 (w32 x2)) then gX11_lastOf_L111 F σ x1 c5 x2 x3 s0 else gX11_lastOf_L112 F σ x1 c5 x2 x3 s0 1))))) (w0 σ) 59 [(0, vr G 143), (1, vi x1), (2, vi x2), (3, vi x3)] [vi s0]
  refine z_istore (lv' := [(4, vi s0), (0, vr G 143), (1, vi x1), (2, vi x2), (3, vi x3)]) C (by decide) dX11_lastOf_59 61 rfl rfl ?_
  refine z_iload_n C 2 rfl 3 rfl dX11_lastOf_61 62 rfl ?_
  refine z_bipush C (by decide) dX11_lastOf_62 64 rfl ?_
  refine z_icmp_eq C dX11_lastOf_64 111 (by decide) 67 rfl rfl (w32_id (a := (-4)) (by decide)) (fun _ => ?_) (fun _ => ?_)
  · refine z_lv (lv' := [(0, vr G 143), (1, vi x1), (2, vi x2), (3, vi x3), (4, vi s0)]) [1, 2, 3, 4, 0] rfl ?_
    exact pX11_lastOf_L111 C R hR F σ x1 c5 hc5 x2 x3 s0
  · refine z_aload_n C 0 rfl 1 rfl dX11_lastOf_67 68 rfl ?_
    refine y_getR C fX11_64 one_11 lay_11_31 dX11_lastOf_68 71 rfl ?_
    refine z_bipush C (by decide) dX11_lastOf_71 73 rfl ?_
    refine z_iload_n C 3 rfl 4 rfl dX11_lastOf_73 74 rfl ?_
    refine z_imul C dX11_lastOf_74 75 rfl ?_
    refine z_iload_n C 1 rfl 2 rfl dX11_lastOf_75 76 rfl ?_
    refine z_iadd C dX11_lastOf_76 77 rfl ?_
    refine y_iald C lay_11_31.2 rfl dX11_lastOf_77 78 rfl rfl (fun _ => ?_)
    refine z_aload_n C 0 rfl 1 rfl dX11_lastOf_78 79 rfl ?_
    refine y_getR C fX11_64 one_11 lay_11_31 dX11_lastOf_79 82 rfl ?_
    refine z_bipush C (by decide) dX11_lastOf_82 84 rfl ?_
    refine z_iload_n C 2 rfl 3 rfl dX11_lastOf_84 85 rfl ?_
    refine z_imul C dX11_lastOf_85 86 rfl ?_
    refine z_iload_n C 1 rfl 2 rfl dX11_lastOf_86 87 rfl ?_
    refine z_iadd C dX11_lastOf_87 88 rfl ?_
    refine y_iald C lay_11_31.2 rfl dX11_lastOf_88 89 rfl rfl (fun _ => ?_)
    refine z_icmp_ne C dX11_lastOf_89 111 (by decide) 92 rfl rfl rfl (fun _ => ?_) (fun _ => ?_)
    · refine z_lv (lv' := [(0, vr G 143), (1, vi x1), (2, vi x2), (3, vi x3), (4, vi s0)]) [1, 2, 3, 4, 0] rfl ?_
      exact pX11_lastOf_L111 C R hR F σ x1 c5 hc5 x2 x3 s0
    · refine z_aload_n C 0 rfl 1 rfl dX11_lastOf_92 93 rfl ?_
      refine y_getR C fX11_73 one_11 lay_11_34 dX11_lastOf_93 96 rfl ?_
      refine z_iload_n C 3 rfl 4 rfl dX11_lastOf_96 97 rfl ?_
      refine y_iald C lay_11_34.2 rfl dX11_lastOf_97 98 rfl rfl (fun _ => ?_)
      refine z_aload_n C 0 rfl 1 rfl dX11_lastOf_98 99 rfl ?_
      refine y_getR C fX11_73 one_11 lay_11_34 dX11_lastOf_99 102 rfl ?_
      refine z_iload_n C 2 rfl 3 rfl dX11_lastOf_102 103 rfl ?_
      refine y_iald C lay_11_34.2 rfl dX11_lastOf_103 104 rfl rfl (fun _ => ?_)
      refine z_icmp_le C dX11_lastOf_104 111 (by decide) 107 rfl rfl rfl (fun _ => ?_) (fun _ => ?_)
      · refine z_lv (lv' := [(0, vr G 143), (1, vi x1), (2, vi x2), (3, vi x3), (4, vi s0)]) [1, 2, 3, 4, 0] rfl ?_
        exact pX11_lastOf_L111 C R hR F σ x1 c5 hc5 x2 x3 s0
      · refine z_iconst C dX11_lastOf_107 108 rfl ?_
        refine z_goto C dX11_lastOf_108 112 (by decide) ?_
        refine z_lv (lv' := [(0, vr G 143), (1, vi x1), (2, vi x2), (3, vi x3), (4, vi s0)]) [1, 2, 3, 4, 0] rfl ?_
        exact pX11_lastOf_L112 C R hR F σ x1 c5 hc5 x2 x3 s0 1
set_option maxRecDepth 100000 in
set_option maxHeartbeats 4000000 in
theorem pX11_lastOf_L54 {X : MX} {G : GG} (C : CX X G 6 cX11_lastOf RX11) (R : RT X (some .int)) (hR : mR X = rmX11_lastOf) (F : Nat) (σ : St) (x1 : Int) (c5 : Int → Int → Option (Int)) (hc5 : ∀ (x2 : Int) (x3 : Int), ZZ X G 6 (QM X G vzI (wzR σ) (0, 0)) (0, 0) (c5 x2 x3) (w0 σ) 5 [(0, vr G 143), (1, vi x1), (2, vi x2), (3, vi x3)] []) : ∀ (x2 : Int) (x3 : Int), ZZ X G 6 (QM X G vzI (wzR σ) (0, 0)) (0, 0) (gX11_lastOf_L54 F σ x1 c5 x2 x3) (w0 σ) 54 [(0, vr G 143), (1, vi x1), (2, vi x2), (3, vi x3)] [] := by
  intro x2 x3
  show ZZ X G 6 (QM X G vzI (wzR σ) (0, 0)) (0, 0) (gX11_lastOf_L59 F σ x1 c5 x2 x3 1) (w0 σ) 54 [(0, vr G 143), (1, vi x1), (2, vi x2), (3, vi x3)] []
  refine z_iconst C dX11_lastOf_54 55 rfl ?_
  refine z_goto C dX11_lastOf_55 59 (by decide) ?_
  exact pX11_lastOf_L59 C R hR F σ x1 c5 hc5 x2 x3 1
set_option maxRecDepth 100000 in
set_option maxHeartbeats 4000000 in
theorem pX11_lastOf_L5 {X : MX} {G : GG} (C : CX X G 6 cX11_lastOf RX11) (R : RT X (some .int)) (hR : mR X = rmX11_lastOf) (F : Nat) (σ : St) (x1 : Int)  : ∀ (n : Nat) (x2 : Int) (x3 : Int), ZZ X G 6 (QM X G vzI (wzR σ) (0, 0)) (0, 0) (gX11_lastOf_L5 F σ x1 n x2 x3) (w0 σ) 5 [(0, vr G 143), (1, vi x1), (2, vi x2), (3, vi x3)] [] := by
  intro n
  induction n with
  | zero =>
    intro _ _
    exact z_none
  | succ n ih =>
    intro x2 x3
    show ZZ X G 6 (QM X G vzI (wzR σ) (0, 0)) (0, 0) (if w32 x3 ≥ w32 (σ 143 27) then some x2 else gd (0 ≤ w32 x3 ∧ w32 x3 < 9) (if w32 (σ 164 (w32 x3)) ≠ w32 x1 then gX11_lastOf_L130 F σ x1 (gX11_lastOf_L5 F σ x1 n) x2 x3 else if w32 x2 = (-4) then gX11_lastOf_L54 F σ x1 (gX11_lastOf_L5 F σ x1 n) x2 x3 else gd (0 ≤ w32 ((6 * x3) + x1) ∧ w32 ((6 * x3) + x1) < 54) (gd (0 ≤ w32 ((6 * x2) + x1) ∧ w32 ((6 * x2) + x1) < 54) (if w32 (σ 162 (w32 ((6 * x3) + x1))) ≥ w32 (σ 162 (w32 ((6 * x2) + x1))) then gX11_lastOf_L59 F σ x1 (gX11_lastOf_L5 F σ x1 n) x2 x3 0 else gX11_lastOf_L54 F σ x1 (gX11_lastOf_L5 F σ x1 n) x2 x3)))) (w0 σ) 5 [(0, vr G 143), (1, vi x1), (2, vi x2), (3, vi x3)] []
    refine z_iload_n C 3 rfl 3 rfl dX11_lastOf_5 6 rfl ?_
    refine z_aload_n C 0 rfl 0 rfl dX11_lastOf_6 7 rfl ?_
    refine y_getI C fX11_243 one_11 dX11_lastOf_7 10 rfl ?_
    refine z_icmp_ge C dX11_lastOf_10 136 (by decide) 13 rfl rfl rfl (fun _ => ?_) (fun _ => ?_)
    · refine z_iload_n C 2 rfl 2 rfl dX11_lastOf_136 137 rfl ?_
      exact z_iret C R rfl rfl dX11_lastOf_137
    · refine z_aload_n C 0 rfl 0 rfl dX11_lastOf_13 14 rfl ?_
      refine y_getR C fX11_70 one_11 lay_11_33 dX11_lastOf_14 17 rfl ?_
      refine z_iload_n C 3 rfl 3 rfl dX11_lastOf_17 18 rfl ?_
      refine y_iald C lay_11_33.2 rfl dX11_lastOf_18 19 rfl rfl (fun _ => ?_)
      refine z_iload_n C 1 rfl 1 rfl dX11_lastOf_19 20 rfl ?_
      refine z_icmp_ne C dX11_lastOf_20 130 (by decide) 23 rfl rfl rfl (fun _ => ?_) (fun _ => ?_)
      · exact pX11_lastOf_L130 C R hR F σ x1 (gX11_lastOf_L5 F σ x1 n) ih x2 x3
      · refine z_iload_n C 2 rfl 2 rfl dX11_lastOf_23 24 rfl ?_
        refine z_bipush C (by decide) dX11_lastOf_24 26 rfl ?_
        refine z_icmp_eq C dX11_lastOf_26 54 (by decide) 29 rfl rfl (w32_id (a := (-4)) (by decide)) (fun _ => ?_) (fun _ => ?_)
        · exact pX11_lastOf_L54 C R hR F σ x1 (gX11_lastOf_L5 F σ x1 n) ih x2 x3
        · refine z_aload_n C 0 rfl 0 rfl dX11_lastOf_29 30 rfl ?_
          refine y_getR C fX11_64 one_11 lay_11_31 dX11_lastOf_30 33 rfl ?_
          refine z_bipush C (by decide) dX11_lastOf_33 35 rfl ?_
          refine z_iload_n C 3 rfl 3 rfl dX11_lastOf_35 36 rfl ?_
          refine z_imul C dX11_lastOf_36 37 rfl ?_
          refine z_iload_n C 1 rfl 1 rfl dX11_lastOf_37 38 rfl ?_
          refine z_iadd C dX11_lastOf_38 39 rfl ?_
          refine y_iald C lay_11_31.2 rfl dX11_lastOf_39 40 rfl rfl (fun _ => ?_)
          refine z_aload_n C 0 rfl 0 rfl dX11_lastOf_40 41 rfl ?_
          refine y_getR C fX11_64 one_11 lay_11_31 dX11_lastOf_41 44 rfl ?_
          refine z_bipush C (by decide) dX11_lastOf_44 46 rfl ?_
          refine z_iload_n C 2 rfl 2 rfl dX11_lastOf_46 47 rfl ?_
          refine z_imul C dX11_lastOf_47 48 rfl ?_
          refine z_iload_n C 1 rfl 1 rfl dX11_lastOf_48 49 rfl ?_
          refine z_iadd C dX11_lastOf_49 50 rfl ?_
          refine y_iald C lay_11_31.2 rfl dX11_lastOf_50 51 rfl rfl (fun _ => ?_)
          refine z_icmp_ge C dX11_lastOf_51 58 (by decide) 54 rfl rfl rfl (fun _ => ?_) (fun _ => ?_)
          · refine z_iconst C dX11_lastOf_58 59 rfl ?_
            exact pX11_lastOf_L59 C R hR F σ x1 (gX11_lastOf_L5 F σ x1 n) ih x2 x3 0
          · exact pX11_lastOf_L54 C R hR F σ x1 (gX11_lastOf_L5 F σ x1 n) ih x2 x3
set_option maxRecDepth 100000 in
set_option maxHeartbeats 4000000 in
theorem tX11_lastOf (l : Launch) (G : GG) (F : Nat) (σ : St) (x1 : Int) : Ctr l G yX11_lastOf cX11_lastOf 6 (some .int) rmX11_lastOf [vr G 143, vi x1] (w0 σ) vzI (wzR σ) (gX11_lastOf F σ x1) := by
  refine ctr_of (by decide) (Nat.le_of_ble_eq_true rfl) mwX11_lastOf.1 (fun X hl hR C R hnm => ?_)
  subst hl
  refine z_lv (lv' := [(0, vr G 143), (1, vi x1)]) [0, 1] rfl ?_
  show ZZ X G 6 (QM X G vzI (wzR σ) (0, 0)) (0, 0) (gX11_lastOf_L5 F σ x1 F ((-4)) 0) (w0 σ) 0 [(0, vr G 143), (1, vi x1)] []
  refine z_bipush C (by decide) dX11_lastOf_0 2 rfl ?_
  refine z_istore_n (lv' := [(2, vi ((-4))), (0, vr G 143), (1, vi x1)]) C 2 rfl (by decide) dX11_lastOf_2 3 rfl rfl ?_
  refine z_iconst C dX11_lastOf_3 4 rfl ?_
  refine z_istore_n (lv' := [(3, vi 0), (2, vi ((-4))), (0, vr G 143), (1, vi x1)]) C 3 rfl (by decide) dX11_lastOf_4 5 rfl rfl ?_
  refine z_lv (lv' := [(0, vr G 143), (1, vi x1), (2, vi ((-4))), (3, vi 0)]) [2, 3, 1, 0] rfl ?_
  exact pX11_lastOf_L5 C R hR F σ x1 F ((-4)) 0
-- keyOf
def gX11_keyOf (F : Nat) (σ : St) (x1 : Int) (x2 : Int) (x3 : Int) : Option (Int) := gd (0 ≤ w32 x3 ∧ w32 x3 < 6) ((gX11_heldBy F σ x3).bind fun r1 => if w32 x1 = 0 then gd (0 ≤ w32 ((6 * x2) + x3) ∧ w32 ((6 * x2) + x3) < 54) (some (σ 162 (w32 ((6 * x2) + x3)))) else if w32 x1 = 1 then gd (0 ≤ w32 x3 ∧ w32 x3 < 6) (gd (w32 (σ 159 (w32 x3)) ≠ 0) (some (idv (100 * ((σ 159 (w32 x3)) - r1)) (σ 159 (w32 x3))))) else if w32 x1 = 2 then some ((σ 159 (w32 x3)) - r1) else if w32 x1 = 3 then gd (0 ≤ w32 x3 ∧ w32 x3 < 6) (some (σ 160 (w32 x3))) else if w32 x1 = 4 then gd (0 ≤ w32 x3 ∧ w32 x3 < 6) (some (σ 163 (w32 x3))) else some x3)
def rmX11_keyOf : Room := { frames := 1, cells := 0, slots := 0, locals := 23 }
set_option maxRecDepth 100000 in
set_option maxHeartbeats 4000000 in
theorem tX11_keyOf (l : Launch) (G : GG) (F : Nat) (σ : St) (x1 : Int) (x2 : Int) (x3 : Int) : Ctr l G yX11_keyOf cX11_keyOf 5 (some .int) rmX11_keyOf [vr G 143, vi x1, vi x2, vi x3] (w0 σ) vzI (wzR σ) (gX11_keyOf F σ x1 x2 x3) := by
  refine ctr_of (by decide) (Nat.le_of_ble_eq_true rfl) mwX11_keyOf.1 (fun X hl hR C R hnm => ?_)
  subst hl
  refine z_lv (lv' := [(0, vr G 143), (1, vi x1), (2, vi x2), (3, vi x3)]) [0, 1, 2, 3] rfl ?_
  show ZZ X G 5 (QM X G vzI (wzR σ) (0, 0)) (0, 0) (gd (0 ≤ w32 x3 ∧ w32 x3 < 6) ((gX11_heldBy F σ x3).bind fun r1 => if w32 x1 = 0 then gd (0 ≤ w32 ((6 * x2) + x3) ∧ w32 ((6 * x2) + x3) < 54) (some (σ 162 (w32 ((6 * x2) + x3)))) else if w32 x1 = 1 then gd (0 ≤ w32 x3 ∧ w32 x3 < 6) (gd (w32 (σ 159 (w32 x3)) ≠ 0) (some (idv (100 * ((σ 159 (w32 x3)) - r1)) (σ 159 (w32 x3))))) else if w32 x1 = 2 then some ((σ 159 (w32 x3)) - r1) else if w32 x1 = 3 then gd (0 ≤ w32 x3 ∧ w32 x3 < 6) (some (σ 160 (w32 x3))) else if w32 x1 = 4 then gd (0 ≤ w32 x3 ∧ w32 x3 < 6) (some (σ 163 (w32 x3))) else some x3)) (w0 σ) 0 [(0, vr G 143), (1, vi x1), (2, vi x2), (3, vi x3)] []
  refine z_aload_n C 0 rfl 0 rfl dX11_keyOf_0 1 rfl ?_
  refine y_getR C fX11_55 one_11 lay_11_28 dX11_keyOf_1 4 rfl ?_
  refine z_iload_n C 3 rfl 3 rfl dX11_keyOf_4 5 rfl ?_
  refine y_iald C lay_11_28.2 rfl dX11_keyOf_5 6 rfl rfl (fun _ => ?_)
  refine z_aload_n C 0 rfl 0 rfl dX11_keyOf_6 7 rfl ?_
  refine z_iload_n C 3 rfl 3 rfl dX11_keyOf_7 8 rfl ?_
  refine y_callVI C hR (tX11_heldBy (mL X) G F σ x3) ⟨mwX11_heldBy, mvX11_heldBy, lkX11_249⟩ one_11 rfl rfl (Nat.le_of_ble_eq_true rfl) (by unfold rmOK; decide) dX11_keyOf_8 11 rfl (fun r1 _ => ?_)
  refine z_isub C dX11_keyOf_11 12 rfl ?_
  refine z_istore (lv' := [(4, vi ((σ 159 (w32 x3)) - r1)), (0, vr G 143), (1, vi x1), (2, vi x2), (3, vi x3)]) C (by decide) dX11_keyOf_12 14 rfl rfl ?_
  refine z_iload_n C 1 rfl 2 rfl dX11_keyOf_14 15 rfl ?_
  refine z_ite (fun hq0 => ?_) (fun hn0 => ?_)
  · refine z_tin C dX11_keyOf_15 (v := 0) (hq0) (by decide) rfl 48 (by decide) ?_
    refine z_aload_n C 0 rfl 1 rfl dX11_keyOf_48 49 rfl ?_
    refine y_getR C fX11_64 one_11 lay_11_31 dX11_keyOf_49 52 rfl ?_
    refine z_bipush C (by decide) dX11_keyOf_52 54 rfl ?_
    refine z_iload_n C 2 rfl 3 rfl dX11_keyOf_54 55 rfl ?_
    refine z_imul C dX11_keyOf_55 56 rfl ?_
    refine z_iload_n C 3 rfl 4 rfl dX11_keyOf_56 57 rfl ?_
    refine z_iadd C dX11_keyOf_57 58 rfl ?_
    refine y_iald C lay_11_31.2 rfl dX11_keyOf_58 59 rfl rfl (fun _ => ?_)
    exact z_iret C R rfl rfl dX11_keyOf_59
  refine z_ite (fun hq1 => ?_) (fun hn1 => ?_)
  · refine z_tin C dX11_keyOf_15 (v := 1) (hq1) (by decide) rfl 60 (by decide) ?_
    refine z_bipush C (by decide) dX11_keyOf_60 62 rfl ?_
    refine z_iload C 0 rfl dX11_keyOf_62 64 rfl ?_
    refine z_imul C dX11_keyOf_64 65 rfl ?_
    refine z_aload_n C 0 rfl 1 rfl dX11_keyOf_65 66 rfl ?_
    refine y_getR C fX11_55 one_11 lay_11_28 dX11_keyOf_66 69 rfl ?_
    refine z_iload_n C 3 rfl 4 rfl dX11_keyOf_69 70 rfl ?_
    refine y_iald C lay_11_28.2 rfl dX11_keyOf_70 71 rfl rfl (fun _ => ?_)
    refine z_idiv C dX11_keyOf_71 72 rfl ?_
    exact z_iret C R rfl rfl dX11_keyOf_72
  refine z_ite (fun hq2 => ?_) (fun hn2 => ?_)
  · refine z_tin C dX11_keyOf_15 (v := 2) (hq2) (by decide) rfl 73 (by decide) ?_
    refine z_iload C 0 rfl dX11_keyOf_73 75 rfl ?_
    exact z_iret C R rfl rfl dX11_keyOf_75
  refine z_ite (fun hq3 => ?_) (fun hn3 => ?_)
  · refine z_tin C dX11_keyOf_15 (v := 3) (hq3) (by decide) rfl 76 (by decide) ?_
    refine z_aload_n C 0 rfl 1 rfl dX11_keyOf_76 77 rfl ?_
    refine y_getR C fX11_58 one_11 lay_11_29 dX11_keyOf_77 80 rfl ?_
    refine z_iload_n C 3 rfl 4 rfl dX11_keyOf_80 81 rfl ?_
    refine y_iald C lay_11_29.2 rfl dX11_keyOf_81 82 rfl rfl (fun _ => ?_)
    exact z_iret C R rfl rfl dX11_keyOf_82
  refine z_ite (fun hq4 => ?_) (fun hn4 => ?_)
  · refine z_tin C dX11_keyOf_15 (v := 4) (hq4) (by decide) rfl 83 (by decide) ?_
    refine z_aload_n C 0 rfl 1 rfl dX11_keyOf_83 84 rfl ?_
    refine y_getR C fX11_67 one_11 lay_11_32 dX11_keyOf_84 87 rfl ?_
    refine z_iload_n C 3 rfl 4 rfl dX11_keyOf_87 88 rfl ?_
    refine y_iald C lay_11_32.2 rfl dX11_keyOf_88 89 rfl rfl (fun _ => ?_)
    exact z_iret C R rfl rfl dX11_keyOf_89
  refine z_tout C dX11_keyOf_15 (by omega) 90 (by decide) ?_
  refine z_iload_n C 3 rfl 4 rfl dX11_keyOf_90 91 rfl ?_
  exact z_iret C R rfl rfl dX11_keyOf_91
-- canHave
def gX11_canHave_L185 (F : Nat) (σ : St) (x1 : Int) (x2 : Int) (x3 : Int) (c101 : Int → Int → Option (Int)) (x7 : Int) (s0 : Int) : Option (Int) := c101 s0 (x7 + 1)
def gX11_canHave_L101 (F : Nat) (σ : St) (x1 : Int) (x2 : Int) (x3 : Int) : Nat → Int → Int → Option (Int)
  | 0, _, _ => none
  | n + 1, x6, x7 => gd (0 ≤ w32 x1 ∧ w32 x1 < 6) (if w32 x7 ≥ w32 ((4 * x1) + (σ 152 (w32 x1))) then some (b1 x6) else if w32 x6 = 0 then some (b1 x6) else gd (0 ≤ w32 x7 ∧ w32 x7 < 24) ((gX11_keyOf F σ (σ 153 (w32 x7)) x2 x3).bind fun r1 => gd (0 ≤ w32 x7 ∧ w32 x7 < 24) (if w32 (σ 154 (w32 x7)) ≠ 60 then gd (0 ≤ w32 x7 ∧ w32 x7 < 24) (if w32 r1 ≤ w32 (σ 155 (w32 x7)) then gX11_canHave_L185 F σ x1 x2 x3 (gX11_canHave_L101 F σ x1 x2 x3 n) x7 0 else gX11_canHave_L185 F σ x1 x2 x3 (gX11_canHave_L101 F σ x1 x2 x3 n) x7 1) else gd (0 ≤ w32 x7 ∧ w32 x7 < 24) (if w32 r1 ≥ w32 (σ 155 (w32 x7)) then gX11_canHave_L185 F σ x1 x2 x3 (gX11_canHave_L101 F σ x1 x2 x3 n) x7 0 else gX11_canHave_L185 F σ x1 x2 x3 (gX11_canHave_L101 F σ x1 x2 x3 n) x7 1))))
def gX11_canHave_L94 (F : Nat) (σ : St) (x1 : Int) (x2 : Int) (x3 : Int) (s0 : Int) : Option (Int) := gX11_canHave_L101 F σ x1 x2 x3 F s0 (4 * x1)
def gX11_canHave_L93 (F : Nat) (σ : St) (x1 : Int) (x2 : Int) (x3 : Int)  : Option (Int) := gX11_canHave_L94 F σ x1 x2 x3 0
def gX11_canHave_L89 (F : Nat) (σ : St) (x1 : Int) (x2 : Int) (x3 : Int)  : Option (Int) := gX11_canHave_L94 F σ x1 x2 x3 1
def gX11_canHave_L32 (F : Nat) (σ : St) (x1 : Int) (x2 : Int) (x3 : Int) (x4 : Int) (s0 : Int) : Option (Int) := if w32 x4 ≤ 0 then gX11_canHave_L93 F σ x1 x2 x3 else gd (0 ≤ w32 x3 ∧ w32 x3 < 6) (gd (0 ≤ w32 x3 ∧ w32 x3 < 6) (if w32 (σ 163 (w32 x3)) ≥ w32 (σ 161 (w32 x3)) then gX11_canHave_L93 F σ x1 x2 x3 else if w32 s0 ≠ 0 then gX11_canHave_L89 F σ x1 x2 x3 else gd (0 ≤ w32 x1 ∧ w32 x1 < 6) (if w32 (σ 156 (w32 x1)) ≠ 1 then gX11_canHave_L93 F σ x1 x2 x3 else (gX11_lastOf F σ x3).bind fun r1 => gd (0 ≤ w32 ((6 * r1) + x3) ∧ w32 ((6 * r1) + x3) < 54) (if w32 (σ 162 (w32 ((6 * r1) + x3))) ≥ w32 x4 then gX11_canHave_L93 F σ x1 x2 x3 else gX11_canHave_L89 F σ x1 x2 x3))))
def gX11_canHave (F : Nat) (σ : St) (x1 : Int) (x2 : Int) (x3 : Int) : Option (Int) := gd (0 ≤ w32 ((6 * x2) + x3) ∧ w32 ((6 * x2) + x3) < 54) ((gX11_heldBy F σ x3).bind fun r1 => gd (0 ≤ w32 x3 ∧ w32 x3 < 6) (if w32 r1 ≥ w32 (σ 159 (w32 x3)) then gX11_canHave_L32 F σ x1 x2 x3 (σ 162 (w32 ((6 * x2) + x3))) 0 else gX11_canHave_L32 F σ x1 x2 x3 (σ 162 (w32 ((6 * x2) + x3))) 1))
def rmX11_canHave : Room := { frames := 2, cells := 0, slots := 0, locals := 47 }
set_option maxRecDepth 100000 in
set_option maxHeartbeats 4000000 in
theorem pX11_canHave_L185 {X : MX} {G : GG} (C : CX X G 9 cX11_canHave RX11) (R : RT X (some .boolean)) (hR : mR X = rmX11_canHave) (F : Nat) (σ : St) (x1 : Int) (x2 : Int) (x3 : Int) (c101 : Int → Int → Option (Int)) (hc101 : ∀ (x6 : Int) (x7 : Int), ZZ X G 9 (QM X G vzI (wzR σ) (0, 0)) (0, 0) (c101 x6 x7) (w0 σ) 101 [(0, vr G 143), (1, vi x1), (2, vi x2), (3, vi x3), (6, vi x6), (7, vi x7)] []) : ∀ (x7 : Int) (s0 : Int), ZZ X G 9 (QM X G vzI (wzR σ) (0, 0)) (0, 0) (gX11_canHave_L185 F σ x1 x2 x3 c101 x7 s0) (w0 σ) 185 [(0, vr G 143), (1, vi x1), (2, vi x2), (3, vi x3), (7, vi x7)] [vi s0] := by
  intro x7 s0
  show ZZ X G 9 (QM X G vzI (wzR σ) (0, 0)) (0, 0) (c101 s0 (x7 + 1)) (w0 σ) 185 [(0, vr G 143), (1, vi x1), (2, vi x2), (3, vi x3), (7, vi x7)] [vi s0]
  refine z_istore (lv' := [(6, vi s0), (0, vr G 143), (1, vi x1), (2, vi x2), (3, vi x3), (7, vi x7)]) C (by decide) dX11_canHave_185 187 rfl rfl ?_
  refine z_iinc (lv' := [(7, vi (x7 + 1)), (6, vi s0), (0, vr G 143), (1, vi x1), (2, vi x2), (3, vi x3)]) C (by decide) 5 rfl dX11_canHave_187 190 rfl rfl ?_
  refine z_goto C dX11_canHave_190 101 (by decide) ?_
  refine z_lv (lv' := [(0, vr G 143), (1, vi x1), (2, vi x2), (3, vi x3), (6, vi s0), (7, vi (x7 + 1))]) [2, 3, 4, 5, 1, 0] rfl ?_
  exact hc101 s0 (x7 + 1)
set_option maxRecDepth 100000 in
set_option maxHeartbeats 4000000 in
theorem pX11_canHave_L101 {X : MX} {G : GG} (C : CX X G 9 cX11_canHave RX11) (R : RT X (some .boolean)) (hR : mR X = rmX11_canHave) (F : Nat) (σ : St) (x1 : Int) (x2 : Int) (x3 : Int)  : ∀ (n : Nat) (x6 : Int) (x7 : Int), ZZ X G 9 (QM X G vzI (wzR σ) (0, 0)) (0, 0) (gX11_canHave_L101 F σ x1 x2 x3 n x6 x7) (w0 σ) 101 [(0, vr G 143), (1, vi x1), (2, vi x2), (3, vi x3), (6, vi x6), (7, vi x7)] [] := by
  intro n
  induction n with
  | zero =>
    intro _ _
    exact z_none
  | succ n ih =>
    intro x6 x7
    show ZZ X G 9 (QM X G vzI (wzR σ) (0, 0)) (0, 0) (gd (0 ≤ w32 x1 ∧ w32 x1 < 6) (if w32 x7 ≥ w32 ((4 * x1) + (σ 152 (w32 x1))) then some (b1 x6) else if w32 x6 = 0 then some (b1 x6) else gd (0 ≤ w32 x7 ∧ w32 x7 < 24) ((gX11_keyOf F σ (σ 153 (w32 x7)) x2 x3).bind fun r1 => gd (0 ≤ w32 x7 ∧ w32 x7 < 24) (if w32 (σ 154 (w32 x7)) ≠ 60 then gd (0 ≤ w32 x7 ∧ w32 x7 < 24) (if w32 r1 ≤ w32 (σ 155 (w32 x7)) then gX11_canHave_L185 F σ x1 x2 x3 (gX11_canHave_L101 F σ x1 x2 x3 n) x7 0 else gX11_canHave_L185 F σ x1 x2 x3 (gX11_canHave_L101 F σ x1 x2 x3 n) x7 1) else gd (0 ≤ w32 x7 ∧ w32 x7 < 24) (if w32 r1 ≥ w32 (σ 155 (w32 x7)) then gX11_canHave_L185 F σ x1 x2 x3 (gX11_canHave_L101 F σ x1 x2 x3 n) x7 0 else gX11_canHave_L185 F σ x1 x2 x3 (gX11_canHave_L101 F σ x1 x2 x3 n) x7 1))))) (w0 σ) 101 [(0, vr G 143), (1, vi x1), (2, vi x2), (3, vi x3), (6, vi x6), (7, vi x7)] []
    refine z_iload C 5 rfl dX11_canHave_101 103 rfl ?_
    refine z_iconst C dX11_canHave_103 104 rfl ?_
    refine z_iload_n C 1 rfl 1 rfl dX11_canHave_104 105 rfl ?_
    refine z_imul C dX11_canHave_105 106 rfl ?_
    refine z_aload_n C 0 rfl 0 rfl dX11_canHave_106 107 rfl ?_
    refine y_getR C fX11_34 one_11 lay_11_19 dX11_canHave_107 110 rfl ?_
    refine z_iload_n C 1 rfl 1 rfl dX11_canHave_110 111 rfl ?_
    refine y_iald C lay_11_19.2 rfl dX11_canHave_111 112 rfl rfl (fun _ => ?_)
    refine z_iadd C dX11_canHave_112 113 rfl ?_
    refine z_icmp_ge C dX11_canHave_113 193 (by decide) 116 rfl rfl rfl (fun _ => ?_) (fun _ => ?_)
    · refine z_iload C 4 rfl dX11_canHave_193 195 rfl ?_
      exact z_zretb C R rfl rfl dX11_canHave_195
    · refine z_iload C 4 rfl dX11_canHave_116 118 rfl ?_
      refine z_if_eq C dX11_canHave_118 193 (by decide) 121 rfl rfl (fun _ => ?_) (fun _ => ?_)
      · refine z_iload C 4 rfl dX11_canHave_193 195 rfl ?_
        exact z_zretb C R rfl rfl dX11_canHave_195
      · refine z_aload_n C 0 rfl 0 rfl dX11_canHave_121 122 rfl ?_
        refine z_aload_n C 0 rfl 0 rfl dX11_canHave_122 123 rfl ?_
        refine y_getR C fX11_37 one_11 lay_11_20 dX11_canHave_123 126 rfl ?_
        refine z_iload C 5 rfl dX11_canHave_126 128 rfl ?_
        refine y_iald C lay_11_20.2 rfl dX11_canHave_128 129 rfl rfl (fun _ => ?_)
        refine z_iload_n C 2 rfl 2 rfl dX11_canHave_129 130 rfl ?_
        refine z_iload_n C 3 rfl 3 rfl dX11_canHave_130 131 rfl ?_
        refine y_callVI C hR (tX11_keyOf (mL X) G F σ (σ 153 (w32 x7)) x2 x3) ⟨mwX11_keyOf, mvX11_keyOf, lkX11_255⟩ one_11 rfl rfl (Nat.le_of_ble_eq_true rfl) (by unfold rmOK; decide) dX11_canHave_131 134 rfl (fun r1 _ => ?_)
        refine z_istore (lv' := [(8, vi r1), (0, vr G 143), (1, vi x1), (2, vi x2), (3, vi x3), (6, vi x6), (7, vi x7)]) C (by decide) dX11_canHave_134 136 rfl rfl ?_
        refine z_aload_n C 0 rfl 1 rfl dX11_canHave_136 137 rfl ?_
        refine y_getR C fX11_40 one_11 lay_11_21 dX11_canHave_137 140 rfl ?_
        refine z_iload C 6 rfl dX11_canHave_140 142 rfl ?_
        refine y_iald C lay_11_21.2 rfl dX11_canHave_142 143 rfl rfl (fun _ => ?_)
        refine z_bipush C (by decide) dX11_canHave_143 145 rfl ?_
        refine z_icmp_ne C dX11_canHave_145 168 (by decide) 148 rfl rfl (w32_id (a := 60) (by decide)) (fun _ => ?_) (fun _ => ?_)
        · refine z_iload C 0 rfl dX11_canHave_168 170 rfl ?_
          refine z_aload_n C 0 rfl 1 rfl dX11_canHave_170 171 rfl ?_
          refine y_getR C fX11_43 one_11 lay_11_22 dX11_canHave_171 174 rfl ?_
          refine z_iload C 6 rfl dX11_canHave_174 176 rfl ?_
          refine y_iald C lay_11_22.2 rfl dX11_canHave_176 177 rfl rfl (fun _ => ?_)
          refine z_icmp_le C dX11_canHave_177 184 (by decide) 180 rfl rfl rfl (fun _ => ?_) (fun _ => ?_)
          · refine z_iconst C dX11_canHave_184 185 rfl ?_
            refine z_lv (lv' := [(0, vr G 143), (1, vi x1), (2, vi x2), (3, vi x3), (7, vi x7)]) [1, 2, 3, 4, 6] rfl ?_
            exact pX11_canHave_L185 C R hR F σ x1 x2 x3 (gX11_canHave_L101 F σ x1 x2 x3 n) ih x7 0
          · refine z_iconst C dX11_canHave_180 181 rfl ?_
            refine z_goto C dX11_canHave_181 185 (by decide) ?_
            refine z_lv (lv' := [(0, vr G 143), (1, vi x1), (2, vi x2), (3, vi x3), (7, vi x7)]) [1, 2, 3, 4, 6] rfl ?_
            exact pX11_canHave_L185 C R hR F σ x1 x2 x3 (gX11_canHave_L101 F σ x1 x2 x3 n) ih x7 1
        · refine z_iload C 0 rfl dX11_canHave_148 150 rfl ?_
          refine z_aload_n C 0 rfl 1 rfl dX11_canHave_150 151 rfl ?_
          refine y_getR C fX11_43 one_11 lay_11_22 dX11_canHave_151 154 rfl ?_
          refine z_iload C 6 rfl dX11_canHave_154 156 rfl ?_
          refine y_iald C lay_11_22.2 rfl dX11_canHave_156 157 rfl rfl (fun _ => ?_)
          refine z_icmp_ge C dX11_canHave_157 164 (by decide) 160 rfl rfl rfl (fun _ => ?_) (fun _ => ?_)
          · refine z_iconst C dX11_canHave_164 165 rfl ?_
            refine z_goto C dX11_canHave_165 185 (by decide) ?_
            refine z_lv (lv' := [(0, vr G 143), (1, vi x1), (2, vi x2), (3, vi x3), (7, vi x7)]) [1, 2, 3, 4, 6] rfl ?_
            exact pX11_canHave_L185 C R hR F σ x1 x2 x3 (gX11_canHave_L101 F σ x1 x2 x3 n) ih x7 0
          · refine z_iconst C dX11_canHave_160 161 rfl ?_
            refine z_goto C dX11_canHave_161 185 (by decide) ?_
            refine z_lv (lv' := [(0, vr G 143), (1, vi x1), (2, vi x2), (3, vi x3), (7, vi x7)]) [1, 2, 3, 4, 6] rfl ?_
            exact pX11_canHave_L185 C R hR F σ x1 x2 x3 (gX11_canHave_L101 F σ x1 x2 x3 n) ih x7 1
set_option maxRecDepth 100000 in
set_option maxHeartbeats 4000000 in
theorem pX11_canHave_L94 {X : MX} {G : GG} (C : CX X G 9 cX11_canHave RX11) (R : RT X (some .boolean)) (hR : mR X = rmX11_canHave) (F : Nat) (σ : St) (x1 : Int) (x2 : Int) (x3 : Int)  : ∀ (s0 : Int), ZZ X G 9 (QM X G vzI (wzR σ) (0, 0)) (0, 0) (gX11_canHave_L94 F σ x1 x2 x3 s0) (w0 σ) 94 [(0, vr G 143), (1, vi x1), (2, vi x2), (3, vi x3)] [vi s0] := by
  intro s0
  show ZZ X G 9 (QM X G vzI (wzR σ) (0, 0)) (0, 0) (gX11_canHave_L101 F σ x1 x2 x3 F s0 (4 * x1)) (w0 σ) 94 [(0, vr G 143), (1, vi x1), (2, vi x2), (3, vi x3)] [vi s0]
  refine z_istore (lv' := [(6, vi s0), (0, vr G 143), (1, vi x1), (2, vi x2), (3, vi x3)]) C (by decide) dX11_canHave_94 96 rfl rfl ?_
  refine z_iconst C dX11_canHave_96 97 rfl ?_
  refine z_iload_n C 1 rfl 2 rfl dX11_canHave_97 98 rfl ?_
  refine z_imul C dX11_canHave_98 99 rfl ?_
  refine z_istore (lv' := [(7, vi (4 * x1)), (6, vi s0), (0, vr G 143), (1, vi x1), (2, vi x2), (3, vi x3)]) C (by decide) dX11_canHave_99 101 rfl rfl ?_
  refine z_lv (lv' := [(0, vr G 143), (1, vi x1), (2, vi x2), (3, vi x3), (6, vi s0), (7, vi (4 * x1))]) [2, 3, 4, 5, 1, 0] rfl ?_
  exact pX11_canHave_L101 C R hR F σ x1 x2 x3 F s0 (4 * x1)
set_option maxRecDepth 100000 in
set_option maxHeartbeats 4000000 in
theorem pX11_canHave_L93 {X : MX} {G : GG} (C : CX X G 9 cX11_canHave RX11) (R : RT X (some .boolean)) (hR : mR X = rmX11_canHave) (F : Nat) (σ : St) (x1 : Int) (x2 : Int) (x3 : Int)  : ZZ X G 9 (QM X G vzI (wzR σ) (0, 0)) (0, 0) (gX11_canHave_L93 F σ x1 x2 x3) (w0 σ) 93 [(0, vr G 143), (1, vi x1), (2, vi x2), (3, vi x3)] [] := by
  show ZZ X G 9 (QM X G vzI (wzR σ) (0, 0)) (0, 0) (gX11_canHave_L94 F σ x1 x2 x3 0) (w0 σ) 93 [(0, vr G 143), (1, vi x1), (2, vi x2), (3, vi x3)] []
  refine z_iconst C dX11_canHave_93 94 rfl ?_
  exact pX11_canHave_L94 C R hR F σ x1 x2 x3 0
set_option maxRecDepth 100000 in
set_option maxHeartbeats 4000000 in
theorem pX11_canHave_L89 {X : MX} {G : GG} (C : CX X G 9 cX11_canHave RX11) (R : RT X (some .boolean)) (hR : mR X = rmX11_canHave) (F : Nat) (σ : St) (x1 : Int) (x2 : Int) (x3 : Int)  : ZZ X G 9 (QM X G vzI (wzR σ) (0, 0)) (0, 0) (gX11_canHave_L89 F σ x1 x2 x3) (w0 σ) 89 [(0, vr G 143), (1, vi x1), (2, vi x2), (3, vi x3)] [] := by
  show ZZ X G 9 (QM X G vzI (wzR σ) (0, 0)) (0, 0) (gX11_canHave_L94 F σ x1 x2 x3 1) (w0 σ) 89 [(0, vr G 143), (1, vi x1), (2, vi x2), (3, vi x3)] []
  refine z_iconst C dX11_canHave_89 90 rfl ?_
  refine z_goto C dX11_canHave_90 94 (by decide) ?_
  exact pX11_canHave_L94 C R hR F σ x1 x2 x3 1
set_option maxRecDepth 100000 in
set_option maxHeartbeats 4000000 in
theorem pX11_canHave_L32 {X : MX} {G : GG} (C : CX X G 9 cX11_canHave RX11) (R : RT X (some .boolean)) (hR : mR X = rmX11_canHave) (F : Nat) (σ : St) (x1 : Int) (x2 : Int) (x3 : Int)  : ∀ (x4 : Int) (s0 : Int), ZZ X G 9 (QM X G vzI (wzR σ) (0, 0)) (0, 0) (gX11_canHave_L32 F σ x1 x2 x3 x4 s0) (w0 σ) 32 [(0, vr G 143), (1, vi x1), (2, vi x2), (3, vi x3), (4, vi x4)] [vi s0] := by
  intro x4 s0
  show ZZ X G 9 (QM X G vzI (wzR σ) (0, 0)) (0, 0) (if w32 x4 ≤ 0 then gX11_canHave_L93 F σ x1 x2 x3 else gd (0 ≤ w32 x3 ∧ w32 x3 < 6) (gd (0 ≤ w32 x3 ∧ w32 x3 < 6) (if w32 (σ 163 (w32 x3)) ≥ w32 (σ 161 (w32 x3)) then gX11_canHave_L93 F σ x1 x2 x3 else if w32 s0 ≠ 0 then gX11_canHave_L89 F σ x1 x2 x3 else gd (0 ≤ w32 x1 ∧ w32 x1 < 6) (if w32 (σ 156 (w32 x1)) ≠ 1 then gX11_canHave_L93 F σ x1 x2 x3 else (gX11_lastOf F σ x3).bind fun r1 => gd (0 ≤ w32 ((6 * r1) + x3) ∧ w32 ((6 * r1) + x3) < 54) (if w32 (σ 162 (w32 ((6 * r1) + x3))) ≥ w32 x4 then gX11_canHave_L93 F σ x1 x2 x3 else gX11_canHave_L89 F σ x1 x2 x3))))) (w0 σ) 32 [(0, vr G 143), (1, vi x1), (2, vi x2), (3, vi x3), (4, vi x4)] [vi s0]
  refine z_istore (lv' := [(5, vi s0), (0, vr G 143), (1, vi x1), (2, vi x2), (3, vi x3), (4, vi x4)]) C (by decide) dX11_canHave_32 34 rfl rfl ?_
  refine z_iload C 5 rfl dX11_canHave_34 36 rfl ?_
  refine z_if_le C dX11_canHave_36 93 (by decide) 39 rfl rfl (fun _ => ?_) (fun _ => ?_)
  · refine z_lv (lv' := [(0, vr G 143), (1, vi x1), (2, vi x2), (3, vi x3)]) [1, 2, 3, 4] rfl ?_
    exact pX11_canHave_L93 C R hR F σ x1 x2 x3
  · refine z_aload_n C 0 rfl 1 rfl dX11_canHave_39 40 rfl ?_
    refine y_getR C fX11_67 one_11 lay_11_32 dX11_canHave_40 43 rfl ?_
    refine z_iload_n C 3 rfl 4 rfl dX11_canHave_43 44 rfl ?_
    refine y_iald C lay_11_32.2 rfl dX11_canHave_44 45 rfl rfl (fun _ => ?_)
    refine z_aload_n C 0 rfl 1 rfl dX11_canHave_45 46 rfl ?_
    refine y_getR C fX11_61 one_11 lay_11_30 dX11_canHave_46 49 rfl ?_
    refine z_iload_n C 3 rfl 4 rfl dX11_canHave_49 50 rfl ?_
    refine y_iald C lay_11_30.2 rfl dX11_canHave_50 51 rfl rfl (fun _ => ?_)
    refine z_icmp_ge C dX11_canHave_51 93 (by decide) 54 rfl rfl rfl (fun _ => ?_) (fun _ => ?_)
    · refine z_lv (lv' := [(0, vr G 143), (1, vi x1), (2, vi x2), (3, vi x3)]) [1, 2, 3, 4] rfl ?_
      exact pX11_canHave_L93 C R hR F σ x1 x2 x3
    · refine z_iload C 0 rfl dX11_canHave_54 56 rfl ?_
      refine z_if_ne C dX11_canHave_56 89 (by decide) 59 rfl rfl (fun _ => ?_) (fun _ => ?_)
      · refine z_lv (lv' := [(0, vr G 143), (1, vi x1), (2, vi x2), (3, vi x3)]) [1, 2, 3, 4] rfl ?_
        exact pX11_canHave_L89 C R hR F σ x1 x2 x3
      · refine z_aload_n C 0 rfl 1 rfl dX11_canHave_59 60 rfl ?_
        refine y_getR C fX11_46 one_11 lay_11_23 dX11_canHave_60 63 rfl ?_
        refine z_iload_n C 1 rfl 2 rfl dX11_canHave_63 64 rfl ?_
        refine y_iald C lay_11_23.2 rfl dX11_canHave_64 65 rfl rfl (fun _ => ?_)
        refine z_iconst C dX11_canHave_65 66 rfl ?_
        refine z_icmp_ne C dX11_canHave_66 93 (by decide) 69 rfl rfl (w32_id (a := 1) (by decide)) (fun _ => ?_) (fun _ => ?_)
        · refine z_lv (lv' := [(0, vr G 143), (1, vi x1), (2, vi x2), (3, vi x3)]) [1, 2, 3, 4] rfl ?_
          exact pX11_canHave_L93 C R hR F σ x1 x2 x3
        · refine z_aload_n C 0 rfl 1 rfl dX11_canHave_69 70 rfl ?_
          refine y_getR C fX11_64 one_11 lay_11_31 dX11_canHave_70 73 rfl ?_
          refine z_bipush C (by decide) dX11_canHave_73 75 rfl ?_
          refine z_aload_n C 0 rfl 1 rfl dX11_canHave_75 76 rfl ?_
          refine z_iload_n C 3 rfl 4 rfl dX11_canHave_76 77 rfl ?_
          refine y_callVI C hR (tX11_lastOf (mL X) G F σ x3) ⟨mwX11_lastOf, mvX11_lastOf, lkX11_252⟩ one_11 rfl rfl (Nat.le_of_ble_eq_true rfl) (by unfold rmOK; decide) dX11_canHave_77 80 rfl (fun r1 _ => ?_)
          refine z_imul C dX11_canHave_80 81 rfl ?_
          refine z_iload_n C 3 rfl 4 rfl dX11_canHave_81 82 rfl ?_
          refine z_iadd C dX11_canHave_82 83 rfl ?_
          refine y_iald C lay_11_31.2 rfl dX11_canHave_83 84 rfl rfl (fun _ => ?_)
          refine z_iload C 5 rfl dX11_canHave_84 86 rfl ?_
          refine z_icmp_ge C dX11_canHave_86 93 (by decide) 89 rfl rfl rfl (fun _ => ?_) (fun _ => ?_)
          · refine z_lv (lv' := [(0, vr G 143), (1, vi x1), (2, vi x2), (3, vi x3)]) [1, 2, 3, 4] rfl ?_
            exact pX11_canHave_L93 C R hR F σ x1 x2 x3
          · refine z_lv (lv' := [(0, vr G 143), (1, vi x1), (2, vi x2), (3, vi x3)]) [1, 2, 3, 4] rfl ?_
            exact pX11_canHave_L89 C R hR F σ x1 x2 x3
set_option maxRecDepth 100000 in
set_option maxHeartbeats 4000000 in
theorem tX11_canHave (l : Launch) (G : GG) (F : Nat) (σ : St) (x1 : Int) (x2 : Int) (x3 : Int) : Ctr l G yX11_canHave cX11_canHave 9 (some .boolean) rmX11_canHave [vr G 143, vi x1, vi x2, vi x3] (w0 σ) vzI (wzR σ) (gX11_canHave F σ x1 x2 x3) := by
  refine ctr_of (by decide) (Nat.le_of_ble_eq_true rfl) mwX11_canHave.1 (fun X hl hR C R hnm => ?_)
  subst hl
  refine z_lv (lv' := [(0, vr G 143), (1, vi x1), (2, vi x2), (3, vi x3)]) [0, 1, 2, 3] rfl ?_
  show ZZ X G 9 (QM X G vzI (wzR σ) (0, 0)) (0, 0) (gd (0 ≤ w32 ((6 * x2) + x3) ∧ w32 ((6 * x2) + x3) < 54) ((gX11_heldBy F σ x3).bind fun r1 => gd (0 ≤ w32 x3 ∧ w32 x3 < 6) (if w32 r1 ≥ w32 (σ 159 (w32 x3)) then gX11_canHave_L32 F σ x1 x2 x3 (σ 162 (w32 ((6 * x2) + x3))) 0 else gX11_canHave_L32 F σ x1 x2 x3 (σ 162 (w32 ((6 * x2) + x3))) 1))) (w0 σ) 0 [(0, vr G 143), (1, vi x1), (2, vi x2), (3, vi x3)] []
  refine z_aload_n C 0 rfl 0 rfl dX11_canHave_0 1 rfl ?_
  refine y_getR C fX11_64 one_11 lay_11_31 dX11_canHave_1 4 rfl ?_
  refine z_bipush C (by decide) dX11_canHave_4 6 rfl ?_
  refine z_iload_n C 2 rfl 2 rfl dX11_canHave_6 7 rfl ?_
  refine z_imul C dX11_canHave_7 8 rfl ?_
  refine z_iload_n C 3 rfl 3 rfl dX11_canHave_8 9 rfl ?_
  refine z_iadd C dX11_canHave_9 10 rfl ?_
  refine y_iald C lay_11_31.2 rfl dX11_canHave_10 11 rfl rfl (fun _ => ?_)
  refine z_istore (lv' := [(4, vi (σ 162 (w32 ((6 * x2) + x3)))), (0, vr G 143), (1, vi x1), (2, vi x2), (3, vi x3)]) C (by decide) dX11_canHave_11 13 rfl rfl ?_
  refine z_aload_n C 0 rfl 1 rfl dX11_canHave_13 14 rfl ?_
  refine z_iload_n C 3 rfl 4 rfl dX11_canHave_14 15 rfl ?_
  refine y_callVI C hR (tX11_heldBy (mL X) G F σ x3) ⟨mwX11_heldBy, mvX11_heldBy, lkX11_249⟩ one_11 rfl rfl (Nat.le_of_ble_eq_true rfl) (by unfold rmOK; decide) dX11_canHave_15 18 rfl (fun r1 _ => ?_)
  refine z_aload_n C 0 rfl 1 rfl dX11_canHave_18 19 rfl ?_
  refine y_getR C fX11_55 one_11 lay_11_28 dX11_canHave_19 22 rfl ?_
  refine z_iload_n C 3 rfl 4 rfl dX11_canHave_22 23 rfl ?_
  refine y_iald C lay_11_28.2 rfl dX11_canHave_23 24 rfl rfl (fun _ => ?_)
  refine z_icmp_ge C dX11_canHave_24 31 (by decide) 27 rfl rfl rfl (fun _ => ?_) (fun _ => ?_)
  · refine z_iconst C dX11_canHave_31 32 rfl ?_
    refine z_lv (lv' := [(0, vr G 143), (1, vi x1), (2, vi x2), (3, vi x3), (4, vi (σ 162 (w32 ((6 * x2) + x3))))]) [1, 2, 3, 4, 0] rfl ?_
    exact pX11_canHave_L32 C R hR F σ x1 x2 x3 (σ 162 (w32 ((6 * x2) + x3))) 0
  · refine z_iconst C dX11_canHave_27 28 rfl ?_
    refine z_goto C dX11_canHave_28 32 (by decide) ?_
    refine z_lv (lv' := [(0, vr G 143), (1, vi x1), (2, vi x2), (3, vi x3), (4, vi (σ 162 (w32 ((6 * x2) + x3))))]) [1, 2, 3, 4, 0] rfl ?_
    exact pX11_canHave_L32 C R hR F σ x1 x2 x3 (σ 162 (w32 ((6 * x2) + x3))) 1
-- isAhead
def gX11_isAhead_L6 (F : Nat) (σ : St) (x1 : Int) (x2 : Int) (x3 : Int) (x4 : Int) : Nat → Int → Option (Int)
  | 0, _ => none
  | n + 1, x5 => gd (0 ≤ w32 x1 ∧ w32 x1 < 6) (if w32 x5 ≥ w32 ((6 * x1) + (σ 150 (w32 x1))) then some 0 else gd (0 ≤ w32 x5 ∧ w32 x5 < 36) (gd (w32 10 ≠ 0) ((gX11_keyOf F σ (irm (σ 151 (w32 x5)) 10) x2 x3).bind fun r1 => gd (0 ≤ w32 x5 ∧ w32 x5 < 36) (gd (w32 10 ≠ 0) ((gX11_keyOf F σ (irm (σ 151 (w32 x5)) 10) x2 x4).bind fun r2 => if w32 r1 = w32 r2 then gX11_isAhead_L6 F σ x1 x2 x3 x4 n (x5 + 1) else gd (0 ≤ w32 x5 ∧ w32 x5 < 36) (if w32 (σ 151 (w32 x5)) ≥ 10 then if w32 r1 ≥ w32 r2 then some 0 else some 1 else if w32 r1 ≤ w32 r2 then some 0 else some 1))))))
def gX11_isAhead (F : Nat) (σ : St) (x1 : Int) (x2 : Int) (x3 : Int) (x4 : Int) : Option (Int) := gX11_isAhead_L6 F σ x1 x2 x3 x4 F (6 * x1)
def rmX11_isAhead : Room := { frames := 2, cells := 0, slots := 0, locals := 47 }
set_option maxRecDepth 100000 in
set_option maxHeartbeats 4000000 in
theorem pX11_isAhead_L6 {X : MX} {G : GG} (C : CX X G 8 cX11_isAhead RX11) (R : RT X (some .boolean)) (hR : mR X = rmX11_isAhead) (F : Nat) (σ : St) (x1 : Int) (x2 : Int) (x3 : Int) (x4 : Int)  : ∀ (n : Nat) (x5 : Int), ZZ X G 8 (QM X G vzI (wzR σ) (0, 0)) (0, 0) (gX11_isAhead_L6 F σ x1 x2 x3 x4 n x5) (w0 σ) 6 [(0, vr G 143), (1, vi x1), (2, vi x2), (3, vi x3), (4, vi x4), (5, vi x5)] [] := by
  intro n
  induction n with
  | zero =>
    intro _
    exact z_none
  | succ n ih =>
    intro x5
    show ZZ X G 8 (QM X G vzI (wzR σ) (0, 0)) (0, 0) (gd (0 ≤ w32 x1 ∧ w32 x1 < 6) (if w32 x5 ≥ w32 ((6 * x1) + (σ 150 (w32 x1))) then some 0 else gd (0 ≤ w32 x5 ∧ w32 x5 < 36) (gd (w32 10 ≠ 0) ((gX11_keyOf F σ (irm (σ 151 (w32 x5)) 10) x2 x3).bind fun r1 => gd (0 ≤ w32 x5 ∧ w32 x5 < 36) (gd (w32 10 ≠ 0) ((gX11_keyOf F σ (irm (σ 151 (w32 x5)) 10) x2 x4).bind fun r2 => if w32 r1 = w32 r2 then gX11_isAhead_L6 F σ x1 x2 x3 x4 n (x5 + 1) else gd (0 ≤ w32 x5 ∧ w32 x5 < 36) (if w32 (σ 151 (w32 x5)) ≥ 10 then if w32 r1 ≥ w32 r2 then some 0 else some 1 else if w32 r1 ≤ w32 r2 then some 0 else some 1))))))) (w0 σ) 6 [(0, vr G 143), (1, vi x1), (2, vi x2), (3, vi x3), (4, vi x4), (5, vi x5)] []
    refine z_iload C 5 rfl dX11_isAhead_6 8 rfl ?_
    refine z_bipush C (by decide) dX11_isAhead_8 10 rfl ?_
    refine z_iload_n C 1 rfl 1 rfl dX11_isAhead_10 11 rfl ?_
    refine z_imul C dX11_isAhead_11 12 rfl ?_
    refine z_aload_n C 0 rfl 0 rfl dX11_isAhead_12 13 rfl ?_
    refine y_getR C fX11_28 one_11 lay_11_17 dX11_isAhead_13 16 rfl ?_
    refine z_iload_n C 1 rfl 1 rfl dX11_isAhead_16 17 rfl ?_
    refine y_iald C lay_11_17.2 rfl dX11_isAhead_17 18 rfl rfl (fun _ => ?_)
    refine z_iadd C dX11_isAhead_18 19 rfl ?_
    refine z_icmp_ge C dX11_isAhead_19 112 (by decide) 22 rfl rfl rfl (fun _ => ?_) (fun _ => ?_)
    · refine z_iconst C dX11_isAhead_112 113 rfl ?_
      exact z_zret C R nz0 rfl rfl dX11_isAhead_113
    · refine z_aload_n C 0 rfl 0 rfl dX11_isAhead_22 23 rfl ?_
      refine z_aload_n C 0 rfl 0 rfl dX11_isAhead_23 24 rfl ?_
      refine y_getR C fX11_31 one_11 lay_11_18 dX11_isAhead_24 27 rfl ?_
      refine z_iload C 5 rfl dX11_isAhead_27 29 rfl ?_
      refine y_iald C lay_11_18.2 rfl dX11_isAhead_29 30 rfl rfl (fun _ => ?_)
      refine z_bipush C (by decide) dX11_isAhead_30 32 rfl ?_
      refine z_irem C dX11_isAhead_32 33 rfl ?_
      refine z_iload_n C 2 rfl 2 rfl dX11_isAhead_33 34 rfl ?_
      refine z_iload_n C 3 rfl 3 rfl dX11_isAhead_34 35 rfl ?_
      refine y_callVI C hR (tX11_keyOf (mL X) G F σ (irm (σ 151 (w32 x5)) 10) x2 x3) ⟨mwX11_keyOf, mvX11_keyOf, lkX11_255⟩ one_11 rfl rfl (Nat.le_of_ble_eq_true rfl) (by unfold rmOK; decide) dX11_isAhead_35 38 rfl (fun r1 _ => ?_)
      refine z_istore (lv' := [(6, vi r1), (0, vr G 143), (1, vi x1), (2, vi x2), (3, vi x3), (4, vi x4), (5, vi x5)]) C (by decide) dX11_isAhead_38 40 rfl rfl ?_
      refine z_aload_n C 0 rfl 1 rfl dX11_isAhead_40 41 rfl ?_
      refine z_aload_n C 0 rfl 1 rfl dX11_isAhead_41 42 rfl ?_
      refine y_getR C fX11_31 one_11 lay_11_18 dX11_isAhead_42 45 rfl ?_
      refine z_iload C 6 rfl dX11_isAhead_45 47 rfl ?_
      refine y_iald C lay_11_18.2 rfl dX11_isAhead_47 48 rfl rfl (fun _ => ?_)
      refine z_bipush C (by decide) dX11_isAhead_48 50 rfl ?_
      refine z_irem C dX11_isAhead_50 51 rfl ?_
      refine z_iload_n C 2 rfl 3 rfl dX11_isAhead_51 52 rfl ?_
      refine z_iload C 5 rfl dX11_isAhead_52 54 rfl ?_
      refine y_callVI C hR (tX11_keyOf (mL X) G F σ (irm (σ 151 (w32 x5)) 10) x2 x4) ⟨mwX11_keyOf, mvX11_keyOf, lkX11_255⟩ one_11 rfl rfl (Nat.le_of_ble_eq_true rfl) (by unfold rmOK; decide) dX11_isAhead_54 57 rfl (fun r2 _ => ?_)
      refine z_istore (lv' := [(7, vi r2), (6, vi r1), (0, vr G 143), (1, vi x1), (2, vi x2), (3, vi x3), (4, vi x4), (5, vi x5)]) C (by decide) dX11_isAhead_57 59 rfl rfl ?_
      refine z_iload C 1 rfl dX11_isAhead_59 61 rfl ?_
      refine z_iload C 0 rfl dX11_isAhead_61 63 rfl ?_
      refine z_icmp_eq C dX11_isAhead_63 106 (by decide) 66 rfl rfl rfl (fun _ => ?_) (fun _ => ?_)
      · refine z_iinc (lv' := [(5, vi (x5 + 1)), (7, vi r2), (6, vi r1), (0, vr G 143), (1, vi x1), (2, vi x2), (3, vi x3), (4, vi x4)]) C (by decide) 7 rfl dX11_isAhead_106 109 rfl rfl ?_
        refine z_goto C dX11_isAhead_109 6 (by decide) ?_
        refine z_lv (lv' := [(0, vr G 143), (1, vi x1), (2, vi x2), (3, vi x3), (4, vi x4), (5, vi (x5 + 1))]) [3, 4, 5, 6, 7, 0] rfl ?_
        exact ih (x5 + 1)
      · refine z_aload_n C 0 rfl 2 rfl dX11_isAhead_66 67 rfl ?_
        refine y_getR C fX11_31 one_11 lay_11_18 dX11_isAhead_67 70 rfl ?_
        refine z_iload C 7 rfl dX11_isAhead_70 72 rfl ?_
        refine y_iald C lay_11_18.2 rfl dX11_isAhead_72 73 rfl rfl (fun _ => ?_)
        refine z_bipush C (by decide) dX11_isAhead_73 75 rfl ?_
        refine z_icmp_ge C dX11_isAhead_75 93 (by decide) 78 rfl rfl (w32_id (a := 10) (by decide)) (fun _ => ?_) (fun _ => ?_)
        · refine z_iload C 1 rfl dX11_isAhead_93 95 rfl ?_
          refine z_iload C 0 rfl dX11_isAhead_95 97 rfl ?_
          refine z_icmp_ge C dX11_isAhead_97 104 (by decide) 100 rfl rfl rfl (fun _ => ?_) (fun _ => ?_)
          · refine z_iconst C dX11_isAhead_104 105 rfl ?_
            exact z_zret C R nz0 rfl rfl dX11_isAhead_105
          · refine z_iconst C dX11_isAhead_100 101 rfl ?_
            refine z_goto C dX11_isAhead_101 105 (by decide) ?_
            exact z_zret C R nz1 rfl rfl dX11_isAhead_105
        · refine z_iload C 1 rfl dX11_isAhead_78 80 rfl ?_
          refine z_iload C 0 rfl dX11_isAhead_80 82 rfl ?_
          refine z_icmp_le C dX11_isAhead_82 89 (by decide) 85 rfl rfl rfl (fun _ => ?_) (fun _ => ?_)
          · refine z_iconst C dX11_isAhead_89 90 rfl ?_
            refine z_goto C dX11_isAhead_90 105 (by decide) ?_
            exact z_zret C R nz0 rfl rfl dX11_isAhead_105
          · refine z_iconst C dX11_isAhead_85 86 rfl ?_
            refine z_goto C dX11_isAhead_86 105 (by decide) ?_
            exact z_zret C R nz1 rfl rfl dX11_isAhead_105
set_option maxRecDepth 100000 in
set_option maxHeartbeats 4000000 in
theorem tX11_isAhead (l : Launch) (G : GG) (F : Nat) (σ : St) (x1 : Int) (x2 : Int) (x3 : Int) (x4 : Int) : Ctr l G yX11_isAhead cX11_isAhead 8 (some .boolean) rmX11_isAhead [vr G 143, vi x1, vi x2, vi x3, vi x4] (w0 σ) vzI (wzR σ) (gX11_isAhead F σ x1 x2 x3 x4) := by
  refine ctr_of (by decide) (Nat.le_of_ble_eq_true rfl) mwX11_isAhead.1 (fun X hl hR C R hnm => ?_)
  subst hl
  refine z_lv (lv' := [(0, vr G 143), (1, vi x1), (2, vi x2), (3, vi x3), (4, vi x4)]) [0, 1, 2, 3, 4] rfl ?_
  show ZZ X G 8 (QM X G vzI (wzR σ) (0, 0)) (0, 0) (gX11_isAhead_L6 F σ x1 x2 x3 x4 F (6 * x1)) (w0 σ) 0 [(0, vr G 143), (1, vi x1), (2, vi x2), (3, vi x3), (4, vi x4)] []
  refine z_bipush C (by decide) dX11_isAhead_0 2 rfl ?_
  refine z_iload_n C 1 rfl 1 rfl dX11_isAhead_2 3 rfl ?_
  refine z_imul C dX11_isAhead_3 4 rfl ?_
  refine z_istore (lv' := [(5, vi (6 * x1)), (0, vr G 143), (1, vi x1), (2, vi x2), (3, vi x3), (4, vi x4)]) C (by decide) dX11_isAhead_4 6 rfl rfl ?_
  refine z_lv (lv' := [(0, vr G 143), (1, vi x1), (2, vi x2), (3, vi x3), (4, vi x4), (5, vi (6 * x1))]) [1, 2, 3, 4, 5, 0] rfl ?_
  exact pX11_isAhead_L6 C R hR F σ x1 x2 x3 x4 F (6 * x1)
-- takes
def gX11_takes_L75 (F : Nat) (x1 : Int) (x2 : Int) (s0 : Int) (σ : St) : Option (Int × St) := gd (0 ≤ w32 x2 ∧ w32 x2 < 6) (gd (0 ≤ w32 x2 ∧ w32 x2 < 6) (gd (0 ≤ w32 x1 ∧ w32 x1 < 9) (some (s0, up (up σ 163 (w32 x2) ((σ 163 (w32 x2)) + s0)) 164 (w32 x1) x2))))
def gX11_takes_L36 (F : Nat) (x1 : Int) (x2 : Int) (σ : St) : Option (Int × St) := gd (0 ≤ w32 ((6 * x1) + x2) ∧ w32 ((6 * x1) + x2) < 54) (gd (0 ≤ w32 x2 ∧ w32 x2 < 6) (gd (0 ≤ w32 x2 ∧ w32 x2 < 6) (if w32 (σ 162 (w32 ((6 * x1) + x2))) ≥ w32 ((σ 161 (w32 x2)) - (σ 163 (w32 x2))) then gX11_takes_L75 F x1 x2 ((σ 161 (w32 x2)) - (σ 163 (w32 x2))) σ else gX11_takes_L75 F x1 x2 (σ 162 (w32 ((6 * x1) + x2))) σ)))
def gX11_takes (F : Nat) (σ : St) (x1 : Int) (x2 : Int) : Option (Int × St) := (gX11_heldBy F σ x2).bind fun r1 => gd (0 ≤ w32 x2 ∧ w32 x2 < 6) (if w32 r1 ≠ w32 (σ 159 (w32 x2)) then gX11_takes_L36 F x1 x2 σ else (gX11_lastOf F σ x2).bind fun r2 => gd (0 ≤ w32 r2 ∧ w32 r2 < 9) (gX11_takes_L36 F x1 x2 (up (up σ 164 (w32 r2) ((-4))) 143 36 (((up σ 164 (w32 r2) ((-4))) 143 36) + 1))))
def rmX11_takes : Room := { frames := 1, cells := 0, slots := 0, locals := 25 }
set_option maxRecDepth 100000 in
set_option maxHeartbeats 4000000 in
theorem pX11_takes_L75 {X : MX} {G : GG} (C : CX X G 6 cX11_takes RX11) (R : RT X (some .int)) (hR : mR X = rmX11_takes) (F : Nat) (x1 : Int) (x2 : Int)  : ∀ (s0 : Int) (σ : St), ZZ X G 6 (QM X G vzIw wzW (0, 0)) (0, 0) (gX11_takes_L75 F x1 x2 s0 σ) (w0 σ) 75 [(0, vr G 143), (1, vi x1), (2, vi x2)] [vi s0] := by
  intro s0 σ
  show ZZ X G 6 (QM X G vzIw wzW (0, 0)) (0, 0) (gd (0 ≤ w32 x2 ∧ w32 x2 < 6) (gd (0 ≤ w32 x2 ∧ w32 x2 < 6) (gd (0 ≤ w32 x1 ∧ w32 x1 < 9) (some (s0, up (up σ 163 (w32 x2) ((σ 163 (w32 x2)) + s0)) 164 (w32 x1) x2))))) (w0 σ) 75 [(0, vr G 143), (1, vi x1), (2, vi x2)] [vi s0]
  refine z_istore (lv' := [(5, vi s0), (0, vr G 143), (1, vi x1), (2, vi x2)]) C (by decide) dX11_takes_75 77 rfl rfl ?_
  refine z_aload_n C 0 rfl 1 rfl dX11_takes_77 78 rfl ?_
  refine y_getR C fX11_67 one_11 lay_11_32 dX11_takes_78 81 rfl ?_
  refine z_iload_n C 2 rfl 3 rfl dX11_takes_81 82 rfl ?_
  refine z_dup2 C rfl rfl dX11_takes_82 83 rfl ?_
  refine y_iald C lay_11_32.2 rfl dX11_takes_83 84 rfl rfl (fun _ => ?_)
  refine z_iload C 0 rfl dX11_takes_84 86 rfl ?_
  refine z_iadd C dX11_takes_86 87 rfl ?_
  refine y_iast C lay_11_32.2 rfl dX11_takes_87 88 rfl rfl (fun _ => ?_)
  refine z_aload_n C 0 rfl 1 rfl dX11_takes_88 89 rfl ?_
  refine y_getR C fX11_70 one_11 lay_11_33 dX11_takes_89 92 rfl ?_
  refine z_iload_n C 1 rfl 2 rfl dX11_takes_92 93 rfl ?_
  refine z_iload_n C 2 rfl 3 rfl dX11_takes_93 94 rfl ?_
  refine y_iast C lay_11_33.2 rfl dX11_takes_94 95 rfl rfl (fun _ => ?_)
  refine z_iload C 0 rfl dX11_takes_95 97 rfl ?_
  exact z_iret C R rfl rfl dX11_takes_97
set_option maxRecDepth 100000 in
set_option maxHeartbeats 4000000 in
theorem pX11_takes_L36 {X : MX} {G : GG} (C : CX X G 6 cX11_takes RX11) (R : RT X (some .int)) (hR : mR X = rmX11_takes) (F : Nat) (x1 : Int) (x2 : Int)  : ∀ (σ : St), ZZ X G 6 (QM X G vzIw wzW (0, 0)) (0, 0) (gX11_takes_L36 F x1 x2 σ) (w0 σ) 36 [(0, vr G 143), (1, vi x1), (2, vi x2)] [] := by
  intro σ
  show ZZ X G 6 (QM X G vzIw wzW (0, 0)) (0, 0) (gd (0 ≤ w32 ((6 * x1) + x2) ∧ w32 ((6 * x1) + x2) < 54) (gd (0 ≤ w32 x2 ∧ w32 x2 < 6) (gd (0 ≤ w32 x2 ∧ w32 x2 < 6) (if w32 (σ 162 (w32 ((6 * x1) + x2))) ≥ w32 ((σ 161 (w32 x2)) - (σ 163 (w32 x2))) then gX11_takes_L75 F x1 x2 ((σ 161 (w32 x2)) - (σ 163 (w32 x2))) σ else gX11_takes_L75 F x1 x2 (σ 162 (w32 ((6 * x1) + x2))) σ)))) (w0 σ) 36 [(0, vr G 143), (1, vi x1), (2, vi x2)] []
  refine z_aload_n C 0 rfl 0 rfl dX11_takes_36 37 rfl ?_
  refine y_getR C fX11_64 one_11 lay_11_31 dX11_takes_37 40 rfl ?_
  refine z_bipush C (by decide) dX11_takes_40 42 rfl ?_
  refine z_iload_n C 1 rfl 1 rfl dX11_takes_42 43 rfl ?_
  refine z_imul C dX11_takes_43 44 rfl ?_
  refine z_iload_n C 2 rfl 2 rfl dX11_takes_44 45 rfl ?_
  refine z_iadd C dX11_takes_45 46 rfl ?_
  refine y_iald C lay_11_31.2 rfl dX11_takes_46 47 rfl rfl (fun _ => ?_)
  refine z_istore_n (lv' := [(3, vi (σ 162 (w32 ((6 * x1) + x2)))), (0, vr G 143), (1, vi x1), (2, vi x2)]) C 3 rfl (by decide) dX11_takes_47 48 rfl rfl ?_
  refine z_aload_n C 0 rfl 1 rfl dX11_takes_48 49 rfl ?_
  refine y_getR C fX11_61 one_11 lay_11_30 dX11_takes_49 52 rfl ?_
  refine z_iload_n C 2 rfl 3 rfl dX11_takes_52 53 rfl ?_
  refine y_iald C lay_11_30.2 rfl dX11_takes_53 54 rfl rfl (fun _ => ?_)
  refine z_aload_n C 0 rfl 1 rfl dX11_takes_54 55 rfl ?_
  refine y_getR C fX11_67 one_11 lay_11_32 dX11_takes_55 58 rfl ?_
  refine z_iload_n C 2 rfl 3 rfl dX11_takes_58 59 rfl ?_
  refine y_iald C lay_11_32.2 rfl dX11_takes_59 60 rfl rfl (fun _ => ?_)
  refine z_isub C dX11_takes_60 61 rfl ?_
  refine z_istore (lv' := [(4, vi ((σ 161 (w32 x2)) - (σ 163 (w32 x2)))), (3, vi (σ 162 (w32 ((6 * x1) + x2)))), (0, vr G 143), (1, vi x1), (2, vi x2)]) C (by decide) dX11_takes_61 63 rfl rfl ?_
  refine z_iload_n C 3 rfl 1 rfl dX11_takes_63 64 rfl ?_
  refine z_iload C 0 rfl dX11_takes_64 66 rfl ?_
  refine z_icmp_ge C dX11_takes_66 73 (by decide) 69 rfl rfl rfl (fun _ => ?_) (fun _ => ?_)
  · refine z_iload C 0 rfl dX11_takes_73 75 rfl ?_
    refine z_lv (lv' := [(0, vr G 143), (1, vi x1), (2, vi x2)]) [2, 3, 4] rfl ?_
    exact pX11_takes_L75 C R hR F x1 x2 ((σ 161 (w32 x2)) - (σ 163 (w32 x2))) σ
  · refine z_iload_n C 3 rfl 1 rfl dX11_takes_69 70 rfl ?_
    refine z_goto C dX11_takes_70 75 (by decide) ?_
    refine z_lv (lv' := [(0, vr G 143), (1, vi x1), (2, vi x2)]) [2, 3, 4] rfl ?_
    exact pX11_takes_L75 C R hR F x1 x2 (σ 162 (w32 ((6 * x1) + x2))) σ
set_option maxRecDepth 100000 in
set_option maxHeartbeats 4000000 in
theorem tX11_takes (l : Launch) (G : GG) (F : Nat) (σ : St) (x1 : Int) (x2 : Int) : Ctr l G yX11_takes cX11_takes 6 (some .int) rmX11_takes [vr G 143, vi x1, vi x2] (w0 σ) vzIw wzW (gX11_takes F σ x1 x2) := by
  refine ctr_of (by decide) (Nat.le_of_ble_eq_true rfl) mwX11_takes.1 (fun X hl hR C R hnm => ?_)
  subst hl
  refine z_lv (lv' := [(0, vr G 143), (1, vi x1), (2, vi x2)]) [0, 1, 2] rfl ?_
  show ZZ X G 6 (QM X G vzIw wzW (0, 0)) (0, 0) ((gX11_heldBy F σ x2).bind fun r1 => gd (0 ≤ w32 x2 ∧ w32 x2 < 6) (if w32 r1 ≠ w32 (σ 159 (w32 x2)) then gX11_takes_L36 F x1 x2 σ else (gX11_lastOf F σ x2).bind fun r2 => gd (0 ≤ w32 r2 ∧ w32 r2 < 9) (gX11_takes_L36 F x1 x2 (up (up σ 164 (w32 r2) ((-4))) 143 36 (((up σ 164 (w32 r2) ((-4))) 143 36) + 1))))) (w0 σ) 0 [(0, vr G 143), (1, vi x1), (2, vi x2)] []
  refine z_aload_n C 0 rfl 0 rfl dX11_takes_0 1 rfl ?_
  refine z_iload_n C 2 rfl 2 rfl dX11_takes_1 2 rfl ?_
  refine y_callVI C hR (tX11_heldBy (mL X) G F σ x2) ⟨mwX11_heldBy, mvX11_heldBy, lkX11_249⟩ one_11 rfl rfl (Nat.le_of_ble_eq_true rfl) (by unfold rmOK; decide) dX11_takes_2 5 rfl (fun r1 _ => ?_)
  refine z_aload_n C 0 rfl 0 rfl dX11_takes_5 6 rfl ?_
  refine y_getR C fX11_55 one_11 lay_11_28 dX11_takes_6 9 rfl ?_
  refine z_iload_n C 2 rfl 2 rfl dX11_takes_9 10 rfl ?_
  refine y_iald C lay_11_28.2 rfl dX11_takes_10 11 rfl rfl (fun _ => ?_)
  refine z_icmp_ne C dX11_takes_11 36 (by decide) 14 rfl rfl rfl (fun _ => ?_) (fun _ => ?_)
  · exact pX11_takes_L36 C R hR F x1 x2 σ
  · refine z_aload_n C 0 rfl 0 rfl dX11_takes_14 15 rfl ?_
    refine y_getR C fX11_70 one_11 lay_11_33 dX11_takes_15 18 rfl ?_
    refine z_aload_n C 0 rfl 0 rfl dX11_takes_18 19 rfl ?_
    refine z_iload_n C 2 rfl 2 rfl dX11_takes_19 20 rfl ?_
    refine y_callVI C hR (tX11_lastOf (mL X) G F σ x2) ⟨mwX11_lastOf, mvX11_lastOf, lkX11_252⟩ one_11 rfl rfl (Nat.le_of_ble_eq_true rfl) (by unfold rmOK; decide) dX11_takes_20 23 rfl (fun r2 _ => ?_)
    refine z_bipush C (by decide) dX11_takes_23 25 rfl ?_
    refine y_iast C lay_11_33.2 rfl dX11_takes_25 26 rfl rfl (fun _ => ?_)
    refine z_aload_n C 0 rfl 0 rfl dX11_takes_26 27 rfl ?_
    refine z_dup C rfl dX11_takes_27 28 rfl ?_
    refine y_getI C fX11_237 one_11 dX11_takes_28 31 rfl ?_
    refine z_iconst C dX11_takes_31 32 rfl ?_
    refine z_iadd C dX11_takes_32 33 rfl ?_
    refine y_putI C fX11_237 one_11 ⟨rfl, rfl⟩ dX11_takes_33 36 rfl ?_
    exact pX11_takes_L36 C R hR F x1 x2 (up (up σ 164 (w32 r2) ((-4))) 143 36 (((up σ 164 (w32 r2) ((-4))) 143 36) + 1))
-- comes
def gX11_comes_L67 (F : Nat) (x1 : Int) (x2 : Int) (c26 : Int → Int → St → Option (Int × St)) (x3 : Int) (x4 : Int) (σ : St) : Option (Int × St) := c26 x3 (x4 + 1) σ
def gX11_comes_L64 (F : Nat) (x1 : Int) (x2 : Int) (c26 : Int → Int → St → Option (Int × St)) (x4 : Int) (σ : St) : Option (Int × St) := gX11_comes_L67 F x1 x2 c26 x4 x4 σ
def gX11_comes_L26 (F : Nat) (x1 : Int) (x2 : Int) : Nat → Int → Int → St → Option (Int × St)
  | 0, _, _, _ => none
  | n + 1, x3, x4, σ => if w32 x4 ≥ w32 (σ 143 26) then if w32 x3 = (-4) then some (x3, σ) else (gX11_takes F σ x1 x3).bind fun r1 => some (x3, r1.2) else (gX11_canHave F σ x2 x1 x4).bind fun r2 => if w32 r2 = 0 then gX11_comes_L67 F x1 x2 (gX11_comes_L26 F x1 x2 n) x3 x4 σ else if w32 x3 = (-4) then gX11_comes_L64 F x1 x2 (gX11_comes_L26 F x1 x2 n) x4 σ else (gX11_isAhead F σ x2 x1 x4 x3).bind fun r3 => if w32 r3 = 0 then gX11_comes_L67 F x1 x2 (gX11_comes_L26 F x1 x2 n) x3 x4 σ else gX11_comes_L64 F x1 x2 (gX11_comes_L26 F x1 x2 n) x4 σ
def gX11_comes (F : Nat) (σ : St) (x1 : Int) (x2 : Int) : Option (Int × St) := gd (0 ≤ w32 x1 ∧ w32 x1 < 9) (gX11_comes_L26 F x1 x2 F ((-4)) 0 (up (up σ 143 35 ((σ 143 35) + 1)) 165 (w32 x1) ((up σ 143 35 ((σ 143 35) + 1)) 143 35)))
def rmX11_comes : Room := { frames := 3, cells := 0, slots := 0, locals := 75 }
set_option maxRecDepth 100000 in
set_option maxHeartbeats 4000000 in
theorem pX11_comes_L67 {X : MX} {G : GG} (C : CX X G 5 cX11_comes RX11) (R : RT X (some .int)) (hR : mR X = rmX11_comes) (F : Nat) (x1 : Int) (x2 : Int) (c26 : Int → Int → St → Option (Int × St)) (hc26 : ∀ (x3 : Int) (x4 : Int) (σ : St), ZZ X G 5 (QM X G vzIw wzW (0, 0)) (0, 0) (c26 x3 x4 σ) (w0 σ) 26 [(0, vr G 143), (1, vi x1), (2, vi x2), (3, vi x3), (4, vi x4)] []) : ∀ (x3 : Int) (x4 : Int) (σ : St), ZZ X G 5 (QM X G vzIw wzW (0, 0)) (0, 0) (gX11_comes_L67 F x1 x2 c26 x3 x4 σ) (w0 σ) 67 [(0, vr G 143), (1, vi x1), (2, vi x2), (3, vi x3), (4, vi x4)] [] := by
  intro x3 x4 σ
  show ZZ X G 5 (QM X G vzIw wzW (0, 0)) (0, 0) (c26 x3 (x4 + 1) σ) (w0 σ) 67 [(0, vr G 143), (1, vi x1), (2, vi x2), (3, vi x3), (4, vi x4)] []
  refine z_iinc (lv' := [(4, vi (x4 + 1)), (0, vr G 143), (1, vi x1), (2, vi x2), (3, vi x3)]) C (by decide) 4 rfl dX11_comes_67 70 rfl rfl ?_
  refine z_goto C dX11_comes_70 26 (by decide) ?_
  refine z_lv (lv' := [(0, vr G 143), (1, vi x1), (2, vi x2), (3, vi x3), (4, vi (x4 + 1))]) [1, 2, 3, 4, 0] rfl ?_
  exact hc26 x3 (x4 + 1) σ
set_option maxRecDepth 100000 in
set_option maxHeartbeats 4000000 in
theorem pX11_comes_L64 {X : MX} {G : GG} (C : CX X G 5 cX11_comes RX11) (R : RT X (some .int)) (hR : mR X = rmX11_comes) (F : Nat) (x1 : Int) (x2 : Int) (c26 : Int → Int → St → Option (Int × St)) (hc26 : ∀ (x3 : Int) (x4 : Int) (σ : St), ZZ X G 5 (QM X G vzIw wzW (0, 0)) (0, 0) (c26 x3 x4 σ) (w0 σ) 26 [(0, vr G 143), (1, vi x1), (2, vi x2), (3, vi x3), (4, vi x4)] []) : ∀ (x4 : Int) (σ : St), ZZ X G 5 (QM X G vzIw wzW (0, 0)) (0, 0) (gX11_comes_L64 F x1 x2 c26 x4 σ) (w0 σ) 64 [(0, vr G 143), (1, vi x1), (2, vi x2), (4, vi x4)] [] := by
  intro x4 σ
  show ZZ X G 5 (QM X G vzIw wzW (0, 0)) (0, 0) (gX11_comes_L67 F x1 x2 c26 x4 x4 σ) (w0 σ) 64 [(0, vr G 143), (1, vi x1), (2, vi x2), (4, vi x4)] []
  refine z_iload C 3 rfl dX11_comes_64 66 rfl ?_
  refine z_istore_n (lv' := [(3, vi x4), (0, vr G 143), (1, vi x1), (2, vi x2), (4, vi x4)]) C 3 rfl (by decide) dX11_comes_66 67 rfl rfl ?_
  refine z_lv (lv' := [(0, vr G 143), (1, vi x1), (2, vi x2), (3, vi x4), (4, vi x4)]) [1, 2, 3, 0, 4] rfl ?_
  exact pX11_comes_L67 C R hR F x1 x2 c26 hc26 x4 x4 σ
set_option maxRecDepth 100000 in
set_option maxHeartbeats 4000000 in
theorem pX11_comes_L26 {X : MX} {G : GG} (C : CX X G 5 cX11_comes RX11) (R : RT X (some .int)) (hR : mR X = rmX11_comes) (F : Nat) (x1 : Int) (x2 : Int)  : ∀ (n : Nat) (x3 : Int) (x4 : Int) (σ : St), ZZ X G 5 (QM X G vzIw wzW (0, 0)) (0, 0) (gX11_comes_L26 F x1 x2 n x3 x4 σ) (w0 σ) 26 [(0, vr G 143), (1, vi x1), (2, vi x2), (3, vi x3), (4, vi x4)] [] := by
  intro n
  induction n with
  | zero =>
    intro _ _ _
    exact z_none
  | succ n ih =>
    intro x3 x4 σ
    show ZZ X G 5 (QM X G vzIw wzW (0, 0)) (0, 0) (if w32 x4 ≥ w32 (σ 143 26) then if w32 x3 = (-4) then some (x3, σ) else (gX11_takes F σ x1 x3).bind fun r1 => some (x3, r1.2) else (gX11_canHave F σ x2 x1 x4).bind fun r2 => if w32 r2 = 0 then gX11_comes_L67 F x1 x2 (gX11_comes_L26 F x1 x2 n) x3 x4 σ else if w32 x3 = (-4) then gX11_comes_L64 F x1 x2 (gX11_comes_L26 F x1 x2 n) x4 σ else (gX11_isAhead F σ x2 x1 x4 x3).bind fun r3 => if w32 r3 = 0 then gX11_comes_L67 F x1 x2 (gX11_comes_L26 F x1 x2 n) x3 x4 σ else gX11_comes_L64 F x1 x2 (gX11_comes_L26 F x1 x2 n) x4 σ) (w0 σ) 26 [(0, vr G 143), (1, vi x1), (2, vi x2), (3, vi x3), (4, vi x4)] []
    refine z_iload C 4 rfl dX11_comes_26 28 rfl ?_
    refine z_aload_n C 0 rfl 0 rfl dX11_comes_28 29 rfl ?_
    refine y_getI C fX11_240 one_11 dX11_comes_29 32 rfl ?_
    refine z_icmp_ge C dX11_comes_32 73 (by decide) 35 rfl rfl rfl (fun _ => ?_) (fun _ => ?_)
    · refine z_iload_n C 3 rfl 3 rfl dX11_comes_73 74 rfl ?_
      refine z_bipush C (by decide) dX11_comes_74 76 rfl ?_
      refine z_icmp_eq C dX11_comes_76 86 (by decide) 79 rfl rfl (w32_id (a := (-4)) (by decide)) (fun _ => ?_) (fun _ => ?_)
      · refine z_iload_n C 3 rfl 3 rfl dX11_comes_86 87 rfl ?_
        exact z_iret C R rfl rfl dX11_comes_87
      · refine z_aload_n C 0 rfl 0 rfl dX11_comes_79 80 rfl ?_
        refine z_iload_n C 1 rfl 1 rfl dX11_comes_80 81 rfl ?_
        refine z_iload_n C 3 rfl 3 rfl dX11_comes_81 82 rfl ?_
        refine y_callVIw C hR (tX11_takes (mL X) G F σ x1 x3) ⟨mwX11_takes, mvX11_takes, lkX11_267⟩ one_11 rfl rfl (Nat.le_of_ble_eq_true rfl) (by unfold rmOK; decide) dX11_comes_82 85 rfl (fun r1 _ => ?_)
        refine z_pop C rfl dX11_comes_85 86 rfl ?_
        refine z_iload_n C 3 rfl 3 rfl dX11_comes_86 87 rfl ?_
        exact z_iret C R rfl rfl dX11_comes_87
    · refine z_aload_n C 0 rfl 0 rfl dX11_comes_35 36 rfl ?_
      refine z_iload_n C 2 rfl 2 rfl dX11_comes_36 37 rfl ?_
      refine z_iload_n C 1 rfl 1 rfl dX11_comes_37 38 rfl ?_
      refine z_iload C 4 rfl dX11_comes_38 40 rfl ?_
      refine y_callVI C hR (tX11_canHave (mL X) G F σ x2 x1 x4) ⟨mwX11_canHave, mvX11_canHave, lkX11_259⟩ one_11 rfl rfl (Nat.le_of_ble_eq_true rfl) (by unfold rmOK; decide) dX11_comes_40 43 rfl (fun r2 _ => ?_)
      refine z_if_eq C dX11_comes_43 67 (by decide) 46 rfl rfl (fun _ => ?_) (fun _ => ?_)
      · exact pX11_comes_L67 C R hR F x1 x2 (gX11_comes_L26 F x1 x2 n) ih x3 x4 σ
      · refine z_iload_n C 3 rfl 3 rfl dX11_comes_46 47 rfl ?_
        refine z_bipush C (by decide) dX11_comes_47 49 rfl ?_
        refine z_icmp_eq C dX11_comes_49 64 (by decide) 52 rfl rfl (w32_id (a := (-4)) (by decide)) (fun _ => ?_) (fun _ => ?_)
        · refine z_lv (lv' := [(0, vr G 143), (1, vi x1), (2, vi x2), (4, vi x4)]) [0, 1, 2, 4] rfl ?_
          exact pX11_comes_L64 C R hR F x1 x2 (gX11_comes_L26 F x1 x2 n) ih x4 σ
        · refine z_aload_n C 0 rfl 0 rfl dX11_comes_52 53 rfl ?_
          refine z_iload_n C 2 rfl 2 rfl dX11_comes_53 54 rfl ?_
          refine z_iload_n C 1 rfl 1 rfl dX11_comes_54 55 rfl ?_
          refine z_iload C 4 rfl dX11_comes_55 57 rfl ?_
          refine z_iload_n C 3 rfl 3 rfl dX11_comes_57 58 rfl ?_
          refine y_callVI C hR (tX11_isAhead (mL X) G F σ x2 x1 x4 x3) ⟨mwX11_isAhead, mvX11_isAhead, lkX11_263⟩ one_11 rfl rfl (Nat.le_of_ble_eq_true rfl) (by unfold rmOK; decide) dX11_comes_58 61 rfl (fun r3 _ => ?_)
          refine z_if_eq C dX11_comes_61 67 (by decide) 64 rfl rfl (fun _ => ?_) (fun _ => ?_)
          · exact pX11_comes_L67 C R hR F x1 x2 (gX11_comes_L26 F x1 x2 n) ih x3 x4 σ
          · refine z_lv (lv' := [(0, vr G 143), (1, vi x1), (2, vi x2), (4, vi x4)]) [0, 1, 2, 4] rfl ?_
            exact pX11_comes_L64 C R hR F x1 x2 (gX11_comes_L26 F x1 x2 n) ih x4 σ
set_option maxRecDepth 100000 in
set_option maxHeartbeats 4000000 in
theorem tX11_comes (l : Launch) (G : GG) (F : Nat) (σ : St) (x1 : Int) (x2 : Int) : Ctr l G yX11_comes cX11_comes 5 (some .int) rmX11_comes [vr G 143, vi x1, vi x2] (w0 σ) vzIw wzW (gX11_comes F σ x1 x2) := by
  refine ctr_of (by decide) (Nat.le_of_ble_eq_true rfl) mwX11_comes.1 (fun X hl hR C R hnm => ?_)
  subst hl
  refine z_lv (lv' := [(0, vr G 143), (1, vi x1), (2, vi x2)]) [0, 1, 2] rfl ?_
  show ZZ X G 5 (QM X G vzIw wzW (0, 0)) (0, 0) (gd (0 ≤ w32 x1 ∧ w32 x1 < 9) (gX11_comes_L26 F x1 x2 F ((-4)) 0 (up (up σ 143 35 ((σ 143 35) + 1)) 165 (w32 x1) ((up σ 143 35 ((σ 143 35) + 1)) 143 35)))) (w0 σ) 0 [(0, vr G 143), (1, vi x1), (2, vi x2)] []
  refine z_aload_n C 0 rfl 0 rfl dX11_comes_0 1 rfl ?_
  refine z_dup C rfl dX11_comes_1 2 rfl ?_
  refine y_getI C fX11_234 one_11 dX11_comes_2 5 rfl ?_
  refine z_iconst C dX11_comes_5 6 rfl ?_
  refine z_iadd C dX11_comes_6 7 rfl ?_
  refine y_putI C fX11_234 one_11 ⟨rfl, rfl⟩ dX11_comes_7 10 rfl ?_
  refine z_aload_n C 0 rfl 0 rfl dX11_comes_10 11 rfl ?_
  refine y_getR C fX11_73 one_11 lay_11_34 dX11_comes_11 14 rfl ?_
  refine z_iload_n C 1 rfl 1 rfl dX11_comes_14 15 rfl ?_
  refine z_aload_n C 0 rfl 0 rfl dX11_comes_15 16 rfl ?_
  refine y_getI C fX11_234 one_11 dX11_comes_16 19 rfl ?_
  refine y_iast C lay_11_34.2 rfl dX11_comes_19 20 rfl rfl (fun _ => ?_)
  refine z_bipush C (by decide) dX11_comes_20 22 rfl ?_
  refine z_istore_n (lv' := [(3, vi ((-4))), (0, vr G 143), (1, vi x1), (2, vi x2)]) C 3 rfl (by decide) dX11_comes_22 23 rfl rfl ?_
  refine z_iconst C dX11_comes_23 24 rfl ?_
  refine z_istore (lv' := [(4, vi 0), (3, vi ((-4))), (0, vr G 143), (1, vi x1), (2, vi x2)]) C (by decide) dX11_comes_24 26 rfl rfl ?_
  refine z_lv (lv' := [(0, vr G 143), (1, vi x1), (2, vi x2), (3, vi ((-4))), (4, vi 0)]) [2, 3, 4, 1, 0] rfl ?_
  exact pX11_comes_L26 C R hR F x1 x2 F ((-4)) 0 (up (up σ 143 35 ((σ 143 35) + 1)) 165 (w32 x1) ((up σ 143 35 ((σ 143 35) + 1)) 143 35))
-- valueNow
def gX11_valueNow_L4 (F : Nat) (σ : St) : Nat → Int → Int → Option (Int)
  | 0, _, _ => none
  | n + 1, x1, x2 => if w32 x2 ≥ w32 (σ 143 26) then some x1 else gd (0 ≤ w32 x2 ∧ w32 x2 < 6) (gX11_valueNow_L4 F σ n (x1 + (σ 163 (w32 x2))) (x2 + 1))
def gX11_valueNow (F : Nat) (σ : St) : Option (Int) := gX11_valueNow_L4 F σ F 0 0
def rmX11_valueNow : Room := { frames := 0, cells := 0, slots := 0, locals := 0 }
set_option maxRecDepth 100000 in
set_option maxHeartbeats 4000000 in
theorem pX11_valueNow_L4 {X : MX} {G : GG} (C : CX X G 3 cX11_valueNow RX11) (R : RT X (some .int)) (hR : mR X = rmX11_valueNow) (F : Nat) (σ : St)  : ∀ (n : Nat) (x1 : Int) (x2 : Int), ZZ X G 3 (QM X G vzI (wzR σ) (0, 0)) (0, 0) (gX11_valueNow_L4 F σ n x1 x2) (w0 σ) 4 [(0, vr G 143), (1, vi x1), (2, vi x2)] [] := by
  intro n
  induction n with
  | zero =>
    intro _ _
    exact z_none
  | succ n ih =>
    intro x1 x2
    show ZZ X G 3 (QM X G vzI (wzR σ) (0, 0)) (0, 0) (if w32 x2 ≥ w32 (σ 143 26) then some x1 else gd (0 ≤ w32 x2 ∧ w32 x2 < 6) (gX11_valueNow_L4 F σ n (x1 + (σ 163 (w32 x2))) (x2 + 1))) (w0 σ) 4 [(0, vr G 143), (1, vi x1), (2, vi x2)] []
    refine z_iload_n C 2 rfl 2 rfl dX11_valueNow_4 5 rfl ?_
    refine z_aload_n C 0 rfl 0 rfl dX11_valueNow_5 6 rfl ?_
    refine y_getI C fX11_240 one_11 dX11_valueNow_6 9 rfl ?_
    refine z_icmp_ge C dX11_valueNow_9 27 (by decide) 12 rfl rfl rfl (fun _ => ?_) (fun _ => ?_)
    · refine z_iload_n C 1 rfl 1 rfl dX11_valueNow_27 28 rfl ?_
      exact z_iret C R rfl rfl dX11_valueNow_28
    · refine z_iload_n C 1 rfl 1 rfl dX11_valueNow_12 13 rfl ?_
      refine z_aload_n C 0 rfl 0 rfl dX11_valueNow_13 14 rfl ?_
      refine y_getR C fX11_67 one_11 lay_11_32 dX11_valueNow_14 17 rfl ?_
      refine z_iload_n C 2 rfl 2 rfl dX11_valueNow_17 18 rfl ?_
      refine y_iald C lay_11_32.2 rfl dX11_valueNow_18 19 rfl rfl (fun _ => ?_)
      refine z_iadd C dX11_valueNow_19 20 rfl ?_
      refine z_istore_n (lv' := [(1, vi (x1 + (σ 163 (w32 x2)))), (0, vr G 143), (2, vi x2)]) C 1 rfl (by decide) dX11_valueNow_20 21 rfl rfl ?_
      refine z_iinc (lv' := [(2, vi (x2 + 1)), (1, vi (x1 + (σ 163 (w32 x2)))), (0, vr G 143)]) C (by decide) 2 rfl dX11_valueNow_21 24 rfl rfl ?_
      refine z_goto C dX11_valueNow_24 4 (by decide) ?_
      refine z_lv (lv' := [(0, vr G 143), (1, vi (x1 + (σ 163 (w32 x2)))), (2, vi (x2 + 1))]) [2, 1, 0] rfl ?_
      exact ih (x1 + (σ 163 (w32 x2))) (x2 + 1)
set_option maxRecDepth 100000 in
set_option maxHeartbeats 4000000 in
theorem tX11_valueNow (l : Launch) (G : GG) (F : Nat) (σ : St) : Ctr l G yX11_valueNow cX11_valueNow 3 (some .int) rmX11_valueNow [vr G 143] (w0 σ) vzI (wzR σ) (gX11_valueNow F σ) := by
  refine ctr_of (by decide) (Nat.le_of_ble_eq_true rfl) mwX11_valueNow.1 (fun X hl hR C R hnm => ?_)
  subst hl
  refine z_lv (lv' := [(0, vr G 143)]) [0] rfl ?_
  show ZZ X G 3 (QM X G vzI (wzR σ) (0, 0)) (0, 0) (gX11_valueNow_L4 F σ F 0 0) (w0 σ) 0 [(0, vr G 143)] []
  refine z_iconst C dX11_valueNow_0 1 rfl ?_
  refine z_istore_n (lv' := [(1, vi 0), (0, vr G 143)]) C 1 rfl (by decide) dX11_valueNow_1 2 rfl rfl ?_
  refine z_iconst C dX11_valueNow_2 3 rfl ?_
  refine z_istore_n (lv' := [(2, vi 0), (1, vi 0), (0, vr G 143)]) C 2 rfl (by decide) dX11_valueNow_3 4 rfl rfl ?_
  refine z_lv (lv' := [(0, vr G 143), (1, vi 0), (2, vi 0)]) [2, 1, 0] rfl ?_
  exact pX11_valueNow_L4 C R hR F σ F 0 0
-- keptNow
def gX11_keptNow_L44 (F : Nat) (σ : St) (c4 : Int → Int → Option (Int)) (x2 : Int) (s0 : Int) (s1 : Int) : Option (Int) := c4 (s0 + s1) (x2 + 1)
def gX11_keptNow_L4 (F : Nat) (σ : St) : Nat → Int → Int → Option (Int)
  | 0, _, _ => none
  | n + 1, x1, x2 => if w32 x2 ≥ w32 (σ 143 27) then some x1 else gd (0 ≤ w32 x2 ∧ w32 x2 < 9) (if w32 (σ 164 (w32 x2)) ≠ (-4) then gd (0 ≤ w32 x2 ∧ w32 x2 < 9) (gd (0 ≤ w32 ((6 * x2) + (σ 164 (w32 x2))) ∧ w32 ((6 * x2) + (σ 164 (w32 x2))) < 54) (gX11_keptNow_L44 F σ (gX11_keptNow_L4 F σ n) x2 x1 (σ 162 (w32 ((6 * x2) + (σ 164 (w32 x2))))))) else gX11_keptNow_L44 F σ (gX11_keptNow_L4 F σ n) x2 x1 0)
def gX11_keptNow (F : Nat) (σ : St) : Option (Int) := gX11_keptNow_L4 F σ F 0 0
def rmX11_keptNow : Room := { frames := 0, cells := 0, slots := 0, locals := 0 }
set_option maxRecDepth 100000 in
set_option maxHeartbeats 4000000 in
theorem pX11_keptNow_L44 {X : MX} {G : GG} (C : CX X G 3 cX11_keptNow RX11) (R : RT X (some .int)) (hR : mR X = rmX11_keptNow) (F : Nat) (σ : St) (c4 : Int → Int → Option (Int)) (hc4 : ∀ (x1 : Int) (x2 : Int), ZZ X G 3 (QM X G vzI (wzR σ) (0, 0)) (0, 0) (c4 x1 x2) (w0 σ) 4 [(0, vr G 143), (1, vi x1), (2, vi x2)] []) : ∀ (x2 : Int) (s0 : Int) (s1 : Int), ZZ X G 3 (QM X G vzI (wzR σ) (0, 0)) (0, 0) (gX11_keptNow_L44 F σ c4 x2 s0 s1) (w0 σ) 44 [(0, vr G 143), (2, vi x2)] [vi s1, vi s0] := by
  intro x2 s0 s1
  show ZZ X G 3 (QM X G vzI (wzR σ) (0, 0)) (0, 0) (c4 (s0 + s1) (x2 + 1)) (w0 σ) 44 [(0, vr G 143), (2, vi x2)] [vi s1, vi s0]
  refine z_iadd C dX11_keptNow_44 45 rfl ?_
  refine z_istore_n (lv' := [(1, vi (s0 + s1)), (0, vr G 143), (2, vi x2)]) C 1 rfl (by decide) dX11_keptNow_45 46 rfl rfl ?_
  refine z_iinc (lv' := [(2, vi (x2 + 1)), (1, vi (s0 + s1)), (0, vr G 143)]) C (by decide) 2 rfl dX11_keptNow_46 49 rfl rfl ?_
  refine z_goto C dX11_keptNow_49 4 (by decide) ?_
  refine z_lv (lv' := [(0, vr G 143), (1, vi (s0 + s1)), (2, vi (x2 + 1))]) [2, 1, 0] rfl ?_
  exact hc4 (s0 + s1) (x2 + 1)
set_option maxRecDepth 100000 in
set_option maxHeartbeats 4000000 in
theorem pX11_keptNow_L4 {X : MX} {G : GG} (C : CX X G 3 cX11_keptNow RX11) (R : RT X (some .int)) (hR : mR X = rmX11_keptNow) (F : Nat) (σ : St)  : ∀ (n : Nat) (x1 : Int) (x2 : Int), ZZ X G 3 (QM X G vzI (wzR σ) (0, 0)) (0, 0) (gX11_keptNow_L4 F σ n x1 x2) (w0 σ) 4 [(0, vr G 143), (1, vi x1), (2, vi x2)] [] := by
  intro n
  induction n with
  | zero =>
    intro _ _
    exact z_none
  | succ n ih =>
    intro x1 x2
    show ZZ X G 3 (QM X G vzI (wzR σ) (0, 0)) (0, 0) (if w32 x2 ≥ w32 (σ 143 27) then some x1 else gd (0 ≤ w32 x2 ∧ w32 x2 < 9) (if w32 (σ 164 (w32 x2)) ≠ (-4) then gd (0 ≤ w32 x2 ∧ w32 x2 < 9) (gd (0 ≤ w32 ((6 * x2) + (σ 164 (w32 x2))) ∧ w32 ((6 * x2) + (σ 164 (w32 x2))) < 54) (gX11_keptNow_L44 F σ (gX11_keptNow_L4 F σ n) x2 x1 (σ 162 (w32 ((6 * x2) + (σ 164 (w32 x2))))))) else gX11_keptNow_L44 F σ (gX11_keptNow_L4 F σ n) x2 x1 0)) (w0 σ) 4 [(0, vr G 143), (1, vi x1), (2, vi x2)] []
    refine z_iload_n C 2 rfl 2 rfl dX11_keptNow_4 5 rfl ?_
    refine z_aload_n C 0 rfl 0 rfl dX11_keptNow_5 6 rfl ?_
    refine y_getI C fX11_243 one_11 dX11_keptNow_6 9 rfl ?_
    refine z_icmp_ge C dX11_keptNow_9 52 (by decide) 12 rfl rfl rfl (fun _ => ?_) (fun _ => ?_)
    · refine z_iload_n C 1 rfl 1 rfl dX11_keptNow_52 53 rfl ?_
      exact z_iret C R rfl rfl dX11_keptNow_53
    · refine z_iload_n C 1 rfl 1 rfl dX11_keptNow_12 13 rfl ?_
      refine z_aload_n C 0 rfl 0 rfl dX11_keptNow_13 14 rfl ?_
      refine y_getR C fX11_70 one_11 lay_11_33 dX11_keptNow_14 17 rfl ?_
      refine z_iload_n C 2 rfl 2 rfl dX11_keptNow_17 18 rfl ?_
      refine y_iald C lay_11_33.2 rfl dX11_keptNow_18 19 rfl rfl (fun _ => ?_)
      refine z_bipush C (by decide) dX11_keptNow_19 21 rfl ?_
      refine z_icmp_ne C dX11_keptNow_21 28 (by decide) 24 rfl rfl (w32_id (a := (-4)) (by decide)) (fun _ => ?_) (fun _ => ?_)
      · refine z_aload_n C 0 rfl 0 rfl dX11_keptNow_28 29 rfl ?_
        refine y_getR C fX11_64 one_11 lay_11_31 dX11_keptNow_29 32 rfl ?_
        refine z_bipush C (by decide) dX11_keptNow_32 34 rfl ?_
        refine z_iload_n C 2 rfl 2 rfl dX11_keptNow_34 35 rfl ?_
        refine z_imul C dX11_keptNow_35 36 rfl ?_
        refine z_aload_n C 0 rfl 0 rfl dX11_keptNow_36 37 rfl ?_
        refine y_getR C fX11_70 one_11 lay_11_33 dX11_keptNow_37 40 rfl ?_
        refine z_iload_n C 2 rfl 2 rfl dX11_keptNow_40 41 rfl ?_
        refine y_iald C lay_11_33.2 rfl dX11_keptNow_41 42 rfl rfl (fun _ => ?_)
        refine z_iadd C dX11_keptNow_42 43 rfl ?_
        refine y_iald C lay_11_31.2 rfl dX11_keptNow_43 44 rfl rfl (fun _ => ?_)
        refine z_lv (lv' := [(0, vr G 143), (2, vi x2)]) [0, 2] rfl ?_
        exact pX11_keptNow_L44 C R hR F σ (gX11_keptNow_L4 F σ n) ih x2 x1 (σ 162 (w32 ((6 * x2) + (σ 164 (w32 x2)))))
      · refine z_iconst C dX11_keptNow_24 25 rfl ?_
        refine z_goto C dX11_keptNow_25 44 (by decide) ?_
        refine z_lv (lv' := [(0, vr G 143), (2, vi x2)]) [0, 2] rfl ?_
        exact pX11_keptNow_L44 C R hR F σ (gX11_keptNow_L4 F σ n) ih x2 x1 0
set_option maxRecDepth 100000 in
set_option maxHeartbeats 4000000 in
theorem tX11_keptNow (l : Launch) (G : GG) (F : Nat) (σ : St) : Ctr l G yX11_keptNow cX11_keptNow 3 (some .int) rmX11_keptNow [vr G 143] (w0 σ) vzI (wzR σ) (gX11_keptNow F σ) := by
  refine ctr_of (by decide) (Nat.le_of_ble_eq_true rfl) mwX11_keptNow.1 (fun X hl hR C R hnm => ?_)
  subst hl
  refine z_lv (lv' := [(0, vr G 143)]) [0] rfl ?_
  show ZZ X G 3 (QM X G vzI (wzR σ) (0, 0)) (0, 0) (gX11_keptNow_L4 F σ F 0 0) (w0 σ) 0 [(0, vr G 143)] []
  refine z_iconst C dX11_keptNow_0 1 rfl ?_
  refine z_istore_n (lv' := [(1, vi 0), (0, vr G 143)]) C 1 rfl (by decide) dX11_keptNow_1 2 rfl rfl ?_
  refine z_iconst C dX11_keptNow_2 3 rfl ?_
  refine z_istore_n (lv' := [(2, vi 0), (1, vi 0), (0, vr G 143)]) C 2 rfl (by decide) dX11_keptNow_3 4 rfl rfl ?_
  refine z_lv (lv' := [(0, vr G 143), (1, vi 0), (2, vi 0)]) [2, 1, 0] rfl ?_
  exact pX11_keptNow_L4 C R hR F σ F 0 0
-- runByNumbers
def gX11_runByNumbers_L6 (F : Nat) (x1 : Int) : Nat → Int → St → Option (St)
  | 0, _, _ => none
  | n + 1, x2, σ => if w32 x2 ≥ w32 (σ 143 27) then some σ else (gX11_comes F σ x2 x1).bind fun r1 => gX11_runByNumbers_L6 F x1 n (x2 + 1) r1.2
def gX11_runByNumbers (F : Nat) (σ : St) (x1 : Int) : Option (St) := (gX11_fresh F σ).bind fun r1 => gX11_runByNumbers_L6 F x1 F 0 r1
def rmX11_runByNumbers : Room := { frames := 4, cells := 0, slots := 0, locals := 99 }
set_option maxRecDepth 100000 in
set_option maxHeartbeats 4000000 in
theorem pX11_runByNumbers_L6 {X : MX} {G : GG} (C : CX X G 3 cX11_runByNumbers RX11) (R : RT X none) (hR : mR X = rmX11_runByNumbers) (F : Nat) (x1 : Int)  : ∀ (n : Nat) (x2 : Int) (σ : St), ZZ X G 3 (QM X G vzV wzV (0, 0)) (0, 0) (gX11_runByNumbers_L6 F x1 n x2 σ) (w0 σ) 6 [(0, vr G 143), (1, vi x1), (2, vi x2)] [] := by
  intro n
  induction n with
  | zero =>
    intro _ _
    exact z_none
  | succ n ih =>
    intro x2 σ
    show ZZ X G 3 (QM X G vzV wzV (0, 0)) (0, 0) (if w32 x2 ≥ w32 (σ 143 27) then some σ else (gX11_comes F σ x2 x1).bind fun r1 => gX11_runByNumbers_L6 F x1 n (x2 + 1) r1.2) (w0 σ) 6 [(0, vr G 143), (1, vi x1), (2, vi x2)] []
    refine z_iload_n C 2 rfl 2 rfl dX11_runByNumbers_6 7 rfl ?_
    refine z_aload_n C 0 rfl 0 rfl dX11_runByNumbers_7 8 rfl ?_
    refine y_getI C fX11_243 one_11 dX11_runByNumbers_8 11 rfl ?_
    refine z_icmp_ge C dX11_runByNumbers_11 27 (by decide) 14 rfl rfl rfl (fun _ => ?_) (fun _ => ?_)
    · exact z_vret C R rfl rfl dX11_runByNumbers_27
    · refine z_aload_n C 0 rfl 0 rfl dX11_runByNumbers_14 15 rfl ?_
      refine z_iload_n C 2 rfl 2 rfl dX11_runByNumbers_15 16 rfl ?_
      refine z_iload_n C 1 rfl 1 rfl dX11_runByNumbers_16 17 rfl ?_
      refine y_callVIw C hR (tX11_comes (mL X) G F σ x2 x1) ⟨mwX11_comes, mvX11_comes, lkX11_270⟩ one_11 rfl rfl (Nat.le_of_ble_eq_true rfl) (by unfold rmOK; decide) dX11_runByNumbers_17 20 rfl (fun r1 _ => ?_)
      refine z_pop C rfl dX11_runByNumbers_20 21 rfl ?_
      refine z_iinc (lv' := [(2, vi (x2 + 1)), (0, vr G 143), (1, vi x1)]) C (by decide) 2 rfl dX11_runByNumbers_21 24 rfl rfl ?_
      refine z_goto C dX11_runByNumbers_24 6 (by decide) ?_
      refine z_lv (lv' := [(0, vr G 143), (1, vi x1), (2, vi (x2 + 1))]) [1, 2, 0] rfl ?_
      exact ih (x2 + 1) r1.2
set_option maxRecDepth 100000 in
set_option maxHeartbeats 4000000 in
theorem tX11_runByNumbers (l : Launch) (G : GG) (F : Nat) (σ : St) (x1 : Int) : Ctr l G yX11_runByNumbers cX11_runByNumbers 3 none rmX11_runByNumbers [vr G 143, vi x1] (w0 σ) vzV wzV (gX11_runByNumbers F σ x1) := by
  refine ctr_of (by decide) (Nat.le_of_ble_eq_true rfl) mwX11_runByNumbers.1 (fun X hl hR C R hnm => ?_)
  subst hl
  refine z_lv (lv' := [(0, vr G 143), (1, vi x1)]) [0, 1] rfl ?_
  show ZZ X G 3 (QM X G vzV wzV (0, 0)) (0, 0) ((gX11_fresh F σ).bind fun r1 => gX11_runByNumbers_L6 F x1 F 0 r1) (w0 σ) 0 [(0, vr G 143), (1, vi x1)] []
  refine z_aload_n C 0 rfl 0 rfl dX11_runByNumbers_0 1 rfl ?_
  refine y_callVv C hR (tX11_fresh (mL X) G F σ) ⟨mwX11_fresh, mvX11_fresh, lkX11_246⟩ one_11 rfl rfl (Nat.le_of_ble_eq_true rfl) (by unfold rmOK; decide) dX11_runByNumbers_1 4 rfl (fun r1 _ => ?_)
  refine z_iconst C dX11_runByNumbers_4 5 rfl ?_
  refine z_istore_n (lv' := [(2, vi 0), (0, vr G 143), (1, vi x1)]) C 2 rfl (by decide) dX11_runByNumbers_5 6 rfl rfl ?_
  refine z_lv (lv' := [(0, vr G 143), (1, vi x1), (2, vi 0)]) [1, 2, 0] rfl ?_
  exact pX11_runByNumbers_L6 C R hR F x1 F 0 r1
-- run
def gX11_run_L82 (F : Nat) (x1 : Int) (x2 : Int) (c55 : Int → Int → St → Option (Int × St)) (x4 : Int) (s0 : Int) (s1 : Int) (σ : St) : Option (Int × St) := c55 (s0 + s1) (x4 + 1) σ
def gX11_run_L55 (F : Nat) (x1 : Int) (x2 : Int) : Nat → Int → Int → St → Option (Int × St)
  | 0, _, _, _ => none
  | n + 1, x3, x4, σ => if w32 x4 ≥ w32 (σ 143 4) then if w32 x2 ≠ 0 then if w32 x2 ≠ 1 then if w32 x2 ≠ 2 then if w32 x2 ≠ 3 then gd (0 ≤ w32 (x2 - 10) ∧ w32 (x2 - 10) < 9) (some (σ 164 (w32 (x2 - 10)), σ)) else some (σ 143 36, σ) else some (x3, σ) else (gX11_keptNow F σ).bind fun r1 => some (r1, σ) else (gX11_valueNow F σ).bind fun r2 => some (r2, σ) else gd (0 ≤ w32 x4 ∧ w32 x4 < 9) (if w32 (σ 164 (w32 x4)) ≠ (-4) then gX11_run_L82 F x1 x2 (gX11_run_L55 F x1 x2 n) x4 x3 1 σ else gX11_run_L82 F x1 x2 (gX11_run_L55 F x1 x2 n) x4 x3 0 σ)
def gX11_run_L41 (F : Nat) (x1 : Int) (x2 : Int) (σ : St) : Option (Int × St) := (gX11_loadMain F σ).bind fun r1 => (gX11_runByNumbers F r1 x1).bind fun r2 => gX11_run_L55 F x1 x2 F 0 0 r2
def gX11_run (F : Nat) (σ : St) (x1 : Int) (x2 : Int) : Option (Int × St) := (gX11_isRule σ x1).bind fun r1 => if w32 r1 = 0 then some ((-1), σ) else (gX11_in σ (w32 x2) 0 3).bind fun r2 => if w32 r2 ≠ 0 then gX11_run_L41 F x1 x2 σ else (gX11_in σ (w32 x2) 10 (w32 (9 + (σ 143 4)))).bind fun r3 => if w32 r3 ≠ 0 then gX11_run_L41 F x1 x2 σ else some ((-1), σ)
def rmX11_run : Room := { frames := 5, cells := 0, slots := 0, locals := 121 }
set_option maxRecDepth 100000 in
set_option maxHeartbeats 4000000 in
theorem pX11_run_L82 {X : MX} {G : GG} (C : CX X G 5 cX11_run RX11) (R : RT X (some .int)) (hR : mR X = rmX11_run) (F : Nat) (x1 : Int) (x2 : Int) (c55 : Int → Int → St → Option (Int × St)) (hc55 : ∀ (x3 : Int) (x4 : Int) (σ : St), ZZ X G 5 (QM X G vzIw wzW (0, 0)) (0, 0) (c55 x3 x4 σ) (w0 σ) 55 [(0, vr G 143), (2, vi x2), (3, vi x3), (4, vi x4)] []) : ∀ (x4 : Int) (s0 : Int) (s1 : Int) (σ : St), ZZ X G 5 (QM X G vzIw wzW (0, 0)) (0, 0) (gX11_run_L82 F x1 x2 c55 x4 s0 s1 σ) (w0 σ) 82 [(0, vr G 143), (2, vi x2), (4, vi x4)] [vi s1, vi s0] := by
  intro x4 s0 s1 σ
  show ZZ X G 5 (QM X G vzIw wzW (0, 0)) (0, 0) (c55 (s0 + s1) (x4 + 1) σ) (w0 σ) 82 [(0, vr G 143), (2, vi x2), (4, vi x4)] [vi s1, vi s0]
  refine z_iadd C dX11_run_82 83 rfl ?_
  refine z_istore_n (lv' := [(3, vi (s0 + s1)), (0, vr G 143), (2, vi x2), (4, vi x4)]) C 3 rfl (by decide) dX11_run_83 84 rfl rfl ?_
  refine z_iinc (lv' := [(4, vi (x4 + 1)), (3, vi (s0 + s1)), (0, vr G 143), (2, vi x2)]) C (by decide) 3 rfl dX11_run_84 87 rfl rfl ?_
  refine z_goto C dX11_run_87 55 (by decide) ?_
  refine z_lv (lv' := [(0, vr G 143), (2, vi x2), (3, vi (s0 + s1)), (4, vi (x4 + 1))]) [2, 3, 1, 0] rfl ?_
  exact hc55 (s0 + s1) (x4 + 1) σ
set_option maxRecDepth 100000 in
set_option maxHeartbeats 4000000 in
theorem pX11_run_L55 {X : MX} {G : GG} (C : CX X G 5 cX11_run RX11) (R : RT X (some .int)) (hR : mR X = rmX11_run) (F : Nat) (x1 : Int) (x2 : Int)  : ∀ (n : Nat) (x3 : Int) (x4 : Int) (σ : St), ZZ X G 5 (QM X G vzIw wzW (0, 0)) (0, 0) (gX11_run_L55 F x1 x2 n x3 x4 σ) (w0 σ) 55 [(0, vr G 143), (2, vi x2), (3, vi x3), (4, vi x4)] [] := by
  intro n
  induction n with
  | zero =>
    intro _ _ _
    exact z_none
  | succ n ih =>
    intro x3 x4 σ
    show ZZ X G 5 (QM X G vzIw wzW (0, 0)) (0, 0) (if w32 x4 ≥ w32 (σ 143 4) then if w32 x2 ≠ 0 then if w32 x2 ≠ 1 then if w32 x2 ≠ 2 then if w32 x2 ≠ 3 then gd (0 ≤ w32 (x2 - 10) ∧ w32 (x2 - 10) < 9) (some (σ 164 (w32 (x2 - 10)), σ)) else some (σ 143 36, σ) else some (x3, σ) else (gX11_keptNow F σ).bind fun r1 => some (r1, σ) else (gX11_valueNow F σ).bind fun r2 => some (r2, σ) else gd (0 ≤ w32 x4 ∧ w32 x4 < 9) (if w32 (σ 164 (w32 x4)) ≠ (-4) then gX11_run_L82 F x1 x2 (gX11_run_L55 F x1 x2 n) x4 x3 1 σ else gX11_run_L82 F x1 x2 (gX11_run_L55 F x1 x2 n) x4 x3 0 σ)) (w0 σ) 55 [(0, vr G 143), (2, vi x2), (3, vi x3), (4, vi x4)] []
    refine z_iload C 3 rfl dX11_run_55 57 rfl ?_
    refine z_aload_n C 0 rfl 0 rfl dX11_run_57 58 rfl ?_
    refine y_getI C fX11_130 one_11 dX11_run_58 61 rfl ?_
    refine z_icmp_ge C dX11_run_61 90 (by decide) 64 rfl rfl rfl (fun _ => ?_) (fun _ => ?_)
    · refine z_iload_n C 2 rfl 1 rfl dX11_run_90 91 rfl ?_
      refine z_if_ne C dX11_run_91 101 (by decide) 94 rfl rfl (fun _ => ?_) (fun _ => ?_)
      · refine z_iload_n C 2 rfl 1 rfl dX11_run_101 102 rfl ?_
        refine z_iconst C dX11_run_102 103 rfl ?_
        refine z_icmp_ne C dX11_run_103 113 (by decide) 106 rfl rfl (w32_id (a := 1) (by decide)) (fun _ => ?_) (fun _ => ?_)
        · refine z_iload_n C 2 rfl 1 rfl dX11_run_113 114 rfl ?_
          refine z_iconst C dX11_run_114 115 rfl ?_
          refine z_icmp_ne C dX11_run_115 122 (by decide) 118 rfl rfl (w32_id (a := 2) (by decide)) (fun _ => ?_) (fun _ => ?_)
          · refine z_iload_n C 2 rfl 1 rfl dX11_run_122 123 rfl ?_
            refine z_iconst C dX11_run_123 124 rfl ?_
            refine z_icmp_ne C dX11_run_124 134 (by decide) 127 rfl rfl (w32_id (a := 3) (by decide)) (fun _ => ?_) (fun _ => ?_)
            · refine z_aload_n C 0 rfl 0 rfl dX11_run_134 135 rfl ?_
              refine y_getR C fX11_70 one_11 lay_11_33 dX11_run_135 138 rfl ?_
              refine z_iload_n C 2 rfl 1 rfl dX11_run_138 139 rfl ?_
              refine z_bipush C (by decide) dX11_run_139 141 rfl ?_
              refine z_isub C dX11_run_141 142 rfl ?_
              refine y_iald C lay_11_33.2 rfl dX11_run_142 143 rfl rfl (fun _ => ?_)
              exact z_iret C R rfl rfl dX11_run_143
            · refine z_aload_n C 0 rfl 0 rfl dX11_run_127 128 rfl ?_
              refine y_getI C fX11_237 one_11 dX11_run_128 131 rfl ?_
              refine z_goto C dX11_run_131 143 (by decide) ?_
              exact z_iret C R rfl rfl dX11_run_143
          · refine z_iload_n C 3 rfl 2 rfl dX11_run_118 119 rfl ?_
            refine z_goto C dX11_run_119 143 (by decide) ?_
            exact z_iret C R rfl rfl dX11_run_143
        · refine z_aload_n C 0 rfl 0 rfl dX11_run_106 107 rfl ?_
          refine y_callVI C hR (tX11_keptNow (mL X) G F σ) ⟨mwX11_keptNow, mvX11_keptNow, lkX11_282⟩ one_11 rfl rfl (Nat.le_of_ble_eq_true rfl) (by unfold rmOK; decide) dX11_run_107 110 rfl (fun r1 _ => ?_)
          refine z_goto C dX11_run_110 143 (by decide) ?_
          exact z_iret C R rfl rfl dX11_run_143
      · refine z_aload_n C 0 rfl 0 rfl dX11_run_94 95 rfl ?_
        refine y_callVI C hR (tX11_valueNow (mL X) G F σ) ⟨mwX11_valueNow, mvX11_valueNow, lkX11_279⟩ one_11 rfl rfl (Nat.le_of_ble_eq_true rfl) (by unfold rmOK; decide) dX11_run_95 98 rfl (fun r2 _ => ?_)
        refine z_goto C dX11_run_98 143 (by decide) ?_
        exact z_iret C R rfl rfl dX11_run_143
    · refine z_iload_n C 3 rfl 2 rfl dX11_run_64 65 rfl ?_
      refine z_aload_n C 0 rfl 0 rfl dX11_run_65 66 rfl ?_
      refine y_getR C fX11_70 one_11 lay_11_33 dX11_run_66 69 rfl ?_
      refine z_iload C 3 rfl dX11_run_69 71 rfl ?_
      refine y_iald C lay_11_33.2 rfl dX11_run_71 72 rfl rfl (fun _ => ?_)
      refine z_bipush C (by decide) dX11_run_72 74 rfl ?_
      refine z_icmp_ne C dX11_run_74 81 (by decide) 77 rfl rfl (w32_id (a := (-4)) (by decide)) (fun _ => ?_) (fun _ => ?_)
      · refine z_iconst C dX11_run_81 82 rfl ?_
        refine z_lv (lv' := [(0, vr G 143), (2, vi x2), (4, vi x4)]) [0, 1, 3] rfl ?_
        exact pX11_run_L82 C R hR F x1 x2 (gX11_run_L55 F x1 x2 n) ih x4 x3 1 σ
      · refine z_iconst C dX11_run_77 78 rfl ?_
        refine z_goto C dX11_run_78 82 (by decide) ?_
        refine z_lv (lv' := [(0, vr G 143), (2, vi x2), (4, vi x4)]) [0, 1, 3] rfl ?_
        exact pX11_run_L82 C R hR F x1 x2 (gX11_run_L55 F x1 x2 n) ih x4 x3 0 σ
set_option maxRecDepth 100000 in
set_option maxHeartbeats 4000000 in
theorem pX11_run_L41 {X : MX} {G : GG} (C : CX X G 5 cX11_run RX11) (R : RT X (some .int)) (hR : mR X = rmX11_run) (F : Nat) (x1 : Int) (x2 : Int)  : ∀ (σ : St), ZZ X G 5 (QM X G vzIw wzW (0, 0)) (0, 0) (gX11_run_L41 F x1 x2 σ) (w0 σ) 41 [(0, vr G 143), (1, vi x1), (2, vi x2)] [] := by
  intro σ
  show ZZ X G 5 (QM X G vzIw wzW (0, 0)) (0, 0) ((gX11_loadMain F σ).bind fun r1 => (gX11_runByNumbers F r1 x1).bind fun r2 => gX11_run_L55 F x1 x2 F 0 0 r2) (w0 σ) 41 [(0, vr G 143), (1, vi x1), (2, vi x2)] []
  refine z_aload_n C 0 rfl 0 rfl dX11_run_41 42 rfl ?_
  refine y_callVv C hR (tX11_loadMain (mL X) G F σ) ⟨mwX11_loadMain, mvX11_loadMain, lkX11_273⟩ one_11 rfl rfl (Nat.le_of_ble_eq_true rfl) (by unfold rmOK; decide) dX11_run_42 45 rfl (fun r1 _ => ?_)
  refine z_aload_n C 0 rfl 0 rfl dX11_run_45 46 rfl ?_
  refine z_iload_n C 1 rfl 1 rfl dX11_run_46 47 rfl ?_
  refine y_callVv C hR (tX11_runByNumbers (mL X) G F r1 x1) ⟨mwX11_runByNumbers, mvX11_runByNumbers, lkX11_276⟩ one_11 rfl rfl (Nat.le_of_ble_eq_true rfl) (by unfold rmOK; decide) dX11_run_47 50 rfl (fun r2 _ => ?_)
  refine z_iconst C dX11_run_50 51 rfl ?_
  refine z_istore_n (lv' := [(3, vi 0), (0, vr G 143), (1, vi x1), (2, vi x2)]) C 3 rfl (by decide) dX11_run_51 52 rfl rfl ?_
  refine z_iconst C dX11_run_52 53 rfl ?_
  refine z_istore (lv' := [(4, vi 0), (3, vi 0), (0, vr G 143), (1, vi x1), (2, vi x2)]) C (by decide) dX11_run_53 55 rfl rfl ?_
  refine z_lv (lv' := [(0, vr G 143), (2, vi x2), (3, vi 0), (4, vi 0)]) [2, 4, 1, 0] rfl ?_
  exact pX11_run_L55 C R hR F x1 x2 F 0 0 r2
set_option maxRecDepth 100000 in
set_option maxHeartbeats 4000000 in
theorem tX11_run (l : Launch) (G : GG) (F : Nat) (σ : St) (x1 : Int) (x2 : Int) : Ctr l G yX11_run cX11_run 5 (some .int) rmX11_run [vr G 143, vi x1, vi x2] (w0 σ) vzIw wzW (gX11_run F σ x1 x2) := by
  refine ctr_of (by decide) (Nat.le_of_ble_eq_true rfl) mwX11_run.1 (fun X hl hR C R hnm => ?_)
  subst hl
  refine z_lv (lv' := [(0, vr G 143), (1, vi x1), (2, vi x2)]) [0, 1, 2] rfl ?_
  show ZZ X G 5 (QM X G vzIw wzW (0, 0)) (0, 0) ((gX11_isRule σ x1).bind fun r1 => if w32 r1 = 0 then some ((-1), σ) else (gX11_in σ (w32 x2) 0 3).bind fun r2 => if w32 r2 ≠ 0 then gX11_run_L41 F x1 x2 σ else (gX11_in σ (w32 x2) 10 (w32 (9 + (σ 143 4)))).bind fun r3 => if w32 r3 ≠ 0 then gX11_run_L41 F x1 x2 σ else some ((-1), σ)) (w0 σ) 0 [(0, vr G 143), (1, vi x1), (2, vi x2)] []
  refine z_aload_n C 0 rfl 0 rfl dX11_run_0 1 rfl ?_
  refine z_iload_n C 1 rfl 1 rfl dX11_run_1 2 rfl ?_
  refine y_callVI C hR (tX11_isRule (mL X) G σ x1) ⟨mwX11_isRule, mvX11_isRule, lkX11_229⟩ one_11 rfl rfl (Nat.le_of_ble_eq_true rfl) (by unfold rmOK; decide) dX11_run_2 5 rfl (fun r1 _ => ?_)
  refine z_if_eq C dX11_run_5 39 (by decide) 8 rfl rfl (fun _ => ?_) (fun _ => ?_)
  · refine z_iconst C dX11_run_39 40 rfl ?_
    exact z_iret C R rfl rfl dX11_run_40
  · refine z_iload_n C 2 rfl 2 rfl dX11_run_8 9 rfl ?_
    refine z_i2l C dX11_run_9 10 rfl ?_
    refine z_lconst (v := 0) C (by decide) dX11_run_10 11 rfl ?_
    refine z_ldc2 (v := 3) C clX11_133 (by decide) dX11_run_11 14 rfl ?_
    refine y_callSI C hR (tX11_in (mL X) G σ (w32 x2) 0 3) ⟨mwX11_in, msX11_in, lkX11_126⟩ rfl rfl (Nat.le_of_ble_eq_true rfl) (by unfold rmOK; decide) dX11_run_14 17 rfl (fun r2 _ => ?_)
    refine z_if_ne C dX11_run_17 41 (by decide) 20 rfl rfl (fun _ => ?_) (fun _ => ?_)
    · exact pX11_run_L41 C R hR F x1 x2 σ
    · refine z_iload_n C 2 rfl 2 rfl dX11_run_20 21 rfl ?_
      refine z_i2l C dX11_run_21 22 rfl ?_
      refine z_ldc2 (v := 10) C clX11_232 (by decide) dX11_run_22 25 rfl ?_
      refine z_bipush C (by decide) dX11_run_25 27 rfl ?_
      refine z_aload_n C 0 rfl 0 rfl dX11_run_27 28 rfl ?_
      refine y_getI C fX11_130 one_11 dX11_run_28 31 rfl ?_
      refine z_iadd C dX11_run_31 32 rfl ?_
      refine z_i2l C dX11_run_32 33 rfl ?_
      refine y_callSI C hR (tX11_in (mL X) G σ (w32 x2) 10 (w32 (9 + (σ 143 4)))) ⟨mwX11_in, msX11_in, lkX11_126⟩ rfl rfl (Nat.le_of_ble_eq_true rfl) (by unfold rmOK; decide) dX11_run_33 36 rfl (fun r3 _ => ?_)
      refine z_if_ne C dX11_run_36 41 (by decide) 39 rfl rfl (fun _ => ?_) (fun _ => ?_)
      · exact pX11_run_L41 C R hR F x1 x2 σ
      · refine z_iconst C dX11_run_39 40 rfl ?_
        exact z_iret C R rfl rfl dX11_run_40
-- runByOrder
def gX11_runByOrder_L6 (F : Nat) (x1 : Int) : Nat → Int → St → Option (Int × St)
  | 0, _, _ => none
  | n + 1, x2, σ => if w32 x2 ≥ w32 (σ 143 27) then (gX11_valueNow F σ).bind fun r1 => some (r1, σ) else gd (0 ≤ w32 x2 ∧ w32 x2 < 9) ((gX11_comes F σ (σ 166 (w32 x2)) x1).bind fun r2 => gX11_runByOrder_L6 F x1 n (x2 + 1) r2.2)
def gX11_runByOrder (F : Nat) (σ : St) (x1 : Int) : Option (Int × St) := (gX11_fresh F σ).bind fun r1 => gX11_runByOrder_L6 F x1 F 0 r1
def rmX11_runByOrder : Room := { frames := 4, cells := 0, slots := 0, locals := 99 }
set_option maxRecDepth 100000 in
set_option maxHeartbeats 4000000 in
theorem pX11_runByOrder_L6 {X : MX} {G : GG} (C : CX X G 3 cX11_runByOrder RX11) (R : RT X (some .int)) (hR : mR X = rmX11_runByOrder) (F : Nat) (x1 : Int)  : ∀ (n : Nat) (x2 : Int) (σ : St), ZZ X G 3 (QM X G vzIw wzW (0, 0)) (0, 0) (gX11_runByOrder_L6 F x1 n x2 σ) (w0 σ) 6 [(0, vr G 143), (1, vi x1), (2, vi x2)] [] := by
  intro n
  induction n with
  | zero =>
    intro _ _
    exact z_none
  | succ n ih =>
    intro x2 σ
    show ZZ X G 3 (QM X G vzIw wzW (0, 0)) (0, 0) (if w32 x2 ≥ w32 (σ 143 27) then (gX11_valueNow F σ).bind fun r1 => some (r1, σ) else gd (0 ≤ w32 x2 ∧ w32 x2 < 9) ((gX11_comes F σ (σ 166 (w32 x2)) x1).bind fun r2 => gX11_runByOrder_L6 F x1 n (x2 + 1) r2.2)) (w0 σ) 6 [(0, vr G 143), (1, vi x1), (2, vi x2)] []
    refine z_iload_n C 2 rfl 2 rfl dX11_runByOrder_6 7 rfl ?_
    refine z_aload_n C 0 rfl 0 rfl dX11_runByOrder_7 8 rfl ?_
    refine y_getI C fX11_243 one_11 dX11_runByOrder_8 11 rfl ?_
    refine z_icmp_ge C dX11_runByOrder_11 32 (by decide) 14 rfl rfl rfl (fun _ => ?_) (fun _ => ?_)
    · refine z_aload_n C 0 rfl 0 rfl dX11_runByOrder_32 33 rfl ?_
      refine y_callVI C hR (tX11_valueNow (mL X) G F σ) ⟨mwX11_valueNow, mvX11_valueNow, lkX11_279⟩ one_11 rfl rfl (Nat.le_of_ble_eq_true rfl) (by unfold rmOK; decide) dX11_runByOrder_33 36 rfl (fun r1 _ => ?_)
      exact z_iret C R rfl rfl dX11_runByOrder_36
    · refine z_aload_n C 0 rfl 0 rfl dX11_runByOrder_14 15 rfl ?_
      refine z_aload_n C 0 rfl 0 rfl dX11_runByOrder_15 16 rfl ?_
      refine y_getR C fX11_76 one_11 lay_11_37 dX11_runByOrder_16 19 rfl ?_
      refine z_iload_n C 2 rfl 2 rfl dX11_runByOrder_19 20 rfl ?_
      refine y_iald C lay_11_37.2 rfl dX11_runByOrder_20 21 rfl rfl (fun _ => ?_)
      refine z_iload_n C 1 rfl 1 rfl dX11_runByOrder_21 22 rfl ?_
      refine y_callVIw C hR (tX11_comes (mL X) G F σ (σ 166 (w32 x2)) x1) ⟨mwX11_comes, mvX11_comes, lkX11_270⟩ one_11 rfl rfl (Nat.le_of_ble_eq_true rfl) (by unfold rmOK; decide) dX11_runByOrder_22 25 rfl (fun r2 _ => ?_)
      refine z_pop C rfl dX11_runByOrder_25 26 rfl ?_
      refine z_iinc (lv' := [(2, vi (x2 + 1)), (0, vr G 143), (1, vi x1)]) C (by decide) 2 rfl dX11_runByOrder_26 29 rfl rfl ?_
      refine z_goto C dX11_runByOrder_29 6 (by decide) ?_
      refine z_lv (lv' := [(0, vr G 143), (1, vi x1), (2, vi (x2 + 1))]) [1, 2, 0] rfl ?_
      exact ih (x2 + 1) r2.2
set_option maxRecDepth 100000 in
set_option maxHeartbeats 4000000 in
theorem tX11_runByOrder (l : Launch) (G : GG) (F : Nat) (σ : St) (x1 : Int) : Ctr l G yX11_runByOrder cX11_runByOrder 3 (some .int) rmX11_runByOrder [vr G 143, vi x1] (w0 σ) vzIw wzW (gX11_runByOrder F σ x1) := by
  refine ctr_of (by decide) (Nat.le_of_ble_eq_true rfl) mwX11_runByOrder.1 (fun X hl hR C R hnm => ?_)
  subst hl
  refine z_lv (lv' := [(0, vr G 143), (1, vi x1)]) [0, 1] rfl ?_
  show ZZ X G 3 (QM X G vzIw wzW (0, 0)) (0, 0) ((gX11_fresh F σ).bind fun r1 => gX11_runByOrder_L6 F x1 F 0 r1) (w0 σ) 0 [(0, vr G 143), (1, vi x1)] []
  refine z_aload_n C 0 rfl 0 rfl dX11_runByOrder_0 1 rfl ?_
  refine y_callVv C hR (tX11_fresh (mL X) G F σ) ⟨mwX11_fresh, mvX11_fresh, lkX11_246⟩ one_11 rfl rfl (Nat.le_of_ble_eq_true rfl) (by unfold rmOK; decide) dX11_runByOrder_1 4 rfl (fun r1 _ => ?_)
  refine z_iconst C dX11_runByOrder_4 5 rfl ?_
  refine z_istore_n (lv' := [(2, vi 0), (0, vr G 143), (1, vi x1)]) C 2 rfl (by decide) dX11_runByOrder_5 6 rfl rfl ?_
  refine z_lv (lv' := [(0, vr G 143), (1, vi x1), (2, vi 0)]) [1, 2, 0] rfl ?_
  exact pX11_runByOrder_L6 C R hR F x1 F 0 r1
