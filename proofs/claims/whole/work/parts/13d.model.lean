-- layHopes
def gX11_layHopes_L143 (F : Nat) (x1 : Int) (c36 : Int → St → Option (St)) (c63 : Int → Int → St → Option (St)) (c77 : Int → Int → Int → Int → St → Option (St)) (c105 : Int → Int → Int → Int → Int → Int → St → Option (St)) (x2 : Int) (x3 : Int) (x4 : Int) (x6 : Int) (x9 : Int) (s0 : Int) (σ : St) : Option (St) := c105 x2 x3 x4 x6 s0 (x9 + 1) σ
def gX11_layHopes_L105 (F : Nat) (x1 : Int) (c36 : Int → St → Option (St)) (c63 : Int → Int → St → Option (St)) (c77 : Int → Int → Int → Int → St → Option (St)) : Nat → Int → Int → Int → Int → Int → Int → St → Option (St)
  | 0, _, _, _, _, _, _, _ => none
  | n + 1, x2, x3, x4, x6, x7, x9, σ => if w32 x9 ≥ w32 (σ 143 0) then gd (0 ≤ w32 x6 ∧ w32 x6 < 9) (c77 x2 x3 (x4 + ((w32 (σ 147 (w32 x6))) * x7)) (x6 + 1) σ) else (gX11_pairing σ x6 x9 x3 (x2 - 1)).bind fun r1 => if w64 r1 ≤ w64 x7 then gX11_layHopes_L143 F x1 c36 c63 c77 (gX11_layHopes_L105 F x1 c36 c63 c77 n) x2 x3 x4 x6 x9 x7 σ else gX11_layHopes_L143 F x1 c36 c63 c77 (gX11_layHopes_L105 F x1 c36 c63 c77 n) x2 x3 x4 x6 x9 r1 σ
def gX11_layHopes_L77 (F : Nat) (x1 : Int) (c36 : Int → St → Option (St)) (c63 : Int → Int → St → Option (St)) : Nat → Int → Int → Int → Int → St → Option (St)
  | 0, _, _, _, _, _ => none
  | n + 1, x2, x3, x4, x6, σ => if w32 x6 ≥ w32 (σ 143 4) then gd (0 ≤ w32 ((512 * x2) + x3) ∧ w32 ((512 * x2) + x3) < 3584) (c63 x2 (x3 + 1) (up σ 171 (w32 ((512 * x2) + x3)) x4)) else gd (0 ≤ w32 ((512 * (x2 - 1)) + x3) ∧ w32 ((512 * (x2 - 1)) + x3) < 3584) (gX11_layHopes_L105 F x1 c36 c63 (gX11_layHopes_L77 F x1 c36 c63 n) F x2 x3 x4 x6 (σ 171 (w32 ((512 * (x2 - 1)) + x3))) 0 σ)
def gX11_layHopes_L63 (F : Nat) (x1 : Int) (c36 : Int → St → Option (St)) : Nat → Int → Int → St → Option (St)
  | 0, _, _, _ => none
  | n + 1, x2, x3, σ => if w32 x3 ≥ w32 (σ 143 40) then c36 (x2 + 1) σ else gX11_layHopes_L77 F x1 c36 (gX11_layHopes_L63 F x1 c36 n) F x2 x3 0 0 σ
def gX11_layHopes_L36 (F : Nat) (x1 : Int) : Nat → Int → St → Option (St)
  | 0, _, _ => none
  | n + 1, x2, σ => if w32 x2 > w32 x1 then some σ else gd (0 ≤ w32 (x2 - 1) ∧ w32 (x2 - 1) < 7) ((gX11_chanceSum F σ).bind fun r1 => gd (0 ≤ w32 x2 ∧ w32 x2 < 7) (gX11_layHopes_L63 F x1 (gX11_layHopes_L36 F x1 n) F x2 0 (up σ 172 (w32 x2) ((σ 172 (w32 (x2 - 1))) * (w32 r1)))))
def gX11_layHopes_L13 (F : Nat) (x1 : Int) : Nat → Int → St → Option (St)
  | 0, _, _ => none
  | n + 1, x2, σ => if w32 x2 ≥ w32 (σ 143 40) then gX11_layHopes_L36 F x1 F 1 σ else gd (0 ≤ w32 x2 ∧ w32 x2 < 3584) (gX11_layHopes_L13 F x1 n (x2 + 1) (up σ 171 (w32 x2) 0))
def gX11_layHopes (F : Nat) (σ : St) (x1 : Int) : Option (St) := (gX11_capsAsRooms F σ).bind fun r1 => gd (0 ≤ 0 ∧ 0 < 7) (gX11_layHopes_L13 F x1 F 0 (up r1 172 0 1))
def rmX11_layHopes : Room := { frames := 2, cells := 0, slots := 0, locals := 47 }
set_option maxRecDepth 100000 in
set_option maxHeartbeats 4000000 in
theorem pX11_layHopes_L143 {X : MX} {G : GG} (C : CX X G 12 cX11_layHopes RX11) (R : RT X none) (hR : mR X = rmX11_layHopes) (F : Nat) (x1 : Int) (c36 : Int → St → Option (St)) (hc36 : ∀ (x2 : Int) (σ : St), ZZ X G 12 (QM X G vzV wzV (0, 0)) (0, 0) (c36 x2 σ) (w0 σ) 36 [(0, vr G 143), (1, vi x1), (2, vi x2)] []) (c63 : Int → Int → St → Option (St)) (hc63 : ∀ (x2 : Int) (x3 : Int) (σ : St), ZZ X G 12 (QM X G vzV wzV (0, 0)) (0, 0) (c63 x2 x3 σ) (w0 σ) 63 [(0, vr G 143), (1, vi x1), (2, vi x2), (3, vi x3)] []) (c77 : Int → Int → Int → Int → St → Option (St)) (hc77 : ∀ (x2 : Int) (x3 : Int) (x4 : Int) (x6 : Int) (σ : St), ZZ X G 12 (QM X G vzV wzV (0, 0)) (0, 0) (c77 x2 x3 x4 x6 σ) (w0 σ) 77 [(0, vr G 143), (1, vi x1), (2, vi x2), (3, vi x3), (4, vl x4), (6, vi x6)] []) (c105 : Int → Int → Int → Int → Int → Int → St → Option (St)) (hc105 : ∀ (x2 : Int) (x3 : Int) (x4 : Int) (x6 : Int) (x7 : Int) (x9 : Int) (σ : St), ZZ X G 12 (QM X G vzV wzV (0, 0)) (0, 0) (c105 x2 x3 x4 x6 x7 x9 σ) (w0 σ) 105 [(0, vr G 143), (1, vi x1), (2, vi x2), (3, vi x3), (4, vl x4), (6, vi x6), (7, vl x7), (9, vi x9)] []) : ∀ (x2 : Int) (x3 : Int) (x4 : Int) (x6 : Int) (x9 : Int) (s0 : Int) (σ : St), ZZ X G 12 (QM X G vzV wzV (0, 0)) (0, 0) (gX11_layHopes_L143 F x1 c36 c63 c77 c105 x2 x3 x4 x6 x9 s0 σ) (w0 σ) 143 [(0, vr G 143), (1, vi x1), (2, vi x2), (3, vi x3), (4, vl x4), (6, vi x6), (9, vi x9)] [vl s0] := by
  intro x2 x3 x4 x6 x9 s0 σ
  show ZZ X G 12 (QM X G vzV wzV (0, 0)) (0, 0) (c105 x2 x3 x4 x6 s0 (x9 + 1) σ) (w0 σ) 143 [(0, vr G 143), (1, vi x1), (2, vi x2), (3, vi x3), (4, vl x4), (6, vi x6), (9, vi x9)] [vl s0]
  refine z_lstore (lv' := [(7, vl s0), (0, vr G 143), (1, vi x1), (2, vi x2), (3, vi x3), (4, vl x4), (6, vi x6), (9, vi x9)]) C (by decide) dX11_layHopes_143 145 rfl rfl ?_
  refine z_iinc (lv' := [(9, vi (x9 + 1)), (7, vl s0), (0, vr G 143), (1, vi x1), (2, vi x2), (3, vi x3), (4, vl x4), (6, vi x6)]) C (by decide) 7 rfl dX11_layHopes_145 148 rfl rfl ?_
  refine z_goto C dX11_layHopes_148 105 (by decide) ?_
  refine z_lv (lv' := [(0, vr G 143), (1, vi x1), (2, vi x2), (3, vi x3), (4, vl x4), (6, vi x6), (7, vl s0), (9, vi (x9 + 1))]) [2, 3, 4, 5, 6, 7, 1, 0] rfl ?_
  exact hc105 x2 x3 x4 x6 s0 (x9 + 1) σ
set_option maxRecDepth 100000 in
set_option maxHeartbeats 4000000 in
theorem pX11_layHopes_L105 {X : MX} {G : GG} (C : CX X G 12 cX11_layHopes RX11) (R : RT X none) (hR : mR X = rmX11_layHopes) (F : Nat) (x1 : Int) (c36 : Int → St → Option (St)) (hc36 : ∀ (x2 : Int) (σ : St), ZZ X G 12 (QM X G vzV wzV (0, 0)) (0, 0) (c36 x2 σ) (w0 σ) 36 [(0, vr G 143), (1, vi x1), (2, vi x2)] []) (c63 : Int → Int → St → Option (St)) (hc63 : ∀ (x2 : Int) (x3 : Int) (σ : St), ZZ X G 12 (QM X G vzV wzV (0, 0)) (0, 0) (c63 x2 x3 σ) (w0 σ) 63 [(0, vr G 143), (1, vi x1), (2, vi x2), (3, vi x3)] []) (c77 : Int → Int → Int → Int → St → Option (St)) (hc77 : ∀ (x2 : Int) (x3 : Int) (x4 : Int) (x6 : Int) (σ : St), ZZ X G 12 (QM X G vzV wzV (0, 0)) (0, 0) (c77 x2 x3 x4 x6 σ) (w0 σ) 77 [(0, vr G 143), (1, vi x1), (2, vi x2), (3, vi x3), (4, vl x4), (6, vi x6)] []) : ∀ (n : Nat) (x2 : Int) (x3 : Int) (x4 : Int) (x6 : Int) (x7 : Int) (x9 : Int) (σ : St), ZZ X G 12 (QM X G vzV wzV (0, 0)) (0, 0) (gX11_layHopes_L105 F x1 c36 c63 c77 n x2 x3 x4 x6 x7 x9 σ) (w0 σ) 105 [(0, vr G 143), (1, vi x1), (2, vi x2), (3, vi x3), (4, vl x4), (6, vi x6), (7, vl x7), (9, vi x9)] [] := by
  intro n
  induction n with
  | zero =>
    intro _ _ _ _ _ _ _
    exact z_none
  | succ n ih =>
    intro x2 x3 x4 x6 x7 x9 σ
    show ZZ X G 12 (QM X G vzV wzV (0, 0)) (0, 0) (if w32 x9 ≥ w32 (σ 143 0) then gd (0 ≤ w32 x6 ∧ w32 x6 < 9) (c77 x2 x3 (x4 + ((w32 (σ 147 (w32 x6))) * x7)) (x6 + 1) σ) else (gX11_pairing σ x6 x9 x3 (x2 - 1)).bind fun r1 => if w64 r1 ≤ w64 x7 then gX11_layHopes_L143 F x1 c36 c63 c77 (gX11_layHopes_L105 F x1 c36 c63 c77 n) x2 x3 x4 x6 x9 x7 σ else gX11_layHopes_L143 F x1 c36 c63 c77 (gX11_layHopes_L105 F x1 c36 c63 c77 n) x2 x3 x4 x6 x9 r1 σ) (w0 σ) 105 [(0, vr G 143), (1, vi x1), (2, vi x2), (3, vi x3), (4, vl x4), (6, vi x6), (7, vl x7), (9, vi x9)] []
    refine z_iload C 7 rfl dX11_layHopes_105 107 rfl ?_
    refine z_aload_n C 0 rfl 0 rfl dX11_layHopes_107 108 rfl ?_
    refine y_getI C fX11_122 one_11 dX11_layHopes_108 111 rfl ?_
    refine z_icmp_ge C dX11_layHopes_111 151 (by decide) 114 rfl rfl rfl (fun _ => ?_) (fun _ => ?_)
    · refine z_lload C 4 rfl dX11_layHopes_151 153 rfl ?_
      refine z_aload_n C 0 rfl 0 rfl dX11_layHopes_153 154 rfl ?_
      refine y_getR C fX11_19 one_11 lay_11_5 dX11_layHopes_154 157 rfl ?_
      refine z_iload C 5 rfl dX11_layHopes_157 159 rfl ?_
      refine y_iald C lay_11_5.2 rfl dX11_layHopes_159 160 rfl rfl (fun _ => ?_)
      refine z_i2l C dX11_layHopes_160 161 rfl ?_
      refine z_lload C 6 rfl dX11_layHopes_161 163 rfl ?_
      refine z_lmul C dX11_layHopes_163 164 rfl ?_
      refine z_ladd C dX11_layHopes_164 165 rfl ?_
      refine z_lstore (lv' := [(4, vl (x4 + ((w32 (σ 147 (w32 x6))) * x7))), (0, vr G 143), (1, vi x1), (2, vi x2), (3, vi x3), (6, vi x6), (7, vl x7), (9, vi x9)]) C (by decide) dX11_layHopes_165 167 rfl rfl ?_
      refine z_iinc (lv' := [(6, vi (x6 + 1)), (4, vl (x4 + ((w32 (σ 147 (w32 x6))) * x7))), (0, vr G 143), (1, vi x1), (2, vi x2), (3, vi x3), (7, vl x7), (9, vi x9)]) C (by decide) 5 rfl dX11_layHopes_167 170 rfl rfl ?_
      refine z_goto C dX11_layHopes_170 77 (by decide) ?_
      refine z_lv (lv' := [(0, vr G 143), (1, vi x1), (2, vi x2), (3, vi x3), (4, vl (x4 + ((w32 (σ 147 (w32 x6))) * x7))), (6, vi (x6 + 1))]) [2, 3, 4, 5, 1, 0] rfl ?_
      exact hc77 x2 x3 (x4 + ((w32 (σ 147 (w32 x6))) * x7)) (x6 + 1) σ
    · refine z_aload_n C 0 rfl 0 rfl dX11_layHopes_114 115 rfl ?_
      refine z_iload C 5 rfl dX11_layHopes_115 117 rfl ?_
      refine z_iload C 7 rfl dX11_layHopes_117 119 rfl ?_
      refine z_iload_n C 3 rfl 3 rfl dX11_layHopes_119 120 rfl ?_
      refine z_iload_n C 2 rfl 2 rfl dX11_layHopes_120 121 rfl ?_
      refine z_iconst C dX11_layHopes_121 122 rfl ?_
      refine z_isub C dX11_layHopes_122 123 rfl ?_
      refine y_callVJ C hR (tX11_pairing (mL X) G σ x6 x9 x3 (x2 - 1)) ⟨mwX11_pairing, mvX11_pairing, lkX11_354⟩ one_11 rfl rfl (Nat.le_of_ble_eq_true rfl) (by unfold rmOK; decide) dX11_layHopes_123 126 rfl (fun r1 _ => ?_)
      refine z_lstore (lv' := [(10, vl r1), (0, vr G 143), (1, vi x1), (2, vi x2), (3, vi x3), (4, vl x4), (6, vi x6), (7, vl x7), (9, vi x9)]) C (by decide) dX11_layHopes_126 128 rfl rfl ?_
      refine z_lload C 0 rfl dX11_layHopes_128 130 rfl ?_
      refine z_lload C 7 rfl dX11_layHopes_130 132 rfl ?_
      refine z_lif_le C dX11_layHopes_132 133 rfl dX11_layHopes_133 141 (by decide) 136 rfl rfl rfl (fun _ => ?_) (fun _ => ?_)
      · refine z_lload C 7 rfl dX11_layHopes_141 143 rfl ?_
        refine z_lv (lv' := [(0, vr G 143), (1, vi x1), (2, vi x2), (3, vi x3), (4, vl x4), (6, vi x6), (9, vi x9)]) [1, 2, 3, 4, 5, 6, 8] rfl ?_
        exact pX11_layHopes_L143 C R hR F x1 c36 hc36 c63 hc63 c77 hc77 (gX11_layHopes_L105 F x1 c36 c63 c77 n) ih x2 x3 x4 x6 x9 x7 σ
      · refine z_lload C 0 rfl dX11_layHopes_136 138 rfl ?_
        refine z_goto C dX11_layHopes_138 143 (by decide) ?_
        refine z_lv (lv' := [(0, vr G 143), (1, vi x1), (2, vi x2), (3, vi x3), (4, vl x4), (6, vi x6), (9, vi x9)]) [1, 2, 3, 4, 5, 6, 8] rfl ?_
        exact pX11_layHopes_L143 C R hR F x1 c36 hc36 c63 hc63 c77 hc77 (gX11_layHopes_L105 F x1 c36 c63 c77 n) ih x2 x3 x4 x6 x9 r1 σ
set_option maxRecDepth 100000 in
set_option maxHeartbeats 4000000 in
theorem pX11_layHopes_L77 {X : MX} {G : GG} (C : CX X G 12 cX11_layHopes RX11) (R : RT X none) (hR : mR X = rmX11_layHopes) (F : Nat) (x1 : Int) (c36 : Int → St → Option (St)) (hc36 : ∀ (x2 : Int) (σ : St), ZZ X G 12 (QM X G vzV wzV (0, 0)) (0, 0) (c36 x2 σ) (w0 σ) 36 [(0, vr G 143), (1, vi x1), (2, vi x2)] []) (c63 : Int → Int → St → Option (St)) (hc63 : ∀ (x2 : Int) (x3 : Int) (σ : St), ZZ X G 12 (QM X G vzV wzV (0, 0)) (0, 0) (c63 x2 x3 σ) (w0 σ) 63 [(0, vr G 143), (1, vi x1), (2, vi x2), (3, vi x3)] []) : ∀ (n : Nat) (x2 : Int) (x3 : Int) (x4 : Int) (x6 : Int) (σ : St), ZZ X G 12 (QM X G vzV wzV (0, 0)) (0, 0) (gX11_layHopes_L77 F x1 c36 c63 n x2 x3 x4 x6 σ) (w0 σ) 77 [(0, vr G 143), (1, vi x1), (2, vi x2), (3, vi x3), (4, vl x4), (6, vi x6)] [] := by
  intro n
  induction n with
  | zero =>
    intro _ _ _ _ _
    exact z_none
  | succ n ih =>
    intro x2 x3 x4 x6 σ
    show ZZ X G 12 (QM X G vzV wzV (0, 0)) (0, 0) (if w32 x6 ≥ w32 (σ 143 4) then gd (0 ≤ w32 ((512 * x2) + x3) ∧ w32 ((512 * x2) + x3) < 3584) (c63 x2 (x3 + 1) (up σ 171 (w32 ((512 * x2) + x3)) x4)) else gd (0 ≤ w32 ((512 * (x2 - 1)) + x3) ∧ w32 ((512 * (x2 - 1)) + x3) < 3584) (gX11_layHopes_L105 F x1 c36 c63 (gX11_layHopes_L77 F x1 c36 c63 n) F x2 x3 x4 x6 (σ 171 (w32 ((512 * (x2 - 1)) + x3))) 0 σ)) (w0 σ) 77 [(0, vr G 143), (1, vi x1), (2, vi x2), (3, vi x3), (4, vl x4), (6, vi x6)] []
    refine z_iload C 5 rfl dX11_layHopes_77 79 rfl ?_
    refine z_aload_n C 0 rfl 0 rfl dX11_layHopes_79 80 rfl ?_
    refine y_getI C fX11_130 one_11 dX11_layHopes_80 83 rfl ?_
    refine z_icmp_ge C dX11_layHopes_83 173 (by decide) 86 rfl rfl rfl (fun _ => ?_) (fun _ => ?_)
    · refine z_aload_n C 0 rfl 0 rfl dX11_layHopes_173 174 rfl ?_
      refine y_getR C fX11_91 one_11 lay_11_47 dX11_layHopes_174 177 rfl ?_
      refine z_sipush C (by decide) dX11_layHopes_177 180 rfl ?_
      refine z_iload_n C 2 rfl 2 rfl dX11_layHopes_180 181 rfl ?_
      refine z_imul C dX11_layHopes_181 182 rfl ?_
      refine z_iload_n C 3 rfl 3 rfl dX11_layHopes_182 183 rfl ?_
      refine z_iadd C dX11_layHopes_183 184 rfl ?_
      refine z_lload C 4 rfl dX11_layHopes_184 186 rfl ?_
      refine y_last C lay_11_47.2 rfl dX11_layHopes_186 187 rfl rfl (fun _ => ?_)
      refine z_iinc (lv' := [(3, vi (x3 + 1)), (0, vr G 143), (1, vi x1), (2, vi x2), (4, vl x4), (6, vi x6)]) C (by decide) 3 rfl dX11_layHopes_187 190 rfl rfl ?_
      refine z_goto C dX11_layHopes_190 63 (by decide) ?_
      refine z_lv (lv' := [(0, vr G 143), (1, vi x1), (2, vi x2), (3, vi (x3 + 1))]) [1, 2, 3, 0] rfl ?_
      exact hc63 x2 (x3 + 1) (up σ 171 (w32 ((512 * x2) + x3)) x4)
    · refine z_aload_n C 0 rfl 0 rfl dX11_layHopes_86 87 rfl ?_
      refine y_getR C fX11_91 one_11 lay_11_47 dX11_layHopes_87 90 rfl ?_
      refine z_sipush C (by decide) dX11_layHopes_90 93 rfl ?_
      refine z_iload_n C 2 rfl 2 rfl dX11_layHopes_93 94 rfl ?_
      refine z_iconst C dX11_layHopes_94 95 rfl ?_
      refine z_isub C dX11_layHopes_95 96 rfl ?_
      refine z_imul C dX11_layHopes_96 97 rfl ?_
      refine z_iload_n C 3 rfl 3 rfl dX11_layHopes_97 98 rfl ?_
      refine z_iadd C dX11_layHopes_98 99 rfl ?_
      refine y_lald C lay_11_47.2 rfl dX11_layHopes_99 100 rfl rfl (fun _ => ?_)
      refine z_lstore (lv' := [(7, vl (σ 171 (w32 ((512 * (x2 - 1)) + x3)))), (0, vr G 143), (1, vi x1), (2, vi x2), (3, vi x3), (4, vl x4), (6, vi x6)]) C (by decide) dX11_layHopes_100 102 rfl rfl ?_
      refine z_iconst C dX11_layHopes_102 103 rfl ?_
      refine z_istore (lv' := [(9, vi 0), (7, vl (σ 171 (w32 ((512 * (x2 - 1)) + x3)))), (0, vr G 143), (1, vi x1), (2, vi x2), (3, vi x3), (4, vl x4), (6, vi x6)]) C (by decide) dX11_layHopes_103 105 rfl rfl ?_
      refine z_lv (lv' := [(0, vr G 143), (1, vi x1), (2, vi x2), (3, vi x3), (4, vl x4), (6, vi x6), (7, vl (σ 171 (w32 ((512 * (x2 - 1)) + x3)))), (9, vi 0)]) [2, 3, 4, 5, 6, 7, 1, 0] rfl ?_
      exact pX11_layHopes_L105 C R hR F x1 c36 hc36 c63 hc63 (gX11_layHopes_L77 F x1 c36 c63 n) ih F x2 x3 x4 x6 (σ 171 (w32 ((512 * (x2 - 1)) + x3))) 0 σ
set_option maxRecDepth 100000 in
set_option maxHeartbeats 4000000 in
theorem pX11_layHopes_L63 {X : MX} {G : GG} (C : CX X G 12 cX11_layHopes RX11) (R : RT X none) (hR : mR X = rmX11_layHopes) (F : Nat) (x1 : Int) (c36 : Int → St → Option (St)) (hc36 : ∀ (x2 : Int) (σ : St), ZZ X G 12 (QM X G vzV wzV (0, 0)) (0, 0) (c36 x2 σ) (w0 σ) 36 [(0, vr G 143), (1, vi x1), (2, vi x2)] []) : ∀ (n : Nat) (x2 : Int) (x3 : Int) (σ : St), ZZ X G 12 (QM X G vzV wzV (0, 0)) (0, 0) (gX11_layHopes_L63 F x1 c36 n x2 x3 σ) (w0 σ) 63 [(0, vr G 143), (1, vi x1), (2, vi x2), (3, vi x3)] [] := by
  intro n
  induction n with
  | zero =>
    intro _ _ _
    exact z_none
  | succ n ih =>
    intro x2 x3 σ
    show ZZ X G 12 (QM X G vzV wzV (0, 0)) (0, 0) (if w32 x3 ≥ w32 (σ 143 40) then c36 (x2 + 1) σ else gX11_layHopes_L77 F x1 c36 (gX11_layHopes_L63 F x1 c36 n) F x2 x3 0 0 σ) (w0 σ) 63 [(0, vr G 143), (1, vi x1), (2, vi x2), (3, vi x3)] []
    refine z_iload_n C 3 rfl 3 rfl dX11_layHopes_63 64 rfl ?_
    refine z_aload_n C 0 rfl 0 rfl dX11_layHopes_64 65 rfl ?_
    refine y_getI C fX11_288 one_11 dX11_layHopes_65 68 rfl ?_
    refine z_icmp_ge C dX11_layHopes_68 193 (by decide) 71 rfl rfl rfl (fun _ => ?_) (fun _ => ?_)
    · refine z_iinc (lv' := [(2, vi (x2 + 1)), (0, vr G 143), (1, vi x1), (3, vi x3)]) C (by decide) 2 rfl dX11_layHopes_193 196 rfl rfl ?_
      refine z_goto C dX11_layHopes_196 36 (by decide) ?_
      refine z_lv (lv' := [(0, vr G 143), (1, vi x1), (2, vi (x2 + 1))]) [1, 2, 0] rfl ?_
      exact hc36 (x2 + 1) σ
    · refine z_lconst (v := 0) C (by decide) dX11_layHopes_71 72 rfl ?_
      refine z_lstore (lv' := [(4, vl 0), (0, vr G 143), (1, vi x1), (2, vi x2), (3, vi x3)]) C (by decide) dX11_layHopes_72 74 rfl rfl ?_
      refine z_iconst C dX11_layHopes_74 75 rfl ?_
      refine z_istore (lv' := [(6, vi 0), (4, vl 0), (0, vr G 143), (1, vi x1), (2, vi x2), (3, vi x3)]) C (by decide) dX11_layHopes_75 77 rfl rfl ?_
      refine z_lv (lv' := [(0, vr G 143), (1, vi x1), (2, vi x2), (3, vi x3), (4, vl 0), (6, vi 0)]) [2, 3, 4, 5, 1, 0] rfl ?_
      exact pX11_layHopes_L77 C R hR F x1 c36 hc36 (gX11_layHopes_L63 F x1 c36 n) ih F x2 x3 0 0 σ
set_option maxRecDepth 100000 in
set_option maxHeartbeats 4000000 in
theorem pX11_layHopes_L36 {X : MX} {G : GG} (C : CX X G 12 cX11_layHopes RX11) (R : RT X none) (hR : mR X = rmX11_layHopes) (F : Nat) (x1 : Int)  : ∀ (n : Nat) (x2 : Int) (σ : St), ZZ X G 12 (QM X G vzV wzV (0, 0)) (0, 0) (gX11_layHopes_L36 F x1 n x2 σ) (w0 σ) 36 [(0, vr G 143), (1, vi x1), (2, vi x2)] [] := by
  intro n
  induction n with
  | zero =>
    intro _ _
    exact z_none
  | succ n ih =>
    intro x2 σ
    show ZZ X G 12 (QM X G vzV wzV (0, 0)) (0, 0) (if w32 x2 > w32 x1 then some σ else gd (0 ≤ w32 (x2 - 1) ∧ w32 (x2 - 1) < 7) ((gX11_chanceSum F σ).bind fun r1 => gd (0 ≤ w32 x2 ∧ w32 x2 < 7) (gX11_layHopes_L63 F x1 (gX11_layHopes_L36 F x1 n) F x2 0 (up σ 172 (w32 x2) ((σ 172 (w32 (x2 - 1))) * (w32 r1)))))) (w0 σ) 36 [(0, vr G 143), (1, vi x1), (2, vi x2)] []
    refine z_iload_n C 2 rfl 2 rfl dX11_layHopes_36 37 rfl ?_
    refine z_iload_n C 1 rfl 1 rfl dX11_layHopes_37 38 rfl ?_
    refine z_icmp_gt C dX11_layHopes_38 199 (by decide) 41 rfl rfl rfl (fun _ => ?_) (fun _ => ?_)
    · exact z_vret C R rfl rfl dX11_layHopes_199
    · refine z_aload_n C 0 rfl 0 rfl dX11_layHopes_41 42 rfl ?_
      refine y_getR C fX11_95 one_11 lay_11_48 dX11_layHopes_42 45 rfl ?_
      refine z_iload_n C 2 rfl 2 rfl dX11_layHopes_45 46 rfl ?_
      refine z_aload_n C 0 rfl 0 rfl dX11_layHopes_46 47 rfl ?_
      refine y_getR C fX11_95 one_11 lay_11_48 dX11_layHopes_47 50 rfl ?_
      refine z_iload_n C 2 rfl 2 rfl dX11_layHopes_50 51 rfl ?_
      refine z_iconst C dX11_layHopes_51 52 rfl ?_
      refine z_isub C dX11_layHopes_52 53 rfl ?_
      refine y_lald C lay_11_48.2 rfl dX11_layHopes_53 54 rfl rfl (fun _ => ?_)
      refine z_aload_n C 0 rfl 0 rfl dX11_layHopes_54 55 rfl ?_
      refine y_callVI C hR (tX11_chanceSum (mL X) G F σ) ⟨mwX11_chanceSum, mvX11_chanceSum, lkX11_351⟩ one_11 rfl rfl (Nat.le_of_ble_eq_true rfl) (by unfold rmOK; decide) dX11_layHopes_55 58 rfl (fun r1 _ => ?_)
      refine z_i2l C dX11_layHopes_58 59 rfl ?_
      refine z_lmul C dX11_layHopes_59 60 rfl ?_
      refine y_last C lay_11_48.2 rfl dX11_layHopes_60 61 rfl rfl (fun _ => ?_)
      refine z_iconst C dX11_layHopes_61 62 rfl ?_
      refine z_istore_n (lv' := [(3, vi 0), (0, vr G 143), (1, vi x1), (2, vi x2)]) C 3 rfl (by decide) dX11_layHopes_62 63 rfl rfl ?_
      refine z_lv (lv' := [(0, vr G 143), (1, vi x1), (2, vi x2), (3, vi 0)]) [1, 2, 3, 0] rfl ?_
      exact pX11_layHopes_L63 C R hR F x1 (gX11_layHopes_L36 F x1 n) ih F x2 0 (up σ 172 (w32 x2) ((σ 172 (w32 (x2 - 1))) * (w32 r1)))
set_option maxRecDepth 100000 in
set_option maxHeartbeats 4000000 in
theorem pX11_layHopes_L13 {X : MX} {G : GG} (C : CX X G 12 cX11_layHopes RX11) (R : RT X none) (hR : mR X = rmX11_layHopes) (F : Nat) (x1 : Int)  : ∀ (n : Nat) (x2 : Int) (σ : St), ZZ X G 12 (QM X G vzV wzV (0, 0)) (0, 0) (gX11_layHopes_L13 F x1 n x2 σ) (w0 σ) 13 [(0, vr G 143), (1, vi x1), (2, vi x2)] [] := by
  intro n
  induction n with
  | zero =>
    intro _ _
    exact z_none
  | succ n ih =>
    intro x2 σ
    show ZZ X G 12 (QM X G vzV wzV (0, 0)) (0, 0) (if w32 x2 ≥ w32 (σ 143 40) then gX11_layHopes_L36 F x1 F 1 σ else gd (0 ≤ w32 x2 ∧ w32 x2 < 3584) (gX11_layHopes_L13 F x1 n (x2 + 1) (up σ 171 (w32 x2) 0))) (w0 σ) 13 [(0, vr G 143), (1, vi x1), (2, vi x2)] []
    refine z_iload_n C 2 rfl 2 rfl dX11_layHopes_13 14 rfl ?_
    refine z_aload_n C 0 rfl 0 rfl dX11_layHopes_14 15 rfl ?_
    refine y_getI C fX11_288 one_11 dX11_layHopes_15 18 rfl ?_
    refine z_icmp_ge C dX11_layHopes_18 34 (by decide) 21 rfl rfl rfl (fun _ => ?_) (fun _ => ?_)
    · refine z_iconst C dX11_layHopes_34 35 rfl ?_
      refine z_istore_n (lv' := [(2, vi 1), (0, vr G 143), (1, vi x1)]) C 2 rfl (by decide) dX11_layHopes_35 36 rfl rfl ?_
      refine z_lv (lv' := [(0, vr G 143), (1, vi x1), (2, vi 1)]) [1, 2, 0] rfl ?_
      exact pX11_layHopes_L36 C R hR F x1 F 1 σ
    · refine z_aload_n C 0 rfl 0 rfl dX11_layHopes_21 22 rfl ?_
      refine y_getR C fX11_91 one_11 lay_11_47 dX11_layHopes_22 25 rfl ?_
      refine z_iload_n C 2 rfl 2 rfl dX11_layHopes_25 26 rfl ?_
      refine z_lconst (v := 0) C (by decide) dX11_layHopes_26 27 rfl ?_
      refine y_last C lay_11_47.2 rfl dX11_layHopes_27 28 rfl rfl (fun _ => ?_)
      refine z_iinc (lv' := [(2, vi (x2 + 1)), (0, vr G 143), (1, vi x1)]) C (by decide) 2 rfl dX11_layHopes_28 31 rfl rfl ?_
      refine z_goto C dX11_layHopes_31 13 (by decide) ?_
      refine z_lv (lv' := [(0, vr G 143), (1, vi x1), (2, vi (x2 + 1))]) [1, 2, 0] rfl ?_
      exact ih (x2 + 1) (up σ 171 (w32 x2) 0)
set_option maxRecDepth 100000 in
set_option maxHeartbeats 4000000 in
theorem tX11_layHopes (l : Launch) (G : GG) (F : Nat) (σ : St) (x1 : Int) : Ctr l G yX11_layHopes cX11_layHopes 12 none rmX11_layHopes [vr G 143, vi x1] (w0 σ) vzV wzV (gX11_layHopes F σ x1) := by
  refine ctr_of (by decide) (Nat.le_of_ble_eq_true rfl) mwX11_layHopes.1 (fun X hl hR C R hnm => ?_)
  subst hl
  refine z_lv (lv' := [(0, vr G 143), (1, vi x1)]) [0, 1] rfl ?_
  show ZZ X G 12 (QM X G vzV wzV (0, 0)) (0, 0) ((gX11_capsAsRooms F σ).bind fun r1 => gd (0 ≤ 0 ∧ 0 < 7) (gX11_layHopes_L13 F x1 F 0 (up r1 172 0 1))) (w0 σ) 0 [(0, vr G 143), (1, vi x1)] []
  refine z_aload_n C 0 rfl 0 rfl dX11_layHopes_0 1 rfl ?_
  refine y_callVv C hR (tX11_capsAsRooms (mL X) G F σ) ⟨mwX11_capsAsRooms, mvX11_capsAsRooms, lkX11_305⟩ one_11 rfl rfl (Nat.le_of_ble_eq_true rfl) (by unfold rmOK; decide) dX11_layHopes_1 4 rfl (fun r1 _ => ?_)
  refine z_aload_n C 0 rfl 0 rfl dX11_layHopes_4 5 rfl ?_
  refine y_getR C fX11_95 one_11 lay_11_48 dX11_layHopes_5 8 rfl ?_
  refine z_iconst C dX11_layHopes_8 9 rfl ?_
  refine z_lconst (v := 1) C (by decide) dX11_layHopes_9 10 rfl ?_
  refine y_last C lay_11_48.2 rfl dX11_layHopes_10 11 rfl (w32_id (a := 0) (by decide)) (fun _ => ?_)
  refine z_iconst C dX11_layHopes_11 12 rfl ?_
  refine z_istore_n (lv' := [(2, vi 0), (0, vr G 143), (1, vi x1)]) C 2 rfl (by decide) dX11_layHopes_12 13 rfl rfl ?_
  refine z_lv (lv' := [(0, vr G 143), (1, vi x1), (2, vi 0)]) [1, 2, 0] rfl ?_
  exact pX11_layHopes_L13 C R hR F x1 F 0 (up r1 172 0 1)
-- hope
def gX11_hope (F : Nat) (σ : St) (x1 : Int) (x2 : Int) : Option (Int × St) := (gX11_in σ (w32 x1) 0 6).bind fun r1 => if w32 r1 = 0 then some ((-1), σ) else (gX11_in σ (w32 x2) 0 1).bind fun r2 => if w32 r2 ≠ 0 then (gX11_chanceSum F σ).bind fun r3 => if w32 r3 ≠ 0 then (gX11_layHopes F σ x1).bind fun r4 => (gX11_whole r4).bind fun r5 => gd (0 ≤ w32 ((512 * x1) + r5) ∧ w32 ((512 * x1) + r5) < 3584) (gd (0 ≤ w32 x1 ∧ w32 x1 < 7) ((gX11_lowest F r4 (r4 171 (w32 ((512 * x1) + r5))) (r4 172 (w32 x1)) x2).bind fun r6 => some (r6, r4))) else some ((-2), σ) else some ((-1), σ)
def rmX11_hope : Room := { frames := 3, cells := 0, slots := 0, locals := 78 }
set_option maxRecDepth 100000 in
set_option maxHeartbeats 4000000 in
theorem tX11_hope (l : Launch) (G : GG) (F : Nat) (σ : St) (x1 : Int) (x2 : Int) : Ctr l G yX11_hope cX11_hope 3 (some .long) rmX11_hope [vr G 143, vi x1, vi x2] (w0 σ) vzJw wzW (gX11_hope F σ x1 x2) := by
  refine ctr_of (by decide) (Nat.le_of_ble_eq_true rfl) mwX11_hope.1 (fun X hl hR C R hnm => ?_)
  subst hl
  refine z_lv (lv' := [(0, vr G 143), (1, vi x1), (2, vi x2)]) [0, 1, 2] rfl ?_
  show ZZ X G 3 (QM X G vzJw wzW (0, 0)) (0, 0) ((gX11_in σ (w32 x1) 0 6).bind fun r1 => if w32 r1 = 0 then some ((-1), σ) else (gX11_in σ (w32 x2) 0 1).bind fun r2 => if w32 r2 ≠ 0 then (gX11_chanceSum F σ).bind fun r3 => if w32 r3 ≠ 0 then (gX11_layHopes F σ x1).bind fun r4 => (gX11_whole r4).bind fun r5 => gd (0 ≤ w32 ((512 * x1) + r5) ∧ w32 ((512 * x1) + r5) < 3584) (gd (0 ≤ w32 x1 ∧ w32 x1 < 7) ((gX11_lowest F r4 (r4 171 (w32 ((512 * x1) + r5))) (r4 172 (w32 x1)) x2).bind fun r6 => some (r6, r4))) else some ((-2), σ) else some ((-1), σ)) (w0 σ) 0 [(0, vr G 143), (1, vi x1), (2, vi x2)] []
  refine z_iload_n C 1 rfl 1 rfl dX11_hope_0 1 rfl ?_
  refine z_i2l C dX11_hope_1 2 rfl ?_
  refine z_lconst (v := 0) C (by decide) dX11_hope_2 3 rfl ?_
  refine z_ldc2 (v := 6) C clX11_155 (by decide) dX11_hope_3 6 rfl ?_
  refine y_callSI C hR (tX11_in (mL X) G σ (w32 x1) 0 6) ⟨mwX11_in, msX11_in, lkX11_126⟩ rfl rfl (Nat.le_of_ble_eq_true rfl) (by unfold rmOK; decide) dX11_hope_6 9 rfl (fun r1 _ => ?_)
  refine z_if_eq C dX11_hope_9 22 (by decide) 12 rfl rfl (fun _ => ?_) (fun _ => ?_)
  · refine z_ldc2 (v := (-1)) C clX11_340 (by decide) dX11_hope_22 25 rfl ?_
    exact z_lret C R rfl rfl dX11_hope_25
  · refine z_iload_n C 2 rfl 2 rfl dX11_hope_12 13 rfl ?_
    refine z_i2l C dX11_hope_13 14 rfl ?_
    refine z_lconst (v := 0) C (by decide) dX11_hope_14 15 rfl ?_
    refine z_lconst (v := 1) C (by decide) dX11_hope_15 16 rfl ?_
    refine y_callSI C hR (tX11_in (mL X) G σ (w32 x2) 0 1) ⟨mwX11_in, msX11_in, lkX11_126⟩ rfl rfl (Nat.le_of_ble_eq_true rfl) (by unfold rmOK; decide) dX11_hope_16 19 rfl (fun r2 _ => ?_)
    refine z_if_ne C dX11_hope_19 26 (by decide) 22 rfl rfl (fun _ => ?_) (fun _ => ?_)
    · refine z_aload_n C 0 rfl 0 rfl dX11_hope_26 27 rfl ?_
      refine y_callVI C hR (tX11_chanceSum (mL X) G F σ) ⟨mwX11_chanceSum, mvX11_chanceSum, lkX11_351⟩ one_11 rfl rfl (Nat.le_of_ble_eq_true rfl) (by unfold rmOK; decide) dX11_hope_27 30 rfl (fun r3 _ => ?_)
      refine z_if_ne C dX11_hope_30 37 (by decide) 33 rfl rfl (fun _ => ?_) (fun _ => ?_)
      · refine z_aload_n C 0 rfl 0 rfl dX11_hope_37 38 rfl ?_
        refine z_iload_n C 1 rfl 1 rfl dX11_hope_38 39 rfl ?_
        refine y_callVv C hR (tX11_layHopes (mL X) G F σ x1) ⟨mwX11_layHopes, mvX11_layHopes, lkX11_358⟩ one_11 rfl rfl (Nat.le_of_ble_eq_true rfl) (by unfold rmOK; decide) dX11_hope_39 42 rfl (fun r4 _ => ?_)
        refine z_aload_n C 0 rfl 0 rfl dX11_hope_42 43 rfl ?_
        refine y_getR C fX11_91 one_11 lay_11_47 dX11_hope_43 46 rfl ?_
        refine z_sipush C (by decide) dX11_hope_46 49 rfl ?_
        refine z_iload_n C 1 rfl 1 rfl dX11_hope_49 50 rfl ?_
        refine z_imul C dX11_hope_50 51 rfl ?_
        refine z_aload_n C 0 rfl 0 rfl dX11_hope_51 52 rfl ?_
        refine y_callVI C hR (tX11_whole (mL X) G r4) ⟨mwX11_whole, mvX11_whole, lkX11_302⟩ one_11 rfl rfl (Nat.le_of_ble_eq_true rfl) (by unfold rmOK; decide) dX11_hope_52 55 rfl (fun r5 _ => ?_)
        refine z_iadd C dX11_hope_55 56 rfl ?_
        refine y_lald C lay_11_47.2 rfl dX11_hope_56 57 rfl rfl (fun _ => ?_)
        refine z_aload_n C 0 rfl 0 rfl dX11_hope_57 58 rfl ?_
        refine y_getR C fX11_95 one_11 lay_11_48 dX11_hope_58 61 rfl ?_
        refine z_iload_n C 1 rfl 1 rfl dX11_hope_61 62 rfl ?_
        refine y_lald C lay_11_48.2 rfl dX11_hope_62 63 rfl rfl (fun _ => ?_)
        refine z_iload_n C 2 rfl 2 rfl dX11_hope_63 64 rfl ?_
        refine y_callSJ C hR (tX11_lowest (mL X) G F r4 (r4 171 (w32 ((512 * x1) + r5))) (r4 172 (w32 x1)) x2) ⟨mwX11_lowest, msX11_lowest, lkX11_347⟩ rfl rfl (Nat.le_of_ble_eq_true rfl) (by unfold rmOK; decide) dX11_hope_64 67 rfl (fun r6 _ => ?_)
        exact z_lret C R rfl rfl dX11_hope_67
      · refine z_ldc2 (v := (-2)) C clX11_342 (by decide) dX11_hope_33 36 rfl ?_
        exact z_lret C R rfl rfl dX11_hope_36
    · refine z_ldc2 (v := (-1)) C clX11_340 (by decide) dX11_hope_22 25 rfl ?_
      exact z_lret C R rfl rfl dX11_hope_25
-- hopeFor
def gX11_hopeFor_L118 (F : Nat) (x1 : Int) (x2 : Int) (c64 : Int → Int → Int → St → Option (Int × St)) (x3 : Int) (x4 : Int) (x6 : Int) (σ : St) : Option (Int × St) := c64 x3 x4 (x6 + 1) σ
def gX11_hopeFor_L111 (F : Nat) (x1 : Int) (x2 : Int) (c64 : Int → Int → Int → St → Option (Int × St)) (x6 : Int) (x7 : Int) (σ : St) : Option (Int × St) := gX11_hopeFor_L118 F x1 x2 c64 x6 x7 x6 σ
def gX11_hopeFor_L64 (F : Nat) (x1 : Int) (x2 : Int) : Nat → Int → Int → Int → St → Option (Int × St)
  | 0, _, _, _, _ => none
  | n + 1, x3, x4, x6, σ => if w32 x6 ≥ w32 (σ 143 0) then some (x3, σ) else (gX11_whole σ).bind fun r1 => (gX11_pairing σ x1 x6 r1 (x2 - 1)).bind fun r2 => if w64 r2 > w64 x4 then gX11_hopeFor_L111 F x1 x2 (gX11_hopeFor_L64 F x1 x2 n) x6 r2 σ else if w64 r2 ≠ w64 x4 then gX11_hopeFor_L118 F x1 x2 (gX11_hopeFor_L64 F x1 x2 n) x3 x4 x6 σ else if w32 x3 ≠ (-4) then gX11_hopeFor_L118 F x1 x2 (gX11_hopeFor_L64 F x1 x2 n) x3 x4 x6 σ else gX11_hopeFor_L111 F x1 x2 (gX11_hopeFor_L64 F x1 x2 n) x6 r2 σ
def gX11_hopeFor (F : Nat) (σ : St) (x1 : Int) (x2 : Int) : Option (Int × St) := (gX11_isGuest σ x1).bind fun r1 => if w32 r1 = 0 then some ((-1), σ) else (gX11_in σ (w32 x2) 1 6).bind fun r2 => if w32 r2 ≠ 0 then (gX11_chanceSum F σ).bind fun r3 => if w32 r3 ≠ 0 then (gX11_layHopes F σ (x2 - 1)).bind fun r4 => (gX11_whole r4).bind fun r5 => gd (0 ≤ w32 ((512 * (x2 - 1)) + r5) ∧ w32 ((512 * (x2 - 1)) + r5) < 3584) (gX11_hopeFor_L64 F x1 x2 F ((-4)) (r4 171 (w32 ((512 * (x2 - 1)) + r5))) 0 r4) else some ((-2), σ) else some ((-1), σ)
def rmX11_hopeFor : Room := { frames := 3, cells := 0, slots := 0, locals := 78 }
set_option maxRecDepth 100000 in
set_option maxHeartbeats 4000000 in
theorem pX11_hopeFor_L118 {X : MX} {G : GG} (C : CX X G 9 cX11_hopeFor RX11) (R : RT X (some .int)) (hR : mR X = rmX11_hopeFor) (F : Nat) (x1 : Int) (x2 : Int) (c64 : Int → Int → Int → St → Option (Int × St)) (hc64 : ∀ (x3 : Int) (x4 : Int) (x6 : Int) (σ : St), ZZ X G 9 (QM X G vzIw wzW (0, 0)) (0, 0) (c64 x3 x4 x6 σ) (w0 σ) 64 [(0, vr G 143), (1, vi x1), (2, vi x2), (3, vi x3), (4, vl x4), (6, vi x6)] []) : ∀ (x3 : Int) (x4 : Int) (x6 : Int) (σ : St), ZZ X G 9 (QM X G vzIw wzW (0, 0)) (0, 0) (gX11_hopeFor_L118 F x1 x2 c64 x3 x4 x6 σ) (w0 σ) 118 [(0, vr G 143), (1, vi x1), (2, vi x2), (3, vi x3), (4, vl x4), (6, vi x6)] [] := by
  intro x3 x4 x6 σ
  show ZZ X G 9 (QM X G vzIw wzW (0, 0)) (0, 0) (c64 x3 x4 (x6 + 1) σ) (w0 σ) 118 [(0, vr G 143), (1, vi x1), (2, vi x2), (3, vi x3), (4, vl x4), (6, vi x6)] []
  refine z_iinc (lv' := [(6, vi (x6 + 1)), (0, vr G 143), (1, vi x1), (2, vi x2), (3, vi x3), (4, vl x4)]) C (by decide) 5 rfl dX11_hopeFor_118 121 rfl rfl ?_
  refine z_goto C dX11_hopeFor_121 64 (by decide) ?_
  refine z_lv (lv' := [(0, vr G 143), (1, vi x1), (2, vi x2), (3, vi x3), (4, vl x4), (6, vi (x6 + 1))]) [1, 2, 3, 4, 5, 0] rfl ?_
  exact hc64 x3 x4 (x6 + 1) σ
set_option maxRecDepth 100000 in
set_option maxHeartbeats 4000000 in
theorem pX11_hopeFor_L111 {X : MX} {G : GG} (C : CX X G 9 cX11_hopeFor RX11) (R : RT X (some .int)) (hR : mR X = rmX11_hopeFor) (F : Nat) (x1 : Int) (x2 : Int) (c64 : Int → Int → Int → St → Option (Int × St)) (hc64 : ∀ (x3 : Int) (x4 : Int) (x6 : Int) (σ : St), ZZ X G 9 (QM X G vzIw wzW (0, 0)) (0, 0) (c64 x3 x4 x6 σ) (w0 σ) 64 [(0, vr G 143), (1, vi x1), (2, vi x2), (3, vi x3), (4, vl x4), (6, vi x6)] []) : ∀ (x6 : Int) (x7 : Int) (σ : St), ZZ X G 9 (QM X G vzIw wzW (0, 0)) (0, 0) (gX11_hopeFor_L111 F x1 x2 c64 x6 x7 σ) (w0 σ) 111 [(0, vr G 143), (1, vi x1), (2, vi x2), (6, vi x6), (7, vl x7)] [] := by
  intro x6 x7 σ
  show ZZ X G 9 (QM X G vzIw wzW (0, 0)) (0, 0) (gX11_hopeFor_L118 F x1 x2 c64 x6 x7 x6 σ) (w0 σ) 111 [(0, vr G 143), (1, vi x1), (2, vi x2), (6, vi x6), (7, vl x7)] []
  refine z_iload C 3 rfl dX11_hopeFor_111 113 rfl ?_
  refine z_istore_n (lv' := [(3, vi x6), (0, vr G 143), (1, vi x1), (2, vi x2), (6, vi x6), (7, vl x7)]) C 3 rfl (by decide) dX11_hopeFor_113 114 rfl rfl ?_
  refine z_lload C 5 rfl dX11_hopeFor_114 116 rfl ?_
  refine z_lstore (lv' := [(4, vl x7), (3, vi x6), (0, vr G 143), (1, vi x1), (2, vi x2), (6, vi x6), (7, vl x7)]) C (by decide) dX11_hopeFor_116 118 rfl rfl ?_
  refine z_lv (lv' := [(0, vr G 143), (1, vi x1), (2, vi x2), (3, vi x6), (4, vl x7), (6, vi x6)]) [2, 3, 4, 1, 0, 5] rfl ?_
  exact pX11_hopeFor_L118 C R hR F x1 x2 c64 hc64 x6 x7 x6 σ
set_option maxRecDepth 100000 in
set_option maxHeartbeats 4000000 in
theorem pX11_hopeFor_L64 {X : MX} {G : GG} (C : CX X G 9 cX11_hopeFor RX11) (R : RT X (some .int)) (hR : mR X = rmX11_hopeFor) (F : Nat) (x1 : Int) (x2 : Int)  : ∀ (n : Nat) (x3 : Int) (x4 : Int) (x6 : Int) (σ : St), ZZ X G 9 (QM X G vzIw wzW (0, 0)) (0, 0) (gX11_hopeFor_L64 F x1 x2 n x3 x4 x6 σ) (w0 σ) 64 [(0, vr G 143), (1, vi x1), (2, vi x2), (3, vi x3), (4, vl x4), (6, vi x6)] [] := by
  intro n
  induction n with
  | zero =>
    intro _ _ _ _
    exact z_none
  | succ n ih =>
    intro x3 x4 x6 σ
    show ZZ X G 9 (QM X G vzIw wzW (0, 0)) (0, 0) (if w32 x6 ≥ w32 (σ 143 0) then some (x3, σ) else (gX11_whole σ).bind fun r1 => (gX11_pairing σ x1 x6 r1 (x2 - 1)).bind fun r2 => if w64 r2 > w64 x4 then gX11_hopeFor_L111 F x1 x2 (gX11_hopeFor_L64 F x1 x2 n) x6 r2 σ else if w64 r2 ≠ w64 x4 then gX11_hopeFor_L118 F x1 x2 (gX11_hopeFor_L64 F x1 x2 n) x3 x4 x6 σ else if w32 x3 ≠ (-4) then gX11_hopeFor_L118 F x1 x2 (gX11_hopeFor_L64 F x1 x2 n) x3 x4 x6 σ else gX11_hopeFor_L111 F x1 x2 (gX11_hopeFor_L64 F x1 x2 n) x6 r2 σ) (w0 σ) 64 [(0, vr G 143), (1, vi x1), (2, vi x2), (3, vi x3), (4, vl x4), (6, vi x6)] []
    refine z_iload C 5 rfl dX11_hopeFor_64 66 rfl ?_
    refine z_aload_n C 0 rfl 0 rfl dX11_hopeFor_66 67 rfl ?_
    refine y_getI C fX11_122 one_11 dX11_hopeFor_67 70 rfl ?_
    refine z_icmp_ge C dX11_hopeFor_70 124 (by decide) 73 rfl rfl rfl (fun _ => ?_) (fun _ => ?_)
    · refine z_iload_n C 3 rfl 3 rfl dX11_hopeFor_124 125 rfl ?_
      exact z_iret C R rfl rfl dX11_hopeFor_125
    · refine z_aload_n C 0 rfl 0 rfl dX11_hopeFor_73 74 rfl ?_
      refine z_iload_n C 1 rfl 1 rfl dX11_hopeFor_74 75 rfl ?_
      refine z_iload C 5 rfl dX11_hopeFor_75 77 rfl ?_
      refine z_aload_n C 0 rfl 0 rfl dX11_hopeFor_77 78 rfl ?_
      refine y_callVI C hR (tX11_whole (mL X) G σ) ⟨mwX11_whole, mvX11_whole, lkX11_302⟩ one_11 rfl rfl (Nat.le_of_ble_eq_true rfl) (by unfold rmOK; decide) dX11_hopeFor_78 81 rfl (fun r1 _ => ?_)
      refine z_iload_n C 2 rfl 2 rfl dX11_hopeFor_81 82 rfl ?_
      refine z_iconst C dX11_hopeFor_82 83 rfl ?_
      refine z_isub C dX11_hopeFor_83 84 rfl ?_
      refine y_callVJ C hR (tX11_pairing (mL X) G σ x1 x6 r1 (x2 - 1)) ⟨mwX11_pairing, mvX11_pairing, lkX11_354⟩ one_11 rfl rfl (Nat.le_of_ble_eq_true rfl) (by unfold rmOK; decide) dX11_hopeFor_84 87 rfl (fun r2 _ => ?_)
      refine z_lstore (lv' := [(7, vl r2), (0, vr G 143), (1, vi x1), (2, vi x2), (3, vi x3), (4, vl x4), (6, vi x6)]) C (by decide) dX11_hopeFor_87 89 rfl rfl ?_
      refine z_lload C 0 rfl dX11_hopeFor_89 91 rfl ?_
      refine z_lload C 5 rfl dX11_hopeFor_91 93 rfl ?_
      refine z_lif_gt C dX11_hopeFor_93 94 rfl dX11_hopeFor_94 111 (by decide) 97 rfl rfl rfl (fun _ => ?_) (fun _ => ?_)
      · refine z_lv (lv' := [(0, vr G 143), (1, vi x1), (2, vi x2), (6, vi x6), (7, vl r2)]) [1, 2, 3, 6, 0] rfl ?_
        exact pX11_hopeFor_L111 C R hR F x1 x2 (gX11_hopeFor_L64 F x1 x2 n) ih x6 r2 σ
      · refine z_lload C 0 rfl dX11_hopeFor_97 99 rfl ?_
        refine z_lload C 5 rfl dX11_hopeFor_99 101 rfl ?_
        refine z_lif_ne C dX11_hopeFor_101 102 rfl dX11_hopeFor_102 118 (by decide) 105 rfl rfl rfl (fun _ => ?_) (fun _ => ?_)
        · refine z_lv (lv' := [(0, vr G 143), (1, vi x1), (2, vi x2), (3, vi x3), (4, vl x4), (6, vi x6)]) [1, 2, 3, 4, 5, 6] rfl ?_
          exact pX11_hopeFor_L118 C R hR F x1 x2 (gX11_hopeFor_L64 F x1 x2 n) ih x3 x4 x6 σ
        · refine z_iload_n C 3 rfl 4 rfl dX11_hopeFor_105 106 rfl ?_
          refine z_bipush C (by decide) dX11_hopeFor_106 108 rfl ?_
          refine z_icmp_ne C dX11_hopeFor_108 118 (by decide) 111 rfl rfl (w32_id (a := (-4)) (by decide)) (fun _ => ?_) (fun _ => ?_)
          · refine z_lv (lv' := [(0, vr G 143), (1, vi x1), (2, vi x2), (3, vi x3), (4, vl x4), (6, vi x6)]) [1, 2, 3, 4, 5, 6] rfl ?_
            exact pX11_hopeFor_L118 C R hR F x1 x2 (gX11_hopeFor_L64 F x1 x2 n) ih x3 x4 x6 σ
          · refine z_lv (lv' := [(0, vr G 143), (1, vi x1), (2, vi x2), (6, vi x6), (7, vl r2)]) [1, 2, 3, 6, 0] rfl ?_
            exact pX11_hopeFor_L111 C R hR F x1 x2 (gX11_hopeFor_L64 F x1 x2 n) ih x6 r2 σ
set_option maxRecDepth 100000 in
set_option maxHeartbeats 4000000 in
theorem tX11_hopeFor (l : Launch) (G : GG) (F : Nat) (σ : St) (x1 : Int) (x2 : Int) : Ctr l G yX11_hopeFor cX11_hopeFor 9 (some .int) rmX11_hopeFor [vr G 143, vi x1, vi x2] (w0 σ) vzIw wzW (gX11_hopeFor F σ x1 x2) := by
  refine ctr_of (by decide) (Nat.le_of_ble_eq_true rfl) mwX11_hopeFor.1 (fun X hl hR C R hnm => ?_)
  subst hl
  refine z_lv (lv' := [(0, vr G 143), (1, vi x1), (2, vi x2)]) [0, 1, 2] rfl ?_
  show ZZ X G 9 (QM X G vzIw wzW (0, 0)) (0, 0) ((gX11_isGuest σ x1).bind fun r1 => if w32 r1 = 0 then some ((-1), σ) else (gX11_in σ (w32 x2) 1 6).bind fun r2 => if w32 r2 ≠ 0 then (gX11_chanceSum F σ).bind fun r3 => if w32 r3 ≠ 0 then (gX11_layHopes F σ (x2 - 1)).bind fun r4 => (gX11_whole r4).bind fun r5 => gd (0 ≤ w32 ((512 * (x2 - 1)) + r5) ∧ w32 ((512 * (x2 - 1)) + r5) < 3584) (gX11_hopeFor_L64 F x1 x2 F ((-4)) (r4 171 (w32 ((512 * (x2 - 1)) + r5))) 0 r4) else some ((-2), σ) else some ((-1), σ)) (w0 σ) 0 [(0, vr G 143), (1, vi x1), (2, vi x2)] []
  refine z_aload_n C 0 rfl 0 rfl dX11_hopeFor_0 1 rfl ?_
  refine z_iload_n C 1 rfl 1 rfl dX11_hopeFor_1 2 rfl ?_
  refine y_callVI C hR (tX11_isGuest (mL X) G σ x1) ⟨mwX11_isGuest, mvX11_isGuest, lkX11_146⟩ one_11 rfl rfl (Nat.le_of_ble_eq_true rfl) (by unfold rmOK; decide) dX11_hopeFor_2 5 rfl (fun r1 _ => ?_)
  refine z_if_eq C dX11_hopeFor_5 20 (by decide) 8 rfl rfl (fun _ => ?_) (fun _ => ?_)
  · refine z_iconst C dX11_hopeFor_20 21 rfl ?_
    exact z_iret C R rfl rfl dX11_hopeFor_21
  · refine z_iload_n C 2 rfl 2 rfl dX11_hopeFor_8 9 rfl ?_
    refine z_i2l C dX11_hopeFor_9 10 rfl ?_
    refine z_lconst (v := 1) C (by decide) dX11_hopeFor_10 11 rfl ?_
    refine z_ldc2 (v := 6) C clX11_155 (by decide) dX11_hopeFor_11 14 rfl ?_
    refine y_callSI C hR (tX11_in (mL X) G σ (w32 x2) 1 6) ⟨mwX11_in, msX11_in, lkX11_126⟩ rfl rfl (Nat.le_of_ble_eq_true rfl) (by unfold rmOK; decide) dX11_hopeFor_14 17 rfl (fun r2 _ => ?_)
    refine z_if_ne C dX11_hopeFor_17 22 (by decide) 20 rfl rfl (fun _ => ?_) (fun _ => ?_)
    · refine z_aload_n C 0 rfl 0 rfl dX11_hopeFor_22 23 rfl ?_
      refine y_callVI C hR (tX11_chanceSum (mL X) G F σ) ⟨mwX11_chanceSum, mvX11_chanceSum, lkX11_351⟩ one_11 rfl rfl (Nat.le_of_ble_eq_true rfl) (by unfold rmOK; decide) dX11_hopeFor_23 26 rfl (fun r3 _ => ?_)
      refine z_if_ne C dX11_hopeFor_26 32 (by decide) 29 rfl rfl (fun _ => ?_) (fun _ => ?_)
      · refine z_aload_n C 0 rfl 0 rfl dX11_hopeFor_32 33 rfl ?_
        refine z_iload_n C 2 rfl 2 rfl dX11_hopeFor_33 34 rfl ?_
        refine z_iconst C dX11_hopeFor_34 35 rfl ?_
        refine z_isub C dX11_hopeFor_35 36 rfl ?_
        refine y_callVv C hR (tX11_layHopes (mL X) G F σ (x2 - 1)) ⟨mwX11_layHopes, mvX11_layHopes, lkX11_358⟩ one_11 rfl rfl (Nat.le_of_ble_eq_true rfl) (by unfold rmOK; decide) dX11_hopeFor_36 39 rfl (fun r4 _ => ?_)
        refine z_bipush C (by decide) dX11_hopeFor_39 41 rfl ?_
        refine z_istore_n (lv' := [(3, vi ((-4))), (0, vr G 143), (1, vi x1), (2, vi x2)]) C 3 rfl (by decide) dX11_hopeFor_41 42 rfl rfl ?_
        refine z_aload_n C 0 rfl 1 rfl dX11_hopeFor_42 43 rfl ?_
        refine y_getR C fX11_91 one_11 lay_11_47 dX11_hopeFor_43 46 rfl ?_
        refine z_sipush C (by decide) dX11_hopeFor_46 49 rfl ?_
        refine z_iload_n C 2 rfl 3 rfl dX11_hopeFor_49 50 rfl ?_
        refine z_iconst C dX11_hopeFor_50 51 rfl ?_
        refine z_isub C dX11_hopeFor_51 52 rfl ?_
        refine z_imul C dX11_hopeFor_52 53 rfl ?_
        refine z_aload_n C 0 rfl 1 rfl dX11_hopeFor_53 54 rfl ?_
        refine y_callVI C hR (tX11_whole (mL X) G r4) ⟨mwX11_whole, mvX11_whole, lkX11_302⟩ one_11 rfl rfl (Nat.le_of_ble_eq_true rfl) (by unfold rmOK; decide) dX11_hopeFor_54 57 rfl (fun r5 _ => ?_)
        refine z_iadd C dX11_hopeFor_57 58 rfl ?_
        refine y_lald C lay_11_47.2 rfl dX11_hopeFor_58 59 rfl rfl (fun _ => ?_)
        refine z_lstore (lv' := [(4, vl (r4 171 (w32 ((512 * (x2 - 1)) + r5)))), (3, vi ((-4))), (0, vr G 143), (1, vi x1), (2, vi x2)]) C (by decide) dX11_hopeFor_59 61 rfl rfl ?_
        refine z_iconst C dX11_hopeFor_61 62 rfl ?_
        refine z_istore (lv' := [(6, vi 0), (4, vl (r4 171 (w32 ((512 * (x2 - 1)) + r5)))), (3, vi ((-4))), (0, vr G 143), (1, vi x1), (2, vi x2)]) C (by decide) dX11_hopeFor_62 64 rfl rfl ?_
        refine z_lv (lv' := [(0, vr G 143), (1, vi x1), (2, vi x2), (3, vi ((-4))), (4, vl (r4 171 (w32 ((512 * (x2 - 1)) + r5)))), (6, vi 0)]) [3, 4, 5, 2, 1, 0] rfl ?_
        exact pX11_hopeFor_L64 C R hR F x1 x2 F ((-4)) (r4 171 (w32 ((512 * (x2 - 1)) + r5))) 0 r4
      · refine z_bipush C (by decide) dX11_hopeFor_29 31 rfl ?_
        exact z_iret C R rfl rfl dX11_hopeFor_31
    · refine z_iconst C dX11_hopeFor_20 21 rfl ?_
      exact z_iret C R rfl rfl dX11_hopeFor_21
-- batch
def gX11_batch_L83 (F : Nat) (x1 : Int) (x2 : Int) (c52 : Int → Int → Int → St → Option (Int × St)) (x3 : Int) (x4 : Int) (x5 : Int) (s0 : Int) (σ : St) : Option (Int × St) := (gX11_layBest F σ x5 s0).bind fun r1 => gd (0 ≤ w32 ((512 * x5) + x3) ∧ w32 ((512 * x5) + x3) < 5120) ((gX11_layPairs F r1 x5 s0 x3).bind fun r2 => c52 r2.1 (x4 + (r1 169 (w32 ((512 * x5) + x3)))) (x5 + x1) r2.2)
def gX11_batch_L52 (F : Nat) (x1 : Int) (x2 : Int) : Nat → Int → Int → Int → St → Option (Int × St)
  | 0, _, _, _, _ => none
  | n + 1, x3, x4, x5, σ => if w32 x5 ≥ w32 (σ 143 4) then if w32 x2 ≠ 0 then gd (0 ≤ w32 (x2 - 10) ∧ w32 (x2 - 10) < 9) (some (σ 170 (w32 (x2 - 10)), σ)) else some (x4, σ) else if w32 (x5 + x1) ≥ w32 (σ 143 4) then gX11_batch_L83 F x1 x2 (gX11_batch_L52 F x1 x2 n) x3 x4 x5 (σ 143 4) σ else gX11_batch_L83 F x1 x2 (gX11_batch_L52 F x1 x2 n) x3 x4 x5 (x5 + x1) σ
def gX11_batch_L37 (F : Nat) (x1 : Int) (x2 : Int) (σ : St) : Option (Int × St) := (gX11_capsAsRooms F σ).bind fun r1 => (gX11_whole r1).bind fun r2 => gX11_batch_L52 F x1 x2 F r2 0 0 r1
def gX11_batch (F : Nat) (σ : St) (x1 : Int) (x2 : Int) : Option (Int × St) := (gX11_in σ (w32 x1) 1 9).bind fun r1 => if w32 r1 = 0 then some ((-1), σ) else if w32 x2 = 0 then gX11_batch_L37 F x1 x2 σ else (gX11_in σ (w32 x2) 10 (w32 (9 + (σ 143 4)))).bind fun r2 => if w32 r2 ≠ 0 then gX11_batch_L37 F x1 x2 σ else some ((-1), σ)
def rmX11_batch : Room := { frames := 2, cells := 0, slots := 0, locals := 50 }
set_option maxRecDepth 100000 in
set_option maxHeartbeats 4000000 in
theorem pX11_batch_L83 {X : MX} {G : GG} (C : CX X G 7 cX11_batch RX11) (R : RT X (some .int)) (hR : mR X = rmX11_batch) (F : Nat) (x1 : Int) (x2 : Int) (c52 : Int → Int → Int → St → Option (Int × St)) (hc52 : ∀ (x3 : Int) (x4 : Int) (x5 : Int) (σ : St), ZZ X G 7 (QM X G vzIw wzW (0, 0)) (0, 0) (c52 x3 x4 x5 σ) (w0 σ) 52 [(0, vr G 143), (1, vi x1), (2, vi x2), (3, vi x3), (4, vi x4), (5, vi x5)] []) : ∀ (x3 : Int) (x4 : Int) (x5 : Int) (s0 : Int) (σ : St), ZZ X G 7 (QM X G vzIw wzW (0, 0)) (0, 0) (gX11_batch_L83 F x1 x2 c52 x3 x4 x5 s0 σ) (w0 σ) 83 [(0, vr G 143), (1, vi x1), (2, vi x2), (3, vi x3), (4, vi x4), (5, vi x5)] [vi s0] := by
  intro x3 x4 x5 s0 σ
  show ZZ X G 7 (QM X G vzIw wzW (0, 0)) (0, 0) ((gX11_layBest F σ x5 s0).bind fun r1 => gd (0 ≤ w32 ((512 * x5) + x3) ∧ w32 ((512 * x5) + x3) < 5120) ((gX11_layPairs F r1 x5 s0 x3).bind fun r2 => c52 r2.1 (x4 + (r1 169 (w32 ((512 * x5) + x3)))) (x5 + x1) r2.2)) (w0 σ) 83 [(0, vr G 143), (1, vi x1), (2, vi x2), (3, vi x3), (4, vi x4), (5, vi x5)] [vi s0]
  refine z_istore (lv' := [(6, vi s0), (0, vr G 143), (1, vi x1), (2, vi x2), (3, vi x3), (4, vi x4), (5, vi x5)]) C (by decide) dX11_batch_83 85 rfl rfl ?_
  refine z_aload_n C 0 rfl 1 rfl dX11_batch_85 86 rfl ?_
  refine z_iload C 6 rfl dX11_batch_86 88 rfl ?_
  refine z_iload C 0 rfl dX11_batch_88 90 rfl ?_
  refine y_callVv C hR (tX11_layBest (mL X) G F σ x5 s0) ⟨mwX11_layBest, mvX11_layBest, lkX11_298⟩ one_11 rfl rfl (Nat.le_of_ble_eq_true rfl) (by unfold rmOK; decide) dX11_batch_90 93 rfl (fun r1 _ => ?_)
  refine z_iload C 5 rfl dX11_batch_93 95 rfl ?_
  refine z_aload_n C 0 rfl 1 rfl dX11_batch_95 96 rfl ?_
  refine y_getR C fX11_85 one_11 lay_11_41 dX11_batch_96 99 rfl ?_
  refine z_sipush C (by decide) dX11_batch_99 102 rfl ?_
  refine z_iload C 6 rfl dX11_batch_102 104 rfl ?_
  refine z_imul C dX11_batch_104 105 rfl ?_
  refine z_iload_n C 3 rfl 4 rfl dX11_batch_105 106 rfl ?_
  refine z_iadd C dX11_batch_106 107 rfl ?_
  refine y_iald C lay_11_41.2 rfl dX11_batch_107 108 rfl rfl (fun _ => ?_)
  refine z_iadd C dX11_batch_108 109 rfl ?_
  refine z_istore (lv' := [(4, vi (x4 + (r1 169 (w32 ((512 * x5) + x3))))), (6, vi s0), (0, vr G 143), (1, vi x1), (2, vi x2), (3, vi x3), (5, vi x5)]) C (by decide) dX11_batch_109 111 rfl rfl ?_
  refine z_aload_n C 0 rfl 2 rfl dX11_batch_111 112 rfl ?_
  refine z_iload C 6 rfl dX11_batch_112 114 rfl ?_
  refine z_iload C 1 rfl dX11_batch_114 116 rfl ?_
  refine z_iload_n C 3 rfl 5 rfl dX11_batch_116 117 rfl ?_
  refine y_callVIw C hR (tX11_layPairs (mL X) G F r1 x5 s0 x3) ⟨mwX11_layPairs, mvX11_layPairs, lkX11_311⟩ one_11 rfl rfl (Nat.le_of_ble_eq_true rfl) (by unfold rmOK; decide) dX11_batch_117 120 rfl (fun r2 _ => ?_)
  refine z_istore_n (lv' := [(3, vi r2.1), (4, vi (x4 + (r1 169 (w32 ((512 * x5) + x3))))), (6, vi s0), (0, vr G 143), (1, vi x1), (2, vi x2), (5, vi x5)]) C 3 rfl (by decide) dX11_batch_120 121 rfl rfl ?_
  refine z_iload C 6 rfl dX11_batch_121 123 rfl ?_
  refine z_iload_n C 1 rfl 4 rfl dX11_batch_123 124 rfl ?_
  refine z_iadd C dX11_batch_124 125 rfl ?_
  refine z_istore (lv' := [(5, vi (x5 + x1)), (3, vi r2.1), (4, vi (x4 + (r1 169 (w32 ((512 * x5) + x3))))), (6, vi s0), (0, vr G 143), (1, vi x1), (2, vi x2)]) C (by decide) dX11_batch_125 127 rfl rfl ?_
  refine z_goto C dX11_batch_127 52 (by decide) ?_
  refine z_lv (lv' := [(0, vr G 143), (1, vi x1), (2, vi x2), (3, vi r2.1), (4, vi (x4 + (r1 169 (w32 ((512 * x5) + x3))))), (5, vi (x5 + x1))]) [4, 5, 6, 1, 2, 0] rfl ?_
  exact hc52 r2.1 (x4 + (r1 169 (w32 ((512 * x5) + x3)))) (x5 + x1) r2.2
set_option maxRecDepth 100000 in
set_option maxHeartbeats 4000000 in
theorem pX11_batch_L52 {X : MX} {G : GG} (C : CX X G 7 cX11_batch RX11) (R : RT X (some .int)) (hR : mR X = rmX11_batch) (F : Nat) (x1 : Int) (x2 : Int)  : ∀ (n : Nat) (x3 : Int) (x4 : Int) (x5 : Int) (σ : St), ZZ X G 7 (QM X G vzIw wzW (0, 0)) (0, 0) (gX11_batch_L52 F x1 x2 n x3 x4 x5 σ) (w0 σ) 52 [(0, vr G 143), (1, vi x1), (2, vi x2), (3, vi x3), (4, vi x4), (5, vi x5)] [] := by
  intro n
  induction n with
  | zero =>
    intro _ _ _ _
    exact z_none
  | succ n ih =>
    intro x3 x4 x5 σ
    show ZZ X G 7 (QM X G vzIw wzW (0, 0)) (0, 0) (if w32 x5 ≥ w32 (σ 143 4) then if w32 x2 ≠ 0 then gd (0 ≤ w32 (x2 - 10) ∧ w32 (x2 - 10) < 9) (some (σ 170 (w32 (x2 - 10)), σ)) else some (x4, σ) else if w32 (x5 + x1) ≥ w32 (σ 143 4) then gX11_batch_L83 F x1 x2 (gX11_batch_L52 F x1 x2 n) x3 x4 x5 (σ 143 4) σ else gX11_batch_L83 F x1 x2 (gX11_batch_L52 F x1 x2 n) x3 x4 x5 (x5 + x1) σ) (w0 σ) 52 [(0, vr G 143), (1, vi x1), (2, vi x2), (3, vi x3), (4, vi x4), (5, vi x5)] []
    refine z_iload C 5 rfl dX11_batch_52 54 rfl ?_
    refine z_aload_n C 0 rfl 0 rfl dX11_batch_54 55 rfl ?_
    refine y_getI C fX11_130 one_11 dX11_batch_55 58 rfl ?_
    refine z_icmp_ge C dX11_batch_58 130 (by decide) 61 rfl rfl rfl (fun _ => ?_) (fun _ => ?_)
    · refine z_iload_n C 2 rfl 2 rfl dX11_batch_130 131 rfl ?_
      refine z_if_ne C dX11_batch_131 139 (by decide) 134 rfl rfl (fun _ => ?_) (fun _ => ?_)
      · refine z_aload_n C 0 rfl 0 rfl dX11_batch_139 140 rfl ?_
        refine y_getR C fX11_88 one_11 lay_11_42 dX11_batch_140 143 rfl ?_
        refine z_iload_n C 2 rfl 2 rfl dX11_batch_143 144 rfl ?_
        refine z_bipush C (by decide) dX11_batch_144 146 rfl ?_
        refine z_isub C dX11_batch_146 147 rfl ?_
        refine y_iald C lay_11_42.2 rfl dX11_batch_147 148 rfl rfl (fun _ => ?_)
        exact z_iret C R rfl rfl dX11_batch_148
      · refine z_iload C 4 rfl dX11_batch_134 136 rfl ?_
        refine z_goto C dX11_batch_136 148 (by decide) ?_
        exact z_iret C R rfl rfl dX11_batch_148
    · refine z_iload C 5 rfl dX11_batch_61 63 rfl ?_
      refine z_iload_n C 1 rfl 1 rfl dX11_batch_63 64 rfl ?_
      refine z_iadd C dX11_batch_64 65 rfl ?_
      refine z_aload_n C 0 rfl 0 rfl dX11_batch_65 66 rfl ?_
      refine y_getI C fX11_130 one_11 dX11_batch_66 69 rfl ?_
      refine z_icmp_ge C dX11_batch_69 79 (by decide) 72 rfl rfl rfl (fun _ => ?_) (fun _ => ?_)
      · refine z_aload_n C 0 rfl 0 rfl dX11_batch_79 80 rfl ?_
        refine y_getI C fX11_130 one_11 dX11_batch_80 83 rfl ?_
        exact pX11_batch_L83 C R hR F x1 x2 (gX11_batch_L52 F x1 x2 n) ih x3 x4 x5 (σ 143 4) σ
      · refine z_iload C 5 rfl dX11_batch_72 74 rfl ?_
        refine z_iload_n C 1 rfl 1 rfl dX11_batch_74 75 rfl ?_
        refine z_iadd C dX11_batch_75 76 rfl ?_
        refine z_goto C dX11_batch_76 83 (by decide) ?_
        exact pX11_batch_L83 C R hR F x1 x2 (gX11_batch_L52 F x1 x2 n) ih x3 x4 x5 (x5 + x1) σ
set_option maxRecDepth 100000 in
set_option maxHeartbeats 4000000 in
theorem pX11_batch_L37 {X : MX} {G : GG} (C : CX X G 7 cX11_batch RX11) (R : RT X (some .int)) (hR : mR X = rmX11_batch) (F : Nat) (x1 : Int) (x2 : Int)  : ∀ (σ : St), ZZ X G 7 (QM X G vzIw wzW (0, 0)) (0, 0) (gX11_batch_L37 F x1 x2 σ) (w0 σ) 37 [(0, vr G 143), (1, vi x1), (2, vi x2)] [] := by
  intro σ
  show ZZ X G 7 (QM X G vzIw wzW (0, 0)) (0, 0) ((gX11_capsAsRooms F σ).bind fun r1 => (gX11_whole r1).bind fun r2 => gX11_batch_L52 F x1 x2 F r2 0 0 r1) (w0 σ) 37 [(0, vr G 143), (1, vi x1), (2, vi x2)] []
  refine z_aload_n C 0 rfl 0 rfl dX11_batch_37 38 rfl ?_
  refine y_callVv C hR (tX11_capsAsRooms (mL X) G F σ) ⟨mwX11_capsAsRooms, mvX11_capsAsRooms, lkX11_305⟩ one_11 rfl rfl (Nat.le_of_ble_eq_true rfl) (by unfold rmOK; decide) dX11_batch_38 41 rfl (fun r1 _ => ?_)
  refine z_aload_n C 0 rfl 0 rfl dX11_batch_41 42 rfl ?_
  refine y_callVI C hR (tX11_whole (mL X) G r1) ⟨mwX11_whole, mvX11_whole, lkX11_302⟩ one_11 rfl rfl (Nat.le_of_ble_eq_true rfl) (by unfold rmOK; decide) dX11_batch_42 45 rfl (fun r2 _ => ?_)
  refine z_istore_n (lv' := [(3, vi r2), (0, vr G 143), (1, vi x1), (2, vi x2)]) C 3 rfl (by decide) dX11_batch_45 46 rfl rfl ?_
  refine z_iconst C dX11_batch_46 47 rfl ?_
  refine z_istore (lv' := [(4, vi 0), (3, vi r2), (0, vr G 143), (1, vi x1), (2, vi x2)]) C (by decide) dX11_batch_47 49 rfl rfl ?_
  refine z_iconst C dX11_batch_49 50 rfl ?_
  refine z_istore (lv' := [(5, vi 0), (4, vi 0), (3, vi r2), (0, vr G 143), (1, vi x1), (2, vi x2)]) C (by decide) dX11_batch_50 52 rfl rfl ?_
  refine z_lv (lv' := [(0, vr G 143), (1, vi x1), (2, vi x2), (3, vi r2), (4, vi 0), (5, vi 0)]) [3, 4, 5, 2, 1, 0] rfl ?_
  exact pX11_batch_L52 C R hR F x1 x2 F r2 0 0 r1
set_option maxRecDepth 100000 in
set_option maxHeartbeats 4000000 in
theorem tX11_batch (l : Launch) (G : GG) (F : Nat) (σ : St) (x1 : Int) (x2 : Int) : Ctr l G yX11_batch cX11_batch 7 (some .int) rmX11_batch [vr G 143, vi x1, vi x2] (w0 σ) vzIw wzW (gX11_batch F σ x1 x2) := by
  refine ctr_of (by decide) (Nat.le_of_ble_eq_true rfl) mwX11_batch.1 (fun X hl hR C R hnm => ?_)
  subst hl
  refine z_lv (lv' := [(0, vr G 143), (1, vi x1), (2, vi x2)]) [0, 1, 2] rfl ?_
  show ZZ X G 7 (QM X G vzIw wzW (0, 0)) (0, 0) ((gX11_in σ (w32 x1) 1 9).bind fun r1 => if w32 r1 = 0 then some ((-1), σ) else if w32 x2 = 0 then gX11_batch_L37 F x1 x2 σ else (gX11_in σ (w32 x2) 10 (w32 (9 + (σ 143 4)))).bind fun r2 => if w32 r2 ≠ 0 then gX11_batch_L37 F x1 x2 σ else some ((-1), σ)) (w0 σ) 0 [(0, vr G 143), (1, vi x1), (2, vi x2)] []
  refine z_iload_n C 1 rfl 1 rfl dX11_batch_0 1 rfl ?_
  refine z_i2l C dX11_batch_1 2 rfl ?_
  refine z_lconst (v := 1) C (by decide) dX11_batch_2 3 rfl ?_
  refine z_ldc2 (v := 9) C clX11_153 (by decide) dX11_batch_3 6 rfl ?_
  refine y_callSI C hR (tX11_in (mL X) G σ (w32 x1) 1 9) ⟨mwX11_in, msX11_in, lkX11_126⟩ rfl rfl (Nat.le_of_ble_eq_true rfl) (by unfold rmOK; decide) dX11_batch_6 9 rfl (fun r1 _ => ?_)
  refine z_if_eq C dX11_batch_9 35 (by decide) 12 rfl rfl (fun _ => ?_) (fun _ => ?_)
  · refine z_iconst C dX11_batch_35 36 rfl ?_
    exact z_iret C R rfl rfl dX11_batch_36
  · refine z_iload_n C 2 rfl 2 rfl dX11_batch_12 13 rfl ?_
    refine z_if_eq C dX11_batch_13 37 (by decide) 16 rfl rfl (fun _ => ?_) (fun _ => ?_)
    · exact pX11_batch_L37 C R hR F x1 x2 σ
    · refine z_iload_n C 2 rfl 2 rfl dX11_batch_16 17 rfl ?_
      refine z_i2l C dX11_batch_17 18 rfl ?_
      refine z_ldc2 (v := 10) C clX11_232 (by decide) dX11_batch_18 21 rfl ?_
      refine z_bipush C (by decide) dX11_batch_21 23 rfl ?_
      refine z_aload_n C 0 rfl 0 rfl dX11_batch_23 24 rfl ?_
      refine y_getI C fX11_130 one_11 dX11_batch_24 27 rfl ?_
      refine z_iadd C dX11_batch_27 28 rfl ?_
      refine z_i2l C dX11_batch_28 29 rfl ?_
      refine y_callSI C hR (tX11_in (mL X) G σ (w32 x2) 10 (w32 (9 + (σ 143 4)))) ⟨mwX11_in, msX11_in, lkX11_126⟩ rfl rfl (Nat.le_of_ble_eq_true rfl) (by unfold rmOK; decide) dX11_batch_29 32 rfl (fun r2 _ => ?_)
      refine z_if_ne C dX11_batch_32 37 (by decide) 35 rfl rfl (fun _ => ?_) (fun _ => ?_)
      · exact pX11_batch_L37 C R hR F x1 x2 σ
      · refine z_iconst C dX11_batch_35 36 rfl ?_
        exact z_iret C R rfl rfl dX11_batch_36
-- loadNet
def gX11_loadNet_L56 (F : Nat) (x1 : Int) (x2 : Int) (c48 : Int → St → Option (St)) : Nat → Int → Int → St → Option (St)
  | 0, _, _, _ => none
  | n + 1, x3, x4, σ => if w32 x4 ≥ w32 x2 then c48 (x3 + 1) σ else gd (0 ≤ w32 ((6 * x3) + x4) ∧ w32 ((6 * x3) + x4) < 54) (gX11_loadNet_L56 F x1 x2 c48 n x3 (x4 + 1) (up σ 162 (w32 ((6 * x3) + x4)) (iand (ishr x1 ((x2 * x3) + x4)) 1)))
def gX11_loadNet_L48 (F : Nat) (x1 : Int) (x2 : Int) : Nat → Int → St → Option (St)
  | 0, _, _ => none
  | n + 1, x3, σ => if w32 x3 ≥ w32 x2 then (gX11_fresh F σ).bind fun r1 => some r1 else gX11_loadNet_L56 F x1 x2 (gX11_loadNet_L48 F x1 x2 n) F x3 0 σ
def gX11_loadNet_L12 (F : Nat) (x1 : Int) (x2 : Int) : Nat → Int → St → Option (St)
  | 0, _, _ => none
  | n + 1, x3, σ => if w32 x3 ≥ w32 x2 then gX11_loadNet_L48 F x1 x2 F 0 σ else gd (0 ≤ w32 x3 ∧ w32 x3 < 6) (gd (0 ≤ w32 x3 ∧ w32 x3 < 6) (gd (0 ≤ w32 x3 ∧ w32 x3 < 6) (gX11_loadNet_L12 F x1 x2 n (x3 + 1) (up (up (up σ 159 (w32 x3) 1) 160 (w32 x3) x3) 161 (w32 x3) 999))))
def gX11_loadNet (F : Nat) (σ : St) (x1 : Int) (x2 : Int) : Option (St) := gX11_loadNet_L12 F x1 x2 F 0 (up (up σ 143 26 x2) 143 27 x2)
def rmX11_loadNet : Room := { frames := 1, cells := 0, slots := 0, locals := 21 }
set_option maxRecDepth 100000 in
set_option maxHeartbeats 4000000 in
theorem pX11_loadNet_L56 {X : MX} {G : GG} (C : CX X G 5 cX11_loadNet RX11) (R : RT X none) (hR : mR X = rmX11_loadNet) (F : Nat) (x1 : Int) (x2 : Int) (c48 : Int → St → Option (St)) (hc48 : ∀ (x3 : Int) (σ : St), ZZ X G 5 (QM X G vzV wzV (0, 0)) (0, 0) (c48 x3 σ) (w0 σ) 48 [(0, vr G 143), (1, vi x1), (2, vi x2), (3, vi x3)] []) : ∀ (n : Nat) (x3 : Int) (x4 : Int) (σ : St), ZZ X G 5 (QM X G vzV wzV (0, 0)) (0, 0) (gX11_loadNet_L56 F x1 x2 c48 n x3 x4 σ) (w0 σ) 56 [(0, vr G 143), (1, vi x1), (2, vi x2), (3, vi x3), (4, vi x4)] [] := by
  intro n
  induction n with
  | zero =>
    intro _ _ _
    exact z_none
  | succ n ih =>
    intro x3 x4 σ
    show ZZ X G 5 (QM X G vzV wzV (0, 0)) (0, 0) (if w32 x4 ≥ w32 x2 then c48 (x3 + 1) σ else gd (0 ≤ w32 ((6 * x3) + x4) ∧ w32 ((6 * x3) + x4) < 54) (gX11_loadNet_L56 F x1 x2 c48 n x3 (x4 + 1) (up σ 162 (w32 ((6 * x3) + x4)) (iand (ishr x1 ((x2 * x3) + x4)) 1)))) (w0 σ) 56 [(0, vr G 143), (1, vi x1), (2, vi x2), (3, vi x3), (4, vi x4)] []
    refine z_iload C 4 rfl dX11_loadNet_56 58 rfl ?_
    refine z_iload_n C 2 rfl 2 rfl dX11_loadNet_58 59 rfl ?_
    refine z_icmp_ge C dX11_loadNet_59 90 (by decide) 62 rfl rfl rfl (fun _ => ?_) (fun _ => ?_)
    · refine z_iinc (lv' := [(3, vi (x3 + 1)), (0, vr G 143), (1, vi x1), (2, vi x2), (4, vi x4)]) C (by decide) 3 rfl dX11_loadNet_90 93 rfl rfl ?_
      refine z_goto C dX11_loadNet_93 48 (by decide) ?_
      refine z_lv (lv' := [(0, vr G 143), (1, vi x1), (2, vi x2), (3, vi (x3 + 1))]) [1, 2, 3, 0] rfl ?_
      exact hc48 (x3 + 1) σ
    · refine z_aload_n C 0 rfl 0 rfl dX11_loadNet_62 63 rfl ?_
      refine y_getR C fX11_64 one_11 lay_11_31 dX11_loadNet_63 66 rfl ?_
      refine z_bipush C (by decide) dX11_loadNet_66 68 rfl ?_
      refine z_iload_n C 3 rfl 3 rfl dX11_loadNet_68 69 rfl ?_
      refine z_imul C dX11_loadNet_69 70 rfl ?_
      refine z_iload C 4 rfl dX11_loadNet_70 72 rfl ?_
      refine z_iadd C dX11_loadNet_72 73 rfl ?_
      refine z_iload_n C 1 rfl 1 rfl dX11_loadNet_73 74 rfl ?_
      refine z_iload_n C 2 rfl 2 rfl dX11_loadNet_74 75 rfl ?_
      refine z_iload_n C 3 rfl 3 rfl dX11_loadNet_75 76 rfl ?_
      refine z_imul C dX11_loadNet_76 77 rfl ?_
      refine z_iload C 4 rfl dX11_loadNet_77 79 rfl ?_
      refine z_iadd C dX11_loadNet_79 80 rfl ?_
      refine z_ishr C dX11_loadNet_80 81 rfl ?_
      refine z_iconst C dX11_loadNet_81 82 rfl ?_
      refine z_iand C dX11_loadNet_82 83 rfl ?_
      refine y_iast C lay_11_31.2 rfl dX11_loadNet_83 84 rfl rfl (fun _ => ?_)
      refine z_iinc (lv' := [(4, vi (x4 + 1)), (0, vr G 143), (1, vi x1), (2, vi x2), (3, vi x3)]) C (by decide) 4 rfl dX11_loadNet_84 87 rfl rfl ?_
      refine z_goto C dX11_loadNet_87 56 (by decide) ?_
      refine z_lv (lv' := [(0, vr G 143), (1, vi x1), (2, vi x2), (3, vi x3), (4, vi (x4 + 1))]) [1, 2, 3, 4, 0] rfl ?_
      exact ih x3 (x4 + 1) (up σ 162 (w32 ((6 * x3) + x4)) (iand (ishr x1 ((x2 * x3) + x4)) 1))
set_option maxRecDepth 100000 in
set_option maxHeartbeats 4000000 in
theorem pX11_loadNet_L48 {X : MX} {G : GG} (C : CX X G 5 cX11_loadNet RX11) (R : RT X none) (hR : mR X = rmX11_loadNet) (F : Nat) (x1 : Int) (x2 : Int)  : ∀ (n : Nat) (x3 : Int) (σ : St), ZZ X G 5 (QM X G vzV wzV (0, 0)) (0, 0) (gX11_loadNet_L48 F x1 x2 n x3 σ) (w0 σ) 48 [(0, vr G 143), (1, vi x1), (2, vi x2), (3, vi x3)] [] := by
  intro n
  induction n with
  | zero =>
    intro _ _
    exact z_none
  | succ n ih =>
    intro x3 σ
    show ZZ X G 5 (QM X G vzV wzV (0, 0)) (0, 0) (if w32 x3 ≥ w32 x2 then (gX11_fresh F σ).bind fun r1 => some r1 else gX11_loadNet_L56 F x1 x2 (gX11_loadNet_L48 F x1 x2 n) F x3 0 σ) (w0 σ) 48 [(0, vr G 143), (1, vi x1), (2, vi x2), (3, vi x3)] []
    refine z_iload_n C 3 rfl 3 rfl dX11_loadNet_48 49 rfl ?_
    refine z_iload_n C 2 rfl 2 rfl dX11_loadNet_49 50 rfl ?_
    refine z_icmp_ge C dX11_loadNet_50 96 (by decide) 53 rfl rfl rfl (fun _ => ?_) (fun _ => ?_)
    · refine z_aload_n C 0 rfl 0 rfl dX11_loadNet_96 97 rfl ?_
      refine y_callVv C hR (tX11_fresh (mL X) G F σ) ⟨mwX11_fresh, mvX11_fresh, lkX11_246⟩ one_11 rfl rfl (Nat.le_of_ble_eq_true rfl) (by unfold rmOK; decide) dX11_loadNet_97 100 rfl (fun r1 _ => ?_)
      exact z_vret C R rfl rfl dX11_loadNet_100
    · refine z_iconst C dX11_loadNet_53 54 rfl ?_
      refine z_istore (lv' := [(4, vi 0), (0, vr G 143), (1, vi x1), (2, vi x2), (3, vi x3)]) C (by decide) dX11_loadNet_54 56 rfl rfl ?_
      refine z_lv (lv' := [(0, vr G 143), (1, vi x1), (2, vi x2), (3, vi x3), (4, vi 0)]) [1, 2, 3, 4, 0] rfl ?_
      exact pX11_loadNet_L56 C R hR F x1 x2 (gX11_loadNet_L48 F x1 x2 n) ih F x3 0 σ
set_option maxRecDepth 100000 in
set_option maxHeartbeats 4000000 in
theorem pX11_loadNet_L12 {X : MX} {G : GG} (C : CX X G 5 cX11_loadNet RX11) (R : RT X none) (hR : mR X = rmX11_loadNet) (F : Nat) (x1 : Int) (x2 : Int)  : ∀ (n : Nat) (x3 : Int) (σ : St), ZZ X G 5 (QM X G vzV wzV (0, 0)) (0, 0) (gX11_loadNet_L12 F x1 x2 n x3 σ) (w0 σ) 12 [(0, vr G 143), (1, vi x1), (2, vi x2), (3, vi x3)] [] := by
  intro n
  induction n with
  | zero =>
    intro _ _
    exact z_none
  | succ n ih =>
    intro x3 σ
    show ZZ X G 5 (QM X G vzV wzV (0, 0)) (0, 0) (if w32 x3 ≥ w32 x2 then gX11_loadNet_L48 F x1 x2 F 0 σ else gd (0 ≤ w32 x3 ∧ w32 x3 < 6) (gd (0 ≤ w32 x3 ∧ w32 x3 < 6) (gd (0 ≤ w32 x3 ∧ w32 x3 < 6) (gX11_loadNet_L12 F x1 x2 n (x3 + 1) (up (up (up σ 159 (w32 x3) 1) 160 (w32 x3) x3) 161 (w32 x3) 999))))) (w0 σ) 12 [(0, vr G 143), (1, vi x1), (2, vi x2), (3, vi x3)] []
    refine z_iload_n C 3 rfl 3 rfl dX11_loadNet_12 13 rfl ?_
    refine z_iload_n C 2 rfl 2 rfl dX11_loadNet_13 14 rfl ?_
    refine z_icmp_ge C dX11_loadNet_14 46 (by decide) 17 rfl rfl rfl (fun _ => ?_) (fun _ => ?_)
    · refine z_iconst C dX11_loadNet_46 47 rfl ?_
      refine z_istore_n (lv' := [(3, vi 0), (0, vr G 143), (1, vi x1), (2, vi x2)]) C 3 rfl (by decide) dX11_loadNet_47 48 rfl rfl ?_
      refine z_lv (lv' := [(0, vr G 143), (1, vi x1), (2, vi x2), (3, vi 0)]) [1, 2, 3, 0] rfl ?_
      exact pX11_loadNet_L48 C R hR F x1 x2 F 0 σ
    · refine z_aload_n C 0 rfl 0 rfl dX11_loadNet_17 18 rfl ?_
      refine y_getR C fX11_55 one_11 lay_11_28 dX11_loadNet_18 21 rfl ?_
      refine z_iload_n C 3 rfl 3 rfl dX11_loadNet_21 22 rfl ?_
      refine z_iconst C dX11_loadNet_22 23 rfl ?_
      refine y_iast C lay_11_28.2 rfl dX11_loadNet_23 24 rfl rfl (fun _ => ?_)
      refine z_aload_n C 0 rfl 0 rfl dX11_loadNet_24 25 rfl ?_
      refine y_getR C fX11_58 one_11 lay_11_29 dX11_loadNet_25 28 rfl ?_
      refine z_iload_n C 3 rfl 3 rfl dX11_loadNet_28 29 rfl ?_
      refine z_iload_n C 3 rfl 3 rfl dX11_loadNet_29 30 rfl ?_
      refine y_iast C lay_11_29.2 rfl dX11_loadNet_30 31 rfl rfl (fun _ => ?_)
      refine z_aload_n C 0 rfl 0 rfl dX11_loadNet_31 32 rfl ?_
      refine y_getR C fX11_61 one_11 lay_11_30 dX11_loadNet_32 35 rfl ?_
      refine z_iload_n C 3 rfl 3 rfl dX11_loadNet_35 36 rfl ?_
      refine z_sipush C (by decide) dX11_loadNet_36 39 rfl ?_
      refine y_iast C lay_11_30.2 rfl dX11_loadNet_39 40 rfl rfl (fun _ => ?_)
      refine z_iinc (lv' := [(3, vi (x3 + 1)), (0, vr G 143), (1, vi x1), (2, vi x2)]) C (by decide) 3 rfl dX11_loadNet_40 43 rfl rfl ?_
      refine z_goto C dX11_loadNet_43 12 (by decide) ?_
      refine z_lv (lv' := [(0, vr G 143), (1, vi x1), (2, vi x2), (3, vi (x3 + 1))]) [1, 2, 3, 0] rfl ?_
      exact ih (x3 + 1) (up (up (up σ 159 (w32 x3) 1) 160 (w32 x3) x3) 161 (w32 x3) 999)
set_option maxRecDepth 100000 in
set_option maxHeartbeats 4000000 in
theorem tX11_loadNet (l : Launch) (G : GG) (F : Nat) (σ : St) (x1 : Int) (x2 : Int) : Ctr l G yX11_loadNet cX11_loadNet 5 none rmX11_loadNet [vr G 143, vi x1, vi x2] (w0 σ) vzV wzV (gX11_loadNet F σ x1 x2) := by
  refine ctr_of (by decide) (Nat.le_of_ble_eq_true rfl) mwX11_loadNet.1 (fun X hl hR C R hnm => ?_)
  subst hl
  refine z_lv (lv' := [(0, vr G 143), (1, vi x1), (2, vi x2)]) [0, 1, 2] rfl ?_
  show ZZ X G 5 (QM X G vzV wzV (0, 0)) (0, 0) (gX11_loadNet_L12 F x1 x2 F 0 (up (up σ 143 26 x2) 143 27 x2)) (w0 σ) 0 [(0, vr G 143), (1, vi x1), (2, vi x2)] []
  refine z_aload_n C 0 rfl 0 rfl dX11_loadNet_0 1 rfl ?_
  refine z_iload_n C 2 rfl 2 rfl dX11_loadNet_1 2 rfl ?_
  refine y_putI C fX11_240 one_11 ⟨rfl, rfl⟩ dX11_loadNet_2 5 rfl ?_
  refine z_aload_n C 0 rfl 0 rfl dX11_loadNet_5 6 rfl ?_
  refine z_iload_n C 2 rfl 2 rfl dX11_loadNet_6 7 rfl ?_
  refine y_putI C fX11_243 one_11 ⟨rfl, rfl⟩ dX11_loadNet_7 10 rfl ?_
  refine z_iconst C dX11_loadNet_10 11 rfl ?_
  refine z_istore_n (lv' := [(3, vi 0), (0, vr G 143), (1, vi x1), (2, vi x2)]) C 3 rfl (by decide) dX11_loadNet_11 12 rfl rfl ?_
  refine z_lv (lv' := [(0, vr G 143), (1, vi x1), (2, vi x2), (3, vi 0)]) [1, 2, 3, 0] rfl ?_
  exact pX11_loadNet_L12 C R hR F x1 x2 F 0 (up (up σ 143 26 x2) 143 27 x2)
-- mostPairs
def gX11_mostPairs_L150 (F : Nat) (σ : St) (x1 : Int) (c26 : Int → Int → Int → Option (Int)) (x2 : Int) (x4 : Int) (s0 : Int) : Option (Int) := c26 x2 s0 (x4 + 1)
def gX11_mostPairs_L149 (F : Nat) (σ : St) (x1 : Int) (c26 : Int → Int → Int → Option (Int)) (x2 : Int) (x3 : Int) (x4 : Int) : Option (Int) := gX11_mostPairs_L150 F σ x1 c26 x2 x4 x3
def gX11_mostPairs_L127 (F : Nat) (σ : St) (x1 : Int) (c26 : Int → Int → Int → Option (Int)) (c48 : Int → Int → Int → Int → Int → Int → Int → Int → Option (Int)) (x2 : Int) (x3 : Int) (x4 : Int) (x5 : Int) (x6 : Int) (x7 : Int) (x8 : Int) (x9 : Int) : Option (Int) := c48 x2 x3 x4 x5 x6 x7 x8 (x9 + 1)
def gX11_mostPairs_L113 (F : Nat) (σ : St) (x1 : Int) (c26 : Int → Int → Int → Option (Int)) (c48 : Int → Int → Int → Int → Int → Int → Int → Int → Option (Int)) (x2 : Int) (x3 : Int) (x4 : Int) (x5 : Int) (x6 : Int) (x7 : Int) (x9 : Int) (x10 : Int) (s0 : Int) : Option (Int) := gX11_mostPairs_L127 F σ x1 c26 c48 x2 x3 x4 x5 (ior x6 (ishl 1 x10)) (x7 + 1) s0 x9
def gX11_mostPairs_L112 (F : Nat) (σ : St) (x1 : Int) (c26 : Int → Int → Int → Option (Int)) (c48 : Int → Int → Int → Int → Int → Int → Int → Int → Option (Int)) (x2 : Int) (x3 : Int) (x4 : Int) (x5 : Int) (x6 : Int) (x7 : Int) (x9 : Int) (x10 : Int) : Option (Int) := gX11_mostPairs_L113 F σ x1 c26 c48 x2 x3 x4 x5 x6 x7 x9 x10 0
def gX11_mostPairs_L48 (F : Nat) (σ : St) (x1 : Int) (c26 : Int → Int → Int → Option (Int)) : Nat → Int → Int → Int → Int → Int → Int → Int → Int → Option (Int)
  | 0, _, _, _, _, _, _, _, _ => none
  | n + 1, x2, x3, x4, x5, x6, x7, x8, x9 => if w32 x9 ≥ w32 x1 then if w32 x8 = 0 then gX11_mostPairs_L149 F σ x1 c26 x2 x3 x4 else if w32 x7 ≤ w32 x3 then gX11_mostPairs_L149 F σ x1 c26 x2 x3 x4 else gX11_mostPairs_L150 F σ x1 c26 x2 x4 x7 else gd (w32 (x1 + 1) ≠ 0) (gd (w32 (x1 + 1) ≠ 0) (if irm x5 (x1 + 1) ≥ w32 x1 then gX11_mostPairs_L127 F σ x1 c26 (gX11_mostPairs_L48 F σ x1 c26 n) x2 x3 x4 (idv x5 (x1 + 1)) x6 x7 x8 x9 else if w32 x8 = 0 then gX11_mostPairs_L112 F σ x1 c26 (gX11_mostPairs_L48 F σ x1 c26 n) x2 x3 x4 (idv x5 (x1 + 1)) x6 x7 x9 (irm x5 (x1 + 1)) else if iand (ishr x6 (irm x5 (x1 + 1))) 1 ≠ 0 then gX11_mostPairs_L112 F σ x1 c26 (gX11_mostPairs_L48 F σ x1 c26 n) x2 x3 x4 (idv x5 (x1 + 1)) x6 x7 x9 (irm x5 (x1 + 1)) else gd (0 ≤ w32 ((6 * x9) + (irm x5 (x1 + 1))) ∧ w32 ((6 * x9) + (irm x5 (x1 + 1))) < 54) (if w32 (σ 162 (w32 ((6 * x9) + (irm x5 (x1 + 1))))) ≠ 1 then gX11_mostPairs_L112 F σ x1 c26 (gX11_mostPairs_L48 F σ x1 c26 n) x2 x3 x4 (idv x5 (x1 + 1)) x6 x7 x9 (irm x5 (x1 + 1)) else gX11_mostPairs_L113 F σ x1 c26 (gX11_mostPairs_L48 F σ x1 c26 n) x2 x3 x4 (idv x5 (x1 + 1)) x6 x7 x9 (irm x5 (x1 + 1)) 1)))
def gX11_mostPairs_L26 (F : Nat) (σ : St) (x1 : Int) : Nat → Int → Int → Int → Option (Int)
  | 0, _, _, _ => none
  | n + 1, x2, x3, x4 => if w32 x4 ≥ w32 x2 then some x3 else gX11_mostPairs_L48 F σ x1 (gX11_mostPairs_L26 F σ x1 n) F x2 x3 x4 x4 0 0 1 0
def gX11_mostPairs_L4 (F : Nat) (σ : St) (x1 : Int) : Nat → Int → Int → Option (Int)
  | 0, _, _ => none
  | n + 1, x2, x3 => if w32 x3 ≥ w32 x1 then gX11_mostPairs_L26 F σ x1 F x2 0 0 else gX11_mostPairs_L4 F σ x1 n (x2 * (x1 + 1)) (x3 + 1)
def gX11_mostPairs (F : Nat) (σ : St) (x1 : Int) : Option (Int) := gX11_mostPairs_L4 F σ x1 F 1 0
def rmX11_mostPairs : Room := { frames := 0, cells := 0, slots := 0, locals := 0 }
set_option maxRecDepth 100000 in
set_option maxHeartbeats 4000000 in
theorem pX11_mostPairs_L150 {X : MX} {G : GG} (C : CX X G 11 cX11_mostPairs RX11) (R : RT X (some .int)) (hR : mR X = rmX11_mostPairs) (F : Nat) (σ : St) (x1 : Int) (c26 : Int → Int → Int → Option (Int)) (hc26 : ∀ (x2 : Int) (x3 : Int) (x4 : Int), ZZ X G 11 (QM X G vzI (wzR σ) (0, 0)) (0, 0) (c26 x2 x3 x4) (w0 σ) 26 [(0, vr G 143), (1, vi x1), (2, vi x2), (3, vi x3), (4, vi x4)] []) : ∀ (x2 : Int) (x4 : Int) (s0 : Int), ZZ X G 11 (QM X G vzI (wzR σ) (0, 0)) (0, 0) (gX11_mostPairs_L150 F σ x1 c26 x2 x4 s0) (w0 σ) 150 [(0, vr G 143), (1, vi x1), (2, vi x2), (4, vi x4)] [vi s0] := by
  intro x2 x4 s0
  show ZZ X G 11 (QM X G vzI (wzR σ) (0, 0)) (0, 0) (c26 x2 s0 (x4 + 1)) (w0 σ) 150 [(0, vr G 143), (1, vi x1), (2, vi x2), (4, vi x4)] [vi s0]
  refine z_istore_n (lv' := [(3, vi s0), (0, vr G 143), (1, vi x1), (2, vi x2), (4, vi x4)]) C 3 rfl (by decide) dX11_mostPairs_150 151 rfl rfl ?_
  refine z_iinc (lv' := [(4, vi (x4 + 1)), (3, vi s0), (0, vr G 143), (1, vi x1), (2, vi x2)]) C (by decide) 4 rfl dX11_mostPairs_151 154 rfl rfl ?_
  refine z_goto C dX11_mostPairs_154 26 (by decide) ?_
  refine z_lv (lv' := [(0, vr G 143), (1, vi x1), (2, vi x2), (3, vi s0), (4, vi (x4 + 1))]) [2, 3, 4, 1, 0] rfl ?_
  exact hc26 x2 s0 (x4 + 1)
set_option maxRecDepth 100000 in
set_option maxHeartbeats 4000000 in
theorem pX11_mostPairs_L149 {X : MX} {G : GG} (C : CX X G 11 cX11_mostPairs RX11) (R : RT X (some .int)) (hR : mR X = rmX11_mostPairs) (F : Nat) (σ : St) (x1 : Int) (c26 : Int → Int → Int → Option (Int)) (hc26 : ∀ (x2 : Int) (x3 : Int) (x4 : Int), ZZ X G 11 (QM X G vzI (wzR σ) (0, 0)) (0, 0) (c26 x2 x3 x4) (w0 σ) 26 [(0, vr G 143), (1, vi x1), (2, vi x2), (3, vi x3), (4, vi x4)] []) : ∀ (x2 : Int) (x3 : Int) (x4 : Int), ZZ X G 11 (QM X G vzI (wzR σ) (0, 0)) (0, 0) (gX11_mostPairs_L149 F σ x1 c26 x2 x3 x4) (w0 σ) 149 [(0, vr G 143), (1, vi x1), (2, vi x2), (3, vi x3), (4, vi x4)] [] := by
  intro x2 x3 x4
  show ZZ X G 11 (QM X G vzI (wzR σ) (0, 0)) (0, 0) (gX11_mostPairs_L150 F σ x1 c26 x2 x4 x3) (w0 σ) 149 [(0, vr G 143), (1, vi x1), (2, vi x2), (3, vi x3), (4, vi x4)] []
  refine z_iload_n C 3 rfl 3 rfl dX11_mostPairs_149 150 rfl ?_
  refine z_lv (lv' := [(0, vr G 143), (1, vi x1), (2, vi x2), (4, vi x4)]) [0, 1, 2, 4] rfl ?_
  exact pX11_mostPairs_L150 C R hR F σ x1 c26 hc26 x2 x4 x3
set_option maxRecDepth 100000 in
set_option maxHeartbeats 4000000 in
theorem pX11_mostPairs_L127 {X : MX} {G : GG} (C : CX X G 11 cX11_mostPairs RX11) (R : RT X (some .int)) (hR : mR X = rmX11_mostPairs) (F : Nat) (σ : St) (x1 : Int) (c26 : Int → Int → Int → Option (Int)) (hc26 : ∀ (x2 : Int) (x3 : Int) (x4 : Int), ZZ X G 11 (QM X G vzI (wzR σ) (0, 0)) (0, 0) (c26 x2 x3 x4) (w0 σ) 26 [(0, vr G 143), (1, vi x1), (2, vi x2), (3, vi x3), (4, vi x4)] []) (c48 : Int → Int → Int → Int → Int → Int → Int → Int → Option (Int)) (hc48 : ∀ (x2 : Int) (x3 : Int) (x4 : Int) (x5 : Int) (x6 : Int) (x7 : Int) (x8 : Int) (x9 : Int), ZZ X G 11 (QM X G vzI (wzR σ) (0, 0)) (0, 0) (c48 x2 x3 x4 x5 x6 x7 x8 x9) (w0 σ) 48 [(0, vr G 143), (1, vi x1), (2, vi x2), (3, vi x3), (4, vi x4), (5, vi x5), (6, vi x6), (7, vi x7), (8, vi x8), (9, vi x9)] []) : ∀ (x2 : Int) (x3 : Int) (x4 : Int) (x5 : Int) (x6 : Int) (x7 : Int) (x8 : Int) (x9 : Int), ZZ X G 11 (QM X G vzI (wzR σ) (0, 0)) (0, 0) (gX11_mostPairs_L127 F σ x1 c26 c48 x2 x3 x4 x5 x6 x7 x8 x9) (w0 σ) 127 [(0, vr G 143), (1, vi x1), (2, vi x2), (3, vi x3), (4, vi x4), (5, vi x5), (6, vi x6), (7, vi x7), (8, vi x8), (9, vi x9)] [] := by
  intro x2 x3 x4 x5 x6 x7 x8 x9
  show ZZ X G 11 (QM X G vzI (wzR σ) (0, 0)) (0, 0) (c48 x2 x3 x4 x5 x6 x7 x8 (x9 + 1)) (w0 σ) 127 [(0, vr G 143), (1, vi x1), (2, vi x2), (3, vi x3), (4, vi x4), (5, vi x5), (6, vi x6), (7, vi x7), (8, vi x8), (9, vi x9)] []
  refine z_iinc (lv' := [(9, vi (x9 + 1)), (0, vr G 143), (1, vi x1), (2, vi x2), (3, vi x3), (4, vi x4), (5, vi x5), (6, vi x6), (7, vi x7), (8, vi x8)]) C (by decide) 9 rfl dX11_mostPairs_127 130 rfl rfl ?_
  refine z_goto C dX11_mostPairs_130 48 (by decide) ?_
  refine z_lv (lv' := [(0, vr G 143), (1, vi x1), (2, vi x2), (3, vi x3), (4, vi x4), (5, vi x5), (6, vi x6), (7, vi x7), (8, vi x8), (9, vi (x9 + 1))]) [1, 2, 3, 4, 5, 6, 7, 8, 9, 0] rfl ?_
  exact hc48 x2 x3 x4 x5 x6 x7 x8 (x9 + 1)
set_option maxRecDepth 100000 in
set_option maxHeartbeats 4000000 in
theorem pX11_mostPairs_L113 {X : MX} {G : GG} (C : CX X G 11 cX11_mostPairs RX11) (R : RT X (some .int)) (hR : mR X = rmX11_mostPairs) (F : Nat) (σ : St) (x1 : Int) (c26 : Int → Int → Int → Option (Int)) (hc26 : ∀ (x2 : Int) (x3 : Int) (x4 : Int), ZZ X G 11 (QM X G vzI (wzR σ) (0, 0)) (0, 0) (c26 x2 x3 x4) (w0 σ) 26 [(0, vr G 143), (1, vi x1), (2, vi x2), (3, vi x3), (4, vi x4)] []) (c48 : Int → Int → Int → Int → Int → Int → Int → Int → Option (Int)) (hc48 : ∀ (x2 : Int) (x3 : Int) (x4 : Int) (x5 : Int) (x6 : Int) (x7 : Int) (x8 : Int) (x9 : Int), ZZ X G 11 (QM X G vzI (wzR σ) (0, 0)) (0, 0) (c48 x2 x3 x4 x5 x6 x7 x8 x9) (w0 σ) 48 [(0, vr G 143), (1, vi x1), (2, vi x2), (3, vi x3), (4, vi x4), (5, vi x5), (6, vi x6), (7, vi x7), (8, vi x8), (9, vi x9)] []) : ∀ (x2 : Int) (x3 : Int) (x4 : Int) (x5 : Int) (x6 : Int) (x7 : Int) (x9 : Int) (x10 : Int) (s0 : Int), ZZ X G 11 (QM X G vzI (wzR σ) (0, 0)) (0, 0) (gX11_mostPairs_L113 F σ x1 c26 c48 x2 x3 x4 x5 x6 x7 x9 x10 s0) (w0 σ) 113 [(0, vr G 143), (1, vi x1), (2, vi x2), (3, vi x3), (4, vi x4), (5, vi x5), (6, vi x6), (7, vi x7), (9, vi x9), (10, vi x10)] [vi s0] := by
  intro x2 x3 x4 x5 x6 x7 x9 x10 s0
  show ZZ X G 11 (QM X G vzI (wzR σ) (0, 0)) (0, 0) (gX11_mostPairs_L127 F σ x1 c26 c48 x2 x3 x4 x5 (ior x6 (ishl 1 x10)) (x7 + 1) s0 x9) (w0 σ) 113 [(0, vr G 143), (1, vi x1), (2, vi x2), (3, vi x3), (4, vi x4), (5, vi x5), (6, vi x6), (7, vi x7), (9, vi x9), (10, vi x10)] [vi s0]
  refine z_istore (lv' := [(8, vi s0), (0, vr G 143), (1, vi x1), (2, vi x2), (3, vi x3), (4, vi x4), (5, vi x5), (6, vi x6), (7, vi x7), (9, vi x9), (10, vi x10)]) C (by decide) dX11_mostPairs_113 115 rfl rfl ?_
  refine z_iload C 7 rfl dX11_mostPairs_115 117 rfl ?_
  refine z_iconst C dX11_mostPairs_117 118 rfl ?_
  refine z_iload C 10 rfl dX11_mostPairs_118 120 rfl ?_
  refine z_ishl C dX11_mostPairs_120 121 rfl ?_
  refine z_ior C dX11_mostPairs_121 122 rfl ?_
  refine z_istore (lv' := [(6, vi (ior x6 (ishl 1 x10))), (8, vi s0), (0, vr G 143), (1, vi x1), (2, vi x2), (3, vi x3), (4, vi x4), (5, vi x5), (7, vi x7), (9, vi x9), (10, vi x10)]) C (by decide) dX11_mostPairs_122 124 rfl rfl ?_
  refine z_iinc (lv' := [(7, vi (x7 + 1)), (6, vi (ior x6 (ishl 1 x10))), (8, vi s0), (0, vr G 143), (1, vi x1), (2, vi x2), (3, vi x3), (4, vi x4), (5, vi x5), (9, vi x9), (10, vi x10)]) C (by decide) 8 rfl dX11_mostPairs_124 127 rfl rfl ?_
  refine z_lv (lv' := [(0, vr G 143), (1, vi x1), (2, vi x2), (3, vi x3), (4, vi x4), (5, vi x5), (6, vi (ior x6 (ishl 1 x10))), (7, vi (x7 + 1)), (8, vi s0), (9, vi x9)]) [3, 4, 5, 6, 7, 8, 1, 0, 2, 9] rfl ?_
  exact pX11_mostPairs_L127 C R hR F σ x1 c26 hc26 c48 hc48 x2 x3 x4 x5 (ior x6 (ishl 1 x10)) (x7 + 1) s0 x9
set_option maxRecDepth 100000 in
set_option maxHeartbeats 4000000 in
theorem pX11_mostPairs_L112 {X : MX} {G : GG} (C : CX X G 11 cX11_mostPairs RX11) (R : RT X (some .int)) (hR : mR X = rmX11_mostPairs) (F : Nat) (σ : St) (x1 : Int) (c26 : Int → Int → Int → Option (Int)) (hc26 : ∀ (x2 : Int) (x3 : Int) (x4 : Int), ZZ X G 11 (QM X G vzI (wzR σ) (0, 0)) (0, 0) (c26 x2 x3 x4) (w0 σ) 26 [(0, vr G 143), (1, vi x1), (2, vi x2), (3, vi x3), (4, vi x4)] []) (c48 : Int → Int → Int → Int → Int → Int → Int → Int → Option (Int)) (hc48 : ∀ (x2 : Int) (x3 : Int) (x4 : Int) (x5 : Int) (x6 : Int) (x7 : Int) (x8 : Int) (x9 : Int), ZZ X G 11 (QM X G vzI (wzR σ) (0, 0)) (0, 0) (c48 x2 x3 x4 x5 x6 x7 x8 x9) (w0 σ) 48 [(0, vr G 143), (1, vi x1), (2, vi x2), (3, vi x3), (4, vi x4), (5, vi x5), (6, vi x6), (7, vi x7), (8, vi x8), (9, vi x9)] []) : ∀ (x2 : Int) (x3 : Int) (x4 : Int) (x5 : Int) (x6 : Int) (x7 : Int) (x9 : Int) (x10 : Int), ZZ X G 11 (QM X G vzI (wzR σ) (0, 0)) (0, 0) (gX11_mostPairs_L112 F σ x1 c26 c48 x2 x3 x4 x5 x6 x7 x9 x10) (w0 σ) 112 [(0, vr G 143), (1, vi x1), (2, vi x2), (3, vi x3), (4, vi x4), (5, vi x5), (6, vi x6), (7, vi x7), (9, vi x9), (10, vi x10)] [] := by
  intro x2 x3 x4 x5 x6 x7 x9 x10
  show ZZ X G 11 (QM X G vzI (wzR σ) (0, 0)) (0, 0) (gX11_mostPairs_L113 F σ x1 c26 c48 x2 x3 x4 x5 x6 x7 x9 x10 0) (w0 σ) 112 [(0, vr G 143), (1, vi x1), (2, vi x2), (3, vi x3), (4, vi x4), (5, vi x5), (6, vi x6), (7, vi x7), (9, vi x9), (10, vi x10)] []
  refine z_iconst C dX11_mostPairs_112 113 rfl ?_
  exact pX11_mostPairs_L113 C R hR F σ x1 c26 hc26 c48 hc48 x2 x3 x4 x5 x6 x7 x9 x10 0
set_option maxRecDepth 100000 in
set_option maxHeartbeats 4000000 in
theorem pX11_mostPairs_L48 {X : MX} {G : GG} (C : CX X G 11 cX11_mostPairs RX11) (R : RT X (some .int)) (hR : mR X = rmX11_mostPairs) (F : Nat) (σ : St) (x1 : Int) (c26 : Int → Int → Int → Option (Int)) (hc26 : ∀ (x2 : Int) (x3 : Int) (x4 : Int), ZZ X G 11 (QM X G vzI (wzR σ) (0, 0)) (0, 0) (c26 x2 x3 x4) (w0 σ) 26 [(0, vr G 143), (1, vi x1), (2, vi x2), (3, vi x3), (4, vi x4)] []) : ∀ (n : Nat) (x2 : Int) (x3 : Int) (x4 : Int) (x5 : Int) (x6 : Int) (x7 : Int) (x8 : Int) (x9 : Int), ZZ X G 11 (QM X G vzI (wzR σ) (0, 0)) (0, 0) (gX11_mostPairs_L48 F σ x1 c26 n x2 x3 x4 x5 x6 x7 x8 x9) (w0 σ) 48 [(0, vr G 143), (1, vi x1), (2, vi x2), (3, vi x3), (4, vi x4), (5, vi x5), (6, vi x6), (7, vi x7), (8, vi x8), (9, vi x9)] [] := by
  intro n
  induction n with
  | zero =>
    intro _ _ _ _ _ _ _ _
    exact z_none
  | succ n ih =>
    intro x2 x3 x4 x5 x6 x7 x8 x9
    show ZZ X G 11 (QM X G vzI (wzR σ) (0, 0)) (0, 0) (if w32 x9 ≥ w32 x1 then if w32 x8 = 0 then gX11_mostPairs_L149 F σ x1 c26 x2 x3 x4 else if w32 x7 ≤ w32 x3 then gX11_mostPairs_L149 F σ x1 c26 x2 x3 x4 else gX11_mostPairs_L150 F σ x1 c26 x2 x4 x7 else gd (w32 (x1 + 1) ≠ 0) (gd (w32 (x1 + 1) ≠ 0) (if irm x5 (x1 + 1) ≥ w32 x1 then gX11_mostPairs_L127 F σ x1 c26 (gX11_mostPairs_L48 F σ x1 c26 n) x2 x3 x4 (idv x5 (x1 + 1)) x6 x7 x8 x9 else if w32 x8 = 0 then gX11_mostPairs_L112 F σ x1 c26 (gX11_mostPairs_L48 F σ x1 c26 n) x2 x3 x4 (idv x5 (x1 + 1)) x6 x7 x9 (irm x5 (x1 + 1)) else if iand (ishr x6 (irm x5 (x1 + 1))) 1 ≠ 0 then gX11_mostPairs_L112 F σ x1 c26 (gX11_mostPairs_L48 F σ x1 c26 n) x2 x3 x4 (idv x5 (x1 + 1)) x6 x7 x9 (irm x5 (x1 + 1)) else gd (0 ≤ w32 ((6 * x9) + (irm x5 (x1 + 1))) ∧ w32 ((6 * x9) + (irm x5 (x1 + 1))) < 54) (if w32 (σ 162 (w32 ((6 * x9) + (irm x5 (x1 + 1))))) ≠ 1 then gX11_mostPairs_L112 F σ x1 c26 (gX11_mostPairs_L48 F σ x1 c26 n) x2 x3 x4 (idv x5 (x1 + 1)) x6 x7 x9 (irm x5 (x1 + 1)) else gX11_mostPairs_L113 F σ x1 c26 (gX11_mostPairs_L48 F σ x1 c26 n) x2 x3 x4 (idv x5 (x1 + 1)) x6 x7 x9 (irm x5 (x1 + 1)) 1)))) (w0 σ) 48 [(0, vr G 143), (1, vi x1), (2, vi x2), (3, vi x3), (4, vi x4), (5, vi x5), (6, vi x6), (7, vi x7), (8, vi x8), (9, vi x9)] []
    refine z_iload C 9 rfl dX11_mostPairs_48 50 rfl ?_
    refine z_iload_n C 1 rfl 1 rfl dX11_mostPairs_50 51 rfl ?_
    refine z_icmp_ge C dX11_mostPairs_51 133 (by decide) 54 rfl rfl rfl (fun _ => ?_) (fun _ => ?_)
    · refine z_iload C 8 rfl dX11_mostPairs_133 135 rfl ?_
      refine z_if_eq C dX11_mostPairs_135 149 (by decide) 138 rfl rfl (fun _ => ?_) (fun _ => ?_)
      · refine z_lv (lv' := [(0, vr G 143), (1, vi x1), (2, vi x2), (3, vi x3), (4, vi x4)]) [0, 1, 2, 3, 4] rfl ?_
        exact pX11_mostPairs_L149 C R hR F σ x1 c26 hc26 x2 x3 x4
      · refine z_iload C 7 rfl dX11_mostPairs_138 140 rfl ?_
        refine z_iload_n C 3 rfl 3 rfl dX11_mostPairs_140 141 rfl ?_
        refine z_icmp_le C dX11_mostPairs_141 149 (by decide) 144 rfl rfl rfl (fun _ => ?_) (fun _ => ?_)
        · refine z_lv (lv' := [(0, vr G 143), (1, vi x1), (2, vi x2), (3, vi x3), (4, vi x4)]) [0, 1, 2, 3, 4] rfl ?_
          exact pX11_mostPairs_L149 C R hR F σ x1 c26 hc26 x2 x3 x4
        · refine z_iload C 7 rfl dX11_mostPairs_144 146 rfl ?_
          refine z_goto C dX11_mostPairs_146 150 (by decide) ?_
          refine z_lv (lv' := [(0, vr G 143), (1, vi x1), (2, vi x2), (4, vi x4)]) [0, 1, 2, 4] rfl ?_
          exact pX11_mostPairs_L150 C R hR F σ x1 c26 hc26 x2 x4 x7
    · refine z_iload C 5 rfl dX11_mostPairs_54 56 rfl ?_
      refine z_iload_n C 1 rfl 1 rfl dX11_mostPairs_56 57 rfl ?_
      refine z_iconst C dX11_mostPairs_57 58 rfl ?_
      refine z_iadd C dX11_mostPairs_58 59 rfl ?_
      refine z_irem C dX11_mostPairs_59 60 rfl ?_
      refine z_istore (lv' := [(10, vi (irm x5 (x1 + 1))), (0, vr G 143), (1, vi x1), (2, vi x2), (3, vi x3), (4, vi x4), (5, vi x5), (6, vi x6), (7, vi x7), (8, vi x8), (9, vi x9)]) C (by decide) dX11_mostPairs_60 62 rfl rfl ?_
      refine z_iload C 6 rfl dX11_mostPairs_62 64 rfl ?_
      refine z_iload_n C 1 rfl 2 rfl dX11_mostPairs_64 65 rfl ?_
      refine z_iconst C dX11_mostPairs_65 66 rfl ?_
      refine z_iadd C dX11_mostPairs_66 67 rfl ?_
      refine z_idiv C dX11_mostPairs_67 68 rfl ?_
      refine z_istore (lv' := [(5, vi (idv x5 (x1 + 1))), (10, vi (irm x5 (x1 + 1))), (0, vr G 143), (1, vi x1), (2, vi x2), (3, vi x3), (4, vi x4), (6, vi x6), (7, vi x7), (8, vi x8), (9, vi x9)]) C (by decide) dX11_mostPairs_68 70 rfl rfl ?_
      refine z_iload C 1 rfl dX11_mostPairs_70 72 rfl ?_
      refine z_iload_n C 1 rfl 3 rfl dX11_mostPairs_72 73 rfl ?_
      refine z_icmp_ge C dX11_mostPairs_73 127 (by decide) 76 rfl (w32_irm _ _) rfl (fun _ => ?_) (fun _ => ?_)
      · refine z_lv (lv' := [(0, vr G 143), (1, vi x1), (2, vi x2), (3, vi x3), (4, vi x4), (5, vi (idv x5 (x1 + 1))), (6, vi x6), (7, vi x7), (8, vi x8), (9, vi x9)]) [2, 3, 4, 5, 6, 0, 7, 8, 9, 10] rfl ?_
        exact pX11_mostPairs_L127 C R hR F σ x1 c26 hc26 (gX11_mostPairs_L48 F σ x1 c26 n) ih x2 x3 x4 (idv x5 (x1 + 1)) x6 x7 x8 x9
      · refine z_iload C 9 rfl dX11_mostPairs_76 78 rfl ?_
        refine z_if_eq C dX11_mostPairs_78 112 (by decide) 81 rfl rfl (fun _ => ?_) (fun _ => ?_)
        · refine z_lv (lv' := [(0, vr G 143), (1, vi x1), (2, vi x2), (3, vi x3), (4, vi x4), (5, vi (idv x5 (x1 + 1))), (6, vi x6), (7, vi x7), (9, vi x9), (10, vi (irm x5 (x1 + 1)))]) [2, 3, 4, 5, 6, 0, 7, 8, 10, 1] rfl ?_
          exact pX11_mostPairs_L112 C R hR F σ x1 c26 hc26 (gX11_mostPairs_L48 F σ x1 c26 n) ih x2 x3 x4 (idv x5 (x1 + 1)) x6 x7 x9 (irm x5 (x1 + 1))
        · refine z_iload C 7 rfl dX11_mostPairs_81 83 rfl ?_
          refine z_iload C 1 rfl dX11_mostPairs_83 85 rfl ?_
          refine z_ishr C dX11_mostPairs_85 86 rfl ?_
          refine z_iconst C dX11_mostPairs_86 87 rfl ?_
          refine z_iand C dX11_mostPairs_87 88 rfl ?_
          refine z_if_ne C dX11_mostPairs_88 112 (by decide) 91 rfl (w32_iand _ _) (fun _ => ?_) (fun _ => ?_)
          · refine z_lv (lv' := [(0, vr G 143), (1, vi x1), (2, vi x2), (3, vi x3), (4, vi x4), (5, vi (idv x5 (x1 + 1))), (6, vi x6), (7, vi x7), (9, vi x9), (10, vi (irm x5 (x1 + 1)))]) [2, 3, 4, 5, 6, 0, 7, 8, 10, 1] rfl ?_
            exact pX11_mostPairs_L112 C R hR F σ x1 c26 hc26 (gX11_mostPairs_L48 F σ x1 c26 n) ih x2 x3 x4 (idv x5 (x1 + 1)) x6 x7 x9 (irm x5 (x1 + 1))
          · refine z_aload_n C 0 rfl 2 rfl dX11_mostPairs_91 92 rfl ?_
            refine y_getR C fX11_64 one_11 lay_11_31 dX11_mostPairs_92 95 rfl ?_
            refine z_bipush C (by decide) dX11_mostPairs_95 97 rfl ?_
            refine z_iload C 10 rfl dX11_mostPairs_97 99 rfl ?_
            refine z_imul C dX11_mostPairs_99 100 rfl ?_
            refine z_iload C 1 rfl dX11_mostPairs_100 102 rfl ?_
            refine z_iadd C dX11_mostPairs_102 103 rfl ?_
            refine y_iald C lay_11_31.2 rfl dX11_mostPairs_103 104 rfl rfl (fun _ => ?_)
            refine z_iconst C dX11_mostPairs_104 105 rfl ?_
            refine z_icmp_ne C dX11_mostPairs_105 112 (by decide) 108 rfl rfl (w32_id (a := 1) (by decide)) (fun _ => ?_) (fun _ => ?_)
            · refine z_lv (lv' := [(0, vr G 143), (1, vi x1), (2, vi x2), (3, vi x3), (4, vi x4), (5, vi (idv x5 (x1 + 1))), (6, vi x6), (7, vi x7), (9, vi x9), (10, vi (irm x5 (x1 + 1)))]) [2, 3, 4, 5, 6, 0, 7, 8, 10, 1] rfl ?_
              exact pX11_mostPairs_L112 C R hR F σ x1 c26 hc26 (gX11_mostPairs_L48 F σ x1 c26 n) ih x2 x3 x4 (idv x5 (x1 + 1)) x6 x7 x9 (irm x5 (x1 + 1))
            · refine z_iconst C dX11_mostPairs_108 109 rfl ?_
              refine z_goto C dX11_mostPairs_109 113 (by decide) ?_
              refine z_lv (lv' := [(0, vr G 143), (1, vi x1), (2, vi x2), (3, vi x3), (4, vi x4), (5, vi (idv x5 (x1 + 1))), (6, vi x6), (7, vi x7), (9, vi x9), (10, vi (irm x5 (x1 + 1)))]) [2, 3, 4, 5, 6, 0, 7, 8, 10, 1] rfl ?_
              exact pX11_mostPairs_L113 C R hR F σ x1 c26 hc26 (gX11_mostPairs_L48 F σ x1 c26 n) ih x2 x3 x4 (idv x5 (x1 + 1)) x6 x7 x9 (irm x5 (x1 + 1)) 1
set_option maxRecDepth 100000 in
set_option maxHeartbeats 4000000 in
theorem pX11_mostPairs_L26 {X : MX} {G : GG} (C : CX X G 11 cX11_mostPairs RX11) (R : RT X (some .int)) (hR : mR X = rmX11_mostPairs) (F : Nat) (σ : St) (x1 : Int)  : ∀ (n : Nat) (x2 : Int) (x3 : Int) (x4 : Int), ZZ X G 11 (QM X G vzI (wzR σ) (0, 0)) (0, 0) (gX11_mostPairs_L26 F σ x1 n x2 x3 x4) (w0 σ) 26 [(0, vr G 143), (1, vi x1), (2, vi x2), (3, vi x3), (4, vi x4)] [] := by
  intro n
  induction n with
  | zero =>
    intro _ _ _
    exact z_none
  | succ n ih =>
    intro x2 x3 x4
    show ZZ X G 11 (QM X G vzI (wzR σ) (0, 0)) (0, 0) (if w32 x4 ≥ w32 x2 then some x3 else gX11_mostPairs_L48 F σ x1 (gX11_mostPairs_L26 F σ x1 n) F x2 x3 x4 x4 0 0 1 0) (w0 σ) 26 [(0, vr G 143), (1, vi x1), (2, vi x2), (3, vi x3), (4, vi x4)] []
    refine z_iload C 4 rfl dX11_mostPairs_26 28 rfl ?_
    refine z_iload_n C 2 rfl 2 rfl dX11_mostPairs_28 29 rfl ?_
    refine z_icmp_ge C dX11_mostPairs_29 157 (by decide) 32 rfl rfl rfl (fun _ => ?_) (fun _ => ?_)
    · refine z_iload_n C 3 rfl 3 rfl dX11_mostPairs_157 158 rfl ?_
      exact z_iret C R rfl rfl dX11_mostPairs_158
    · refine z_iload C 4 rfl dX11_mostPairs_32 34 rfl ?_
      refine z_istore (lv' := [(5, vi x4), (0, vr G 143), (1, vi x1), (2, vi x2), (3, vi x3), (4, vi x4)]) C (by decide) dX11_mostPairs_34 36 rfl rfl ?_
      refine z_iconst C dX11_mostPairs_36 37 rfl ?_
      refine z_istore (lv' := [(6, vi 0), (5, vi x4), (0, vr G 143), (1, vi x1), (2, vi x2), (3, vi x3), (4, vi x4)]) C (by decide) dX11_mostPairs_37 39 rfl rfl ?_
      refine z_iconst C dX11_mostPairs_39 40 rfl ?_
      refine z_istore (lv' := [(7, vi 0), (6, vi 0), (5, vi x4), (0, vr G 143), (1, vi x1), (2, vi x2), (3, vi x3), (4, vi x4)]) C (by decide) dX11_mostPairs_40 42 rfl rfl ?_
      refine z_iconst C dX11_mostPairs_42 43 rfl ?_
      refine z_istore (lv' := [(8, vi 1), (7, vi 0), (6, vi 0), (5, vi x4), (0, vr G 143), (1, vi x1), (2, vi x2), (3, vi x3), (4, vi x4)]) C (by decide) dX11_mostPairs_43 45 rfl rfl ?_
      refine z_iconst C dX11_mostPairs_45 46 rfl ?_
      refine z_istore (lv' := [(9, vi 0), (8, vi 1), (7, vi 0), (6, vi 0), (5, vi x4), (0, vr G 143), (1, vi x1), (2, vi x2), (3, vi x3), (4, vi x4)]) C (by decide) dX11_mostPairs_46 48 rfl rfl ?_
      refine z_lv (lv' := [(0, vr G 143), (1, vi x1), (2, vi x2), (3, vi x3), (4, vi x4), (5, vi x4), (6, vi 0), (7, vi 0), (8, vi 1), (9, vi 0)]) [5, 6, 7, 8, 9, 4, 3, 2, 1, 0] rfl ?_
      exact pX11_mostPairs_L48 C R hR F σ x1 (gX11_mostPairs_L26 F σ x1 n) ih F x2 x3 x4 x4 0 0 1 0
set_option maxRecDepth 100000 in
set_option maxHeartbeats 4000000 in
theorem pX11_mostPairs_L4 {X : MX} {G : GG} (C : CX X G 11 cX11_mostPairs RX11) (R : RT X (some .int)) (hR : mR X = rmX11_mostPairs) (F : Nat) (σ : St) (x1 : Int)  : ∀ (n : Nat) (x2 : Int) (x3 : Int), ZZ X G 11 (QM X G vzI (wzR σ) (0, 0)) (0, 0) (gX11_mostPairs_L4 F σ x1 n x2 x3) (w0 σ) 4 [(0, vr G 143), (1, vi x1), (2, vi x2), (3, vi x3)] [] := by
  intro n
  induction n with
  | zero =>
    intro _ _
    exact z_none
  | succ n ih =>
    intro x2 x3
    show ZZ X G 11 (QM X G vzI (wzR σ) (0, 0)) (0, 0) (if w32 x3 ≥ w32 x1 then gX11_mostPairs_L26 F σ x1 F x2 0 0 else gX11_mostPairs_L4 F σ x1 n (x2 * (x1 + 1)) (x3 + 1)) (w0 σ) 4 [(0, vr G 143), (1, vi x1), (2, vi x2), (3, vi x3)] []
    refine z_iload_n C 3 rfl 3 rfl dX11_mostPairs_4 5 rfl ?_
    refine z_iload_n C 1 rfl 1 rfl dX11_mostPairs_5 6 rfl ?_
    refine z_icmp_ge C dX11_mostPairs_6 21 (by decide) 9 rfl rfl rfl (fun _ => ?_) (fun _ => ?_)
    · refine z_iconst C dX11_mostPairs_21 22 rfl ?_
      refine z_istore_n (lv' := [(3, vi 0), (0, vr G 143), (1, vi x1), (2, vi x2)]) C 3 rfl (by decide) dX11_mostPairs_22 23 rfl rfl ?_
      refine z_iconst C dX11_mostPairs_23 24 rfl ?_
      refine z_istore (lv' := [(4, vi 0), (3, vi 0), (0, vr G 143), (1, vi x1), (2, vi x2)]) C (by decide) dX11_mostPairs_24 26 rfl rfl ?_
      refine z_lv (lv' := [(0, vr G 143), (1, vi x1), (2, vi x2), (3, vi 0), (4, vi 0)]) [2, 3, 4, 1, 0] rfl ?_
      exact pX11_mostPairs_L26 C R hR F σ x1 F x2 0 0
    · refine z_iload_n C 2 rfl 2 rfl dX11_mostPairs_9 10 rfl ?_
      refine z_iload_n C 1 rfl 1 rfl dX11_mostPairs_10 11 rfl ?_
      refine z_iconst C dX11_mostPairs_11 12 rfl ?_
      refine z_iadd C dX11_mostPairs_12 13 rfl ?_
      refine z_imul C dX11_mostPairs_13 14 rfl ?_
      refine z_istore_n (lv' := [(2, vi (x2 * (x1 + 1))), (0, vr G 143), (1, vi x1), (3, vi x3)]) C 2 rfl (by decide) dX11_mostPairs_14 15 rfl rfl ?_
      refine z_iinc (lv' := [(3, vi (x3 + 1)), (2, vi (x2 * (x1 + 1))), (0, vr G 143), (1, vi x1)]) C (by decide) 3 rfl dX11_mostPairs_15 18 rfl rfl ?_
      refine z_goto C dX11_mostPairs_18 4 (by decide) ?_
      refine z_lv (lv' := [(0, vr G 143), (1, vi x1), (2, vi (x2 * (x1 + 1))), (3, vi (x3 + 1))]) [2, 3, 1, 0] rfl ?_
      exact ih (x2 * (x1 + 1)) (x3 + 1)
set_option maxRecDepth 100000 in
set_option maxHeartbeats 4000000 in
theorem tX11_mostPairs (l : Launch) (G : GG) (F : Nat) (σ : St) (x1 : Int) : Ctr l G yX11_mostPairs cX11_mostPairs 11 (some .int) rmX11_mostPairs [vr G 143, vi x1] (w0 σ) vzI (wzR σ) (gX11_mostPairs F σ x1) := by
  refine ctr_of (by decide) (Nat.le_of_ble_eq_true rfl) mwX11_mostPairs.1 (fun X hl hR C R hnm => ?_)
  subst hl
  refine z_lv (lv' := [(0, vr G 143), (1, vi x1)]) [0, 1] rfl ?_
  show ZZ X G 11 (QM X G vzI (wzR σ) (0, 0)) (0, 0) (gX11_mostPairs_L4 F σ x1 F 1 0) (w0 σ) 0 [(0, vr G 143), (1, vi x1)] []
  refine z_iconst C dX11_mostPairs_0 1 rfl ?_
  refine z_istore_n (lv' := [(2, vi 1), (0, vr G 143), (1, vi x1)]) C 2 rfl (by decide) dX11_mostPairs_1 2 rfl rfl ?_
  refine z_iconst C dX11_mostPairs_2 3 rfl ?_
  refine z_istore_n (lv' := [(3, vi 0), (2, vi 1), (0, vr G 143), (1, vi x1)]) C 3 rfl (by decide) dX11_mostPairs_3 4 rfl rfl ?_
  refine z_lv (lv' := [(0, vr G 143), (1, vi x1), (2, vi 1), (3, vi 0)]) [2, 3, 1, 0] rfl ?_
  exact pX11_mostPairs_L4 C R hR F σ x1 F 1 0
-- worst
def gX11_worst_L131 (F : Nat) (x1 : Int) (x2 : Int) (x3 : Int) (c49 : Int → Int → Int → Int → Int → St → Option (Int × St)) (x4 : Int) (x5 : Int) (x6 : Int) (x7 : Int) (x8 : Int) (σ : St) : Option (Int × St) := c49 x4 x5 x6 x7 (x8 + 1) σ
def gX11_worst_L119 (F : Nat) (x1 : Int) (x2 : Int) (x3 : Int) (c49 : Int → Int → Int → Int → Int → St → Option (Int × St)) (x7 : Int) (x8 : Int) (x9 : Int) (x10 : Int) (σ : St) : Option (Int × St) := gX11_worst_L131 F x1 x2 x3 c49 x10 x9 x8 x7 x8 σ
def gX11_worst_L98 (F : Nat) (x1 : Int) (x2 : Int) (x3 : Int) (c49 : Int → Int → Int → Int → Int → St → Option (Int × St)) (x4 : Int) (x5 : Int) (x6 : Int) (x8 : Int) (x9 : Int) (x10 : Int) (s0 : Int) (s1 : Int) (σ : St) : Option (Int × St) := if w32 x5 = 0 then gX11_worst_L119 F x1 x2 x3 c49 (s0 + s1) x8 x9 x10 σ else if w32 (x10 * x5) ≥ w32 (x4 * x9) then gX11_worst_L131 F x1 x2 x3 c49 x4 x5 x6 (s0 + s1) x8 σ else gX11_worst_L119 F x1 x2 x3 c49 (s0 + s1) x8 x9 x10 σ
def gX11_worst_L49 (F : Nat) (x1 : Int) (x2 : Int) (x3 : Int) : Nat → Int → Int → Int → Int → Int → St → Option (Int × St)
  | 0, _, _, _, _, _, _ => none
  | n + 1, x4, x5, x6, x7, x8, σ => if w32 x8 ≥ ishl 1 (x2 * x2) then if w32 x3 ≠ 2 then if w32 x3 ≠ 3 then (gX11_lowest F σ (w32 x4) (w32 x5) x3).bind fun r1 => some (l2i_ r1, σ) else some (x7, σ) else some (x6, σ) else (gX11_loadNet F σ x8 x2).bind fun r2 => (gX11_mostPairs F r2 x2).bind fun r3 => (gX11_runByNumbers F r2 x1).bind fun r4 => (gX11_valueNow F r4).bind fun r5 => if w32 r5 ≠ w32 r3 then gX11_worst_L98 F x1 x2 x3 (gX11_worst_L49 F x1 x2 x3 n) x4 x5 x6 x8 r3 r5 x7 0 r4 else gX11_worst_L98 F x1 x2 x3 (gX11_worst_L49 F x1 x2 x3 n) x4 x5 x6 x8 r3 r5 x7 1 r4
def gX11_worst (F : Nat) (σ : St) (x1 : Int) (x2 : Int) (x3 : Int) : Option (Int × St) := (gX11_isRule σ x1).bind fun r1 => if w32 r1 = 0 then some ((-1), σ) else (gX11_in σ (w32 x2) 1 3).bind fun r2 => if w32 r2 = 0 then some ((-1), σ) else (gX11_in σ (w32 x3) 0 3).bind fun r3 => if w32 r3 ≠ 0 then gX11_worst_L49 F x1 x2 x3 F 1 0 0 0 1 σ else some ((-1), σ)
def rmX11_worst : Room := { frames := 5, cells := 0, slots := 0, locals := 121 }
set_option maxRecDepth 100000 in
set_option maxHeartbeats 4000000 in
theorem pX11_worst_L131 {X : MX} {G : GG} (C : CX X G 11 cX11_worst RX11) (R : RT X (some .int)) (hR : mR X = rmX11_worst) (F : Nat) (x1 : Int) (x2 : Int) (x3 : Int) (c49 : Int → Int → Int → Int → Int → St → Option (Int × St)) (hc49 : ∀ (x4 : Int) (x5 : Int) (x6 : Int) (x7 : Int) (x8 : Int) (σ : St), ZZ X G 11 (QM X G vzIw wzW (0, 0)) (0, 0) (c49 x4 x5 x6 x7 x8 σ) (w0 σ) 49 [(0, vr G 143), (1, vi x1), (2, vi x2), (3, vi x3), (4, vi x4), (5, vi x5), (6, vi x6), (7, vi x7), (8, vi x8)] []) : ∀ (x4 : Int) (x5 : Int) (x6 : Int) (x7 : Int) (x8 : Int) (σ : St), ZZ X G 11 (QM X G vzIw wzW (0, 0)) (0, 0) (gX11_worst_L131 F x1 x2 x3 c49 x4 x5 x6 x7 x8 σ) (w0 σ) 131 [(0, vr G 143), (1, vi x1), (2, vi x2), (3, vi x3), (4, vi x4), (5, vi x5), (6, vi x6), (7, vi x7), (8, vi x8)] [] := by
  intro x4 x5 x6 x7 x8 σ
  show ZZ X G 11 (QM X G vzIw wzW (0, 0)) (0, 0) (c49 x4 x5 x6 x7 (x8 + 1) σ) (w0 σ) 131 [(0, vr G 143), (1, vi x1), (2, vi x2), (3, vi x3), (4, vi x4), (5, vi x5), (6, vi x6), (7, vi x7), (8, vi x8)] []
  refine z_iinc (lv' := [(8, vi (x8 + 1)), (0, vr G 143), (1, vi x1), (2, vi x2), (3, vi x3), (4, vi x4), (5, vi x5), (6, vi x6), (7, vi x7)]) C (by decide) 8 rfl dX11_worst_131 134 rfl rfl ?_
  refine z_goto C dX11_worst_134 49 (by decide) ?_
  refine z_lv (lv' := [(0, vr G 143), (1, vi x1), (2, vi x2), (3, vi x3), (4, vi x4), (5, vi x5), (6, vi x6), (7, vi x7), (8, vi (x8 + 1))]) [1, 2, 3, 4, 5, 6, 7, 8, 0] rfl ?_
  exact hc49 x4 x5 x6 x7 (x8 + 1) σ
set_option maxRecDepth 100000 in
set_option maxHeartbeats 4000000 in
theorem pX11_worst_L119 {X : MX} {G : GG} (C : CX X G 11 cX11_worst RX11) (R : RT X (some .int)) (hR : mR X = rmX11_worst) (F : Nat) (x1 : Int) (x2 : Int) (x3 : Int) (c49 : Int → Int → Int → Int → Int → St → Option (Int × St)) (hc49 : ∀ (x4 : Int) (x5 : Int) (x6 : Int) (x7 : Int) (x8 : Int) (σ : St), ZZ X G 11 (QM X G vzIw wzW (0, 0)) (0, 0) (c49 x4 x5 x6 x7 x8 σ) (w0 σ) 49 [(0, vr G 143), (1, vi x1), (2, vi x2), (3, vi x3), (4, vi x4), (5, vi x5), (6, vi x6), (7, vi x7), (8, vi x8)] []) : ∀ (x7 : Int) (x8 : Int) (x9 : Int) (x10 : Int) (σ : St), ZZ X G 11 (QM X G vzIw wzW (0, 0)) (0, 0) (gX11_worst_L119 F x1 x2 x3 c49 x7 x8 x9 x10 σ) (w0 σ) 119 [(0, vr G 143), (1, vi x1), (2, vi x2), (3, vi x3), (7, vi x7), (8, vi x8), (9, vi x9), (10, vi x10)] [] := by
  intro x7 x8 x9 x10 σ
  show ZZ X G 11 (QM X G vzIw wzW (0, 0)) (0, 0) (gX11_worst_L131 F x1 x2 x3 c49 x10 x9 x8 x7 x8 σ) (w0 σ) 119 [(0, vr G 143), (1, vi x1), (2, vi x2), (3, vi x3), (7, vi x7), (8, vi x8), (9, vi x9), (10, vi x10)] []
  refine z_iload C 7 rfl dX11_worst_119 121 rfl ?_
  refine z_istore (lv' := [(4, vi x10), (0, vr G 143), (1, vi x1), (2, vi x2), (3, vi x3), (7, vi x7), (8, vi x8), (9, vi x9), (10, vi x10)]) C (by decide) dX11_worst_121 123 rfl rfl ?_
  refine z_iload C 7 rfl dX11_worst_123 125 rfl ?_
  refine z_istore (lv' := [(5, vi x9), (4, vi x10), (0, vr G 143), (1, vi x1), (2, vi x2), (3, vi x3), (7, vi x7), (8, vi x8), (9, vi x9), (10, vi x10)]) C (by decide) dX11_worst_125 127 rfl rfl ?_
  refine z_iload C 7 rfl dX11_worst_127 129 rfl ?_
  refine z_istore (lv' := [(6, vi x8), (5, vi x9), (4, vi x10), (0, vr G 143), (1, vi x1), (2, vi x2), (3, vi x3), (7, vi x7), (8, vi x8), (9, vi x9), (10, vi x10)]) C (by decide) dX11_worst_129 131 rfl rfl ?_
  refine z_lv (lv' := [(0, vr G 143), (1, vi x1), (2, vi x2), (3, vi x3), (4, vi x10), (5, vi x9), (6, vi x8), (7, vi x7), (8, vi x8)]) [3, 4, 5, 6, 2, 1, 0, 7, 8] rfl ?_
  exact pX11_worst_L131 C R hR F x1 x2 x3 c49 hc49 x10 x9 x8 x7 x8 σ
set_option maxRecDepth 100000 in
set_option maxHeartbeats 4000000 in
theorem pX11_worst_L98 {X : MX} {G : GG} (C : CX X G 11 cX11_worst RX11) (R : RT X (some .int)) (hR : mR X = rmX11_worst) (F : Nat) (x1 : Int) (x2 : Int) (x3 : Int) (c49 : Int → Int → Int → Int → Int → St → Option (Int × St)) (hc49 : ∀ (x4 : Int) (x5 : Int) (x6 : Int) (x7 : Int) (x8 : Int) (σ : St), ZZ X G 11 (QM X G vzIw wzW (0, 0)) (0, 0) (c49 x4 x5 x6 x7 x8 σ) (w0 σ) 49 [(0, vr G 143), (1, vi x1), (2, vi x2), (3, vi x3), (4, vi x4), (5, vi x5), (6, vi x6), (7, vi x7), (8, vi x8)] []) : ∀ (x4 : Int) (x5 : Int) (x6 : Int) (x8 : Int) (x9 : Int) (x10 : Int) (s0 : Int) (s1 : Int) (σ : St), ZZ X G 11 (QM X G vzIw wzW (0, 0)) (0, 0) (gX11_worst_L98 F x1 x2 x3 c49 x4 x5 x6 x8 x9 x10 s0 s1 σ) (w0 σ) 98 [(0, vr G 143), (1, vi x1), (2, vi x2), (3, vi x3), (4, vi x4), (5, vi x5), (6, vi x6), (8, vi x8), (9, vi x9), (10, vi x10)] [vi s1, vi s0] := by
  intro x4 x5 x6 x8 x9 x10 s0 s1 σ
  show ZZ X G 11 (QM X G vzIw wzW (0, 0)) (0, 0) (if w32 x5 = 0 then gX11_worst_L119 F x1 x2 x3 c49 (s0 + s1) x8 x9 x10 σ else if w32 (x10 * x5) ≥ w32 (x4 * x9) then gX11_worst_L131 F x1 x2 x3 c49 x4 x5 x6 (s0 + s1) x8 σ else gX11_worst_L119 F x1 x2 x3 c49 (s0 + s1) x8 x9 x10 σ) (w0 σ) 98 [(0, vr G 143), (1, vi x1), (2, vi x2), (3, vi x3), (4, vi x4), (5, vi x5), (6, vi x6), (8, vi x8), (9, vi x9), (10, vi x10)] [vi s1, vi s0]
  refine z_iadd C dX11_worst_98 99 rfl ?_
  refine z_istore (lv' := [(7, vi (s0 + s1)), (0, vr G 143), (1, vi x1), (2, vi x2), (3, vi x3), (4, vi x4), (5, vi x5), (6, vi x6), (8, vi x8), (9, vi x9), (10, vi x10)]) C (by decide) dX11_worst_99 101 rfl rfl ?_
  refine z_iload C 6 rfl dX11_worst_101 103 rfl ?_
  refine z_if_eq C dX11_worst_103 119 (by decide) 106 rfl rfl (fun _ => ?_) (fun _ => ?_)
  · refine z_lv (lv' := [(0, vr G 143), (1, vi x1), (2, vi x2), (3, vi x3), (7, vi (s0 + s1)), (8, vi x8), (9, vi x9), (10, vi x10)]) [1, 2, 3, 4, 0, 8, 9, 10] rfl ?_
    exact pX11_worst_L119 C R hR F x1 x2 x3 c49 hc49 (s0 + s1) x8 x9 x10 σ
  · refine z_iload C 10 rfl dX11_worst_106 108 rfl ?_
    refine z_iload C 6 rfl dX11_worst_108 110 rfl ?_
    refine z_imul C dX11_worst_110 111 rfl ?_
    refine z_iload C 5 rfl dX11_worst_111 113 rfl ?_
    refine z_iload C 9 rfl dX11_worst_113 115 rfl ?_
    refine z_imul C dX11_worst_115 116 rfl ?_
    refine z_icmp_ge C dX11_worst_116 131 (by decide) 119 rfl rfl rfl (fun _ => ?_) (fun _ => ?_)
    · refine z_lv (lv' := [(0, vr G 143), (1, vi x1), (2, vi x2), (3, vi x3), (4, vi x4), (5, vi x5), (6, vi x6), (7, vi (s0 + s1)), (8, vi x8)]) [1, 2, 3, 4, 5, 6, 7, 0, 8] rfl ?_
      exact pX11_worst_L131 C R hR F x1 x2 x3 c49 hc49 x4 x5 x6 (s0 + s1) x8 σ
    · refine z_lv (lv' := [(0, vr G 143), (1, vi x1), (2, vi x2), (3, vi x3), (7, vi (s0 + s1)), (8, vi x8), (9, vi x9), (10, vi x10)]) [1, 2, 3, 4, 0, 8, 9, 10] rfl ?_
      exact pX11_worst_L119 C R hR F x1 x2 x3 c49 hc49 (s0 + s1) x8 x9 x10 σ
set_option maxRecDepth 100000 in
set_option maxHeartbeats 4000000 in
theorem pX11_worst_L49 {X : MX} {G : GG} (C : CX X G 11 cX11_worst RX11) (R : RT X (some .int)) (hR : mR X = rmX11_worst) (F : Nat) (x1 : Int) (x2 : Int) (x3 : Int)  : ∀ (n : Nat) (x4 : Int) (x5 : Int) (x6 : Int) (x7 : Int) (x8 : Int) (σ : St), ZZ X G 11 (QM X G vzIw wzW (0, 0)) (0, 0) (gX11_worst_L49 F x1 x2 x3 n x4 x5 x6 x7 x8 σ) (w0 σ) 49 [(0, vr G 143), (1, vi x1), (2, vi x2), (3, vi x3), (4, vi x4), (5, vi x5), (6, vi x6), (7, vi x7), (8, vi x8)] [] := by
  intro n
  induction n with
  | zero =>
    intro _ _ _ _ _ _
    exact z_none
  | succ n ih =>
    intro x4 x5 x6 x7 x8 σ
    show ZZ X G 11 (QM X G vzIw wzW (0, 0)) (0, 0) (if w32 x8 ≥ ishl 1 (x2 * x2) then if w32 x3 ≠ 2 then if w32 x3 ≠ 3 then (gX11_lowest F σ (w32 x4) (w32 x5) x3).bind fun r1 => some (l2i_ r1, σ) else some (x7, σ) else some (x6, σ) else (gX11_loadNet F σ x8 x2).bind fun r2 => (gX11_mostPairs F r2 x2).bind fun r3 => (gX11_runByNumbers F r2 x1).bind fun r4 => (gX11_valueNow F r4).bind fun r5 => if w32 r5 ≠ w32 r3 then gX11_worst_L98 F x1 x2 x3 (gX11_worst_L49 F x1 x2 x3 n) x4 x5 x6 x8 r3 r5 x7 0 r4 else gX11_worst_L98 F x1 x2 x3 (gX11_worst_L49 F x1 x2 x3 n) x4 x5 x6 x8 r3 r5 x7 1 r4) (w0 σ) 49 [(0, vr G 143), (1, vi x1), (2, vi x2), (3, vi x3), (4, vi x4), (5, vi x5), (6, vi x6), (7, vi x7), (8, vi x8)] []
    refine z_iload C 8 rfl dX11_worst_49 51 rfl ?_
    refine z_iconst C dX11_worst_51 52 rfl ?_
    refine z_iload_n C 2 rfl 2 rfl dX11_worst_52 53 rfl ?_
    refine z_iload_n C 2 rfl 2 rfl dX11_worst_53 54 rfl ?_
    refine z_imul C dX11_worst_54 55 rfl ?_
    refine z_ishl C dX11_worst_55 56 rfl ?_
    refine z_icmp_ge C dX11_worst_56 137 (by decide) 59 rfl rfl (w32_ishl _ _) (fun _ => ?_) (fun _ => ?_)
    · refine z_iload_n C 3 rfl 3 rfl dX11_worst_137 138 rfl ?_
      refine z_iconst C dX11_worst_138 139 rfl ?_
      refine z_icmp_ne C dX11_worst_139 147 (by decide) 142 rfl rfl (w32_id (a := 2) (by decide)) (fun _ => ?_) (fun _ => ?_)
      · refine z_iload_n C 3 rfl 3 rfl dX11_worst_147 148 rfl ?_
        refine z_iconst C dX11_worst_148 149 rfl ?_
        refine z_icmp_ne C dX11_worst_149 157 (by decide) 152 rfl rfl (w32_id (a := 3) (by decide)) (fun _ => ?_) (fun _ => ?_)
        · refine z_iload C 4 rfl dX11_worst_157 159 rfl ?_
          refine z_i2l C dX11_worst_159 160 rfl ?_
          refine z_iload C 5 rfl dX11_worst_160 162 rfl ?_
          refine z_i2l C dX11_worst_162 163 rfl ?_
          refine z_iload_n C 3 rfl 3 rfl dX11_worst_163 164 rfl ?_
          refine y_callSJ C hR (tX11_lowest (mL X) G F σ (w32 x4) (w32 x5) x3) ⟨mwX11_lowest, msX11_lowest, lkX11_347⟩ rfl rfl (Nat.le_of_ble_eq_true rfl) (by unfold rmOK; decide) dX11_worst_164 167 rfl (fun r1 _ => ?_)
          refine z_l2i C dX11_worst_167 168 rfl ?_
          exact z_iret C R rfl rfl dX11_worst_168
        · refine z_iload C 7 rfl dX11_worst_152 154 rfl ?_
          refine z_goto C dX11_worst_154 168 (by decide) ?_
          exact z_iret C R rfl rfl dX11_worst_168
      · refine z_iload C 6 rfl dX11_worst_142 144 rfl ?_
        refine z_goto C dX11_worst_144 168 (by decide) ?_
        exact z_iret C R rfl rfl dX11_worst_168
    · refine z_aload_n C 0 rfl 0 rfl dX11_worst_59 60 rfl ?_
      refine z_iload C 8 rfl dX11_worst_60 62 rfl ?_
      refine z_iload_n C 2 rfl 2 rfl dX11_worst_62 63 rfl ?_
      refine y_callVv C hR (tX11_loadNet (mL X) G F σ x8 x2) ⟨mwX11_loadNet, mvX11_loadNet, lkX11_361⟩ one_11 rfl rfl (Nat.le_of_ble_eq_true rfl) (by unfold rmOK; decide) dX11_worst_63 66 rfl (fun r2 _ => ?_)
      refine z_aload_n C 0 rfl 0 rfl dX11_worst_66 67 rfl ?_
      refine z_iload_n C 2 rfl 2 rfl dX11_worst_67 68 rfl ?_
      refine y_callVI C hR (tX11_mostPairs (mL X) G F r2 x2) ⟨mwX11_mostPairs, mvX11_mostPairs, lkX11_364⟩ one_11 rfl rfl (Nat.le_of_ble_eq_true rfl) (by unfold rmOK; decide) dX11_worst_68 71 rfl (fun r3 _ => ?_)
      refine z_istore (lv' := [(9, vi r3), (0, vr G 143), (1, vi x1), (2, vi x2), (3, vi x3), (4, vi x4), (5, vi x5), (6, vi x6), (7, vi x7), (8, vi x8)]) C (by decide) dX11_worst_71 73 rfl rfl ?_
      refine z_aload_n C 0 rfl 1 rfl dX11_worst_73 74 rfl ?_
      refine z_iload_n C 1 rfl 2 rfl dX11_worst_74 75 rfl ?_
      refine y_callVv C hR (tX11_runByNumbers (mL X) G F r2 x1) ⟨mwX11_runByNumbers, mvX11_runByNumbers, lkX11_276⟩ one_11 rfl rfl (Nat.le_of_ble_eq_true rfl) (by unfold rmOK; decide) dX11_worst_75 78 rfl (fun r4 _ => ?_)
      refine z_aload_n C 0 rfl 1 rfl dX11_worst_78 79 rfl ?_
      refine y_callVI C hR (tX11_valueNow (mL X) G F r4) ⟨mwX11_valueNow, mvX11_valueNow, lkX11_279⟩ one_11 rfl rfl (Nat.le_of_ble_eq_true rfl) (by unfold rmOK; decide) dX11_worst_79 82 rfl (fun r5 _ => ?_)
      refine z_istore (lv' := [(10, vi r5), (9, vi r3), (0, vr G 143), (1, vi x1), (2, vi x2), (3, vi x3), (4, vi x4), (5, vi x5), (6, vi x6), (7, vi x7), (8, vi x8)]) C (by decide) dX11_worst_82 84 rfl rfl ?_
      refine z_iload C 9 rfl dX11_worst_84 86 rfl ?_
      refine z_iload C 0 rfl dX11_worst_86 88 rfl ?_
      refine z_iload C 1 rfl dX11_worst_88 90 rfl ?_
      refine z_icmp_ne C dX11_worst_90 97 (by decide) 93 rfl rfl rfl (fun _ => ?_) (fun _ => ?_)
      · refine z_iconst C dX11_worst_97 98 rfl ?_
        refine z_lv (lv' := [(0, vr G 143), (1, vi x1), (2, vi x2), (3, vi x3), (4, vi x4), (5, vi x5), (6, vi x6), (8, vi x8), (9, vi r3), (10, vi r5)]) [2, 3, 4, 5, 6, 7, 8, 10, 1, 0] rfl ?_
        exact pX11_worst_L98 C R hR F x1 x2 x3 (gX11_worst_L49 F x1 x2 x3 n) ih x4 x5 x6 x8 r3 r5 x7 0 r4
      · refine z_iconst C dX11_worst_93 94 rfl ?_
        refine z_goto C dX11_worst_94 98 (by decide) ?_
        refine z_lv (lv' := [(0, vr G 143), (1, vi x1), (2, vi x2), (3, vi x3), (4, vi x4), (5, vi x5), (6, vi x6), (8, vi x8), (9, vi r3), (10, vi r5)]) [2, 3, 4, 5, 6, 7, 8, 10, 1, 0] rfl ?_
        exact pX11_worst_L98 C R hR F x1 x2 x3 (gX11_worst_L49 F x1 x2 x3 n) ih x4 x5 x6 x8 r3 r5 x7 1 r4
set_option maxRecDepth 100000 in
set_option maxHeartbeats 4000000 in
theorem tX11_worst (l : Launch) (G : GG) (F : Nat) (σ : St) (x1 : Int) (x2 : Int) (x3 : Int) : Ctr l G yX11_worst cX11_worst 11 (some .int) rmX11_worst [vr G 143, vi x1, vi x2, vi x3] (w0 σ) vzIw wzW (gX11_worst F σ x1 x2 x3) := by
  refine ctr_of (by decide) (Nat.le_of_ble_eq_true rfl) mwX11_worst.1 (fun X hl hR C R hnm => ?_)
  subst hl
  refine z_lv (lv' := [(0, vr G 143), (1, vi x1), (2, vi x2), (3, vi x3)]) [0, 1, 2, 3] rfl ?_
  show ZZ X G 11 (QM X G vzIw wzW (0, 0)) (0, 0) ((gX11_isRule σ x1).bind fun r1 => if w32 r1 = 0 then some ((-1), σ) else (gX11_in σ (w32 x2) 1 3).bind fun r2 => if w32 r2 = 0 then some ((-1), σ) else (gX11_in σ (w32 x3) 0 3).bind fun r3 => if w32 r3 ≠ 0 then gX11_worst_L49 F x1 x2 x3 F 1 0 0 0 1 σ else some ((-1), σ)) (w0 σ) 0 [(0, vr G 143), (1, vi x1), (2, vi x2), (3, vi x3)] []
  refine z_aload_n C 0 rfl 0 rfl dX11_worst_0 1 rfl ?_
  refine z_iload_n C 1 rfl 1 rfl dX11_worst_1 2 rfl ?_
  refine y_callVI C hR (tX11_isRule (mL X) G σ x1) ⟨mwX11_isRule, mvX11_isRule, lkX11_229⟩ one_11 rfl rfl (Nat.le_of_ble_eq_true rfl) (by unfold rmOK; decide) dX11_worst_2 5 rfl (fun r1 _ => ?_)
  refine z_if_eq C dX11_worst_5 32 (by decide) 8 rfl rfl (fun _ => ?_) (fun _ => ?_)
  · refine z_iconst C dX11_worst_32 33 rfl ?_
    exact z_iret C R rfl rfl dX11_worst_33
  · refine z_iload_n C 2 rfl 2 rfl dX11_worst_8 9 rfl ?_
    refine z_i2l C dX11_worst_9 10 rfl ?_
    refine z_lconst (v := 1) C (by decide) dX11_worst_10 11 rfl ?_
    refine z_ldc2 (v := 3) C clX11_133 (by decide) dX11_worst_11 14 rfl ?_
    refine y_callSI C hR (tX11_in (mL X) G σ (w32 x2) 1 3) ⟨mwX11_in, msX11_in, lkX11_126⟩ rfl rfl (Nat.le_of_ble_eq_true rfl) (by unfold rmOK; decide) dX11_worst_14 17 rfl (fun r2 _ => ?_)
    refine z_if_eq C dX11_worst_17 32 (by decide) 20 rfl rfl (fun _ => ?_) (fun _ => ?_)
    · refine z_iconst C dX11_worst_32 33 rfl ?_
      exact z_iret C R rfl rfl dX11_worst_33
    · refine z_iload_n C 3 rfl 3 rfl dX11_worst_20 21 rfl ?_
      refine z_i2l C dX11_worst_21 22 rfl ?_
      refine z_lconst (v := 0) C (by decide) dX11_worst_22 23 rfl ?_
      refine z_ldc2 (v := 3) C clX11_133 (by decide) dX11_worst_23 26 rfl ?_
      refine y_callSI C hR (tX11_in (mL X) G σ (w32 x3) 0 3) ⟨mwX11_in, msX11_in, lkX11_126⟩ rfl rfl (Nat.le_of_ble_eq_true rfl) (by unfold rmOK; decide) dX11_worst_26 29 rfl (fun r3 _ => ?_)
      refine z_if_ne C dX11_worst_29 34 (by decide) 32 rfl rfl (fun _ => ?_) (fun _ => ?_)
      · refine z_iconst C dX11_worst_34 35 rfl ?_
        refine z_istore (lv' := [(4, vi 1), (0, vr G 143), (1, vi x1), (2, vi x2), (3, vi x3)]) C (by decide) dX11_worst_35 37 rfl rfl ?_
        refine z_iconst C dX11_worst_37 38 rfl ?_
        refine z_istore (lv' := [(5, vi 0), (4, vi 1), (0, vr G 143), (1, vi x1), (2, vi x2), (3, vi x3)]) C (by decide) dX11_worst_38 40 rfl rfl ?_
        refine z_iconst C dX11_worst_40 41 rfl ?_
        refine z_istore (lv' := [(6, vi 0), (5, vi 0), (4, vi 1), (0, vr G 143), (1, vi x1), (2, vi x2), (3, vi x3)]) C (by decide) dX11_worst_41 43 rfl rfl ?_
        refine z_iconst C dX11_worst_43 44 rfl ?_
        refine z_istore (lv' := [(7, vi 0), (6, vi 0), (5, vi 0), (4, vi 1), (0, vr G 143), (1, vi x1), (2, vi x2), (3, vi x3)]) C (by decide) dX11_worst_44 46 rfl rfl ?_
        refine z_iconst C dX11_worst_46 47 rfl ?_
        refine z_istore (lv' := [(8, vi 1), (7, vi 0), (6, vi 0), (5, vi 0), (4, vi 1), (0, vr G 143), (1, vi x1), (2, vi x2), (3, vi x3)]) C (by decide) dX11_worst_47 49 rfl rfl ?_
        refine z_lv (lv' := [(0, vr G 143), (1, vi x1), (2, vi x2), (3, vi x3), (4, vi 1), (5, vi 0), (6, vi 0), (7, vi 0), (8, vi 1)]) [5, 6, 7, 8, 4, 3, 2, 1, 0] rfl ?_
        exact pX11_worst_L49 C R hR F x1 x2 x3 F 1 0 0 0 1 σ
      · refine z_iconst C dX11_worst_32 33 rfl ?_
        exact z_iret C R rfl rfl dX11_worst_33
-- record
def gX11_record_L72 (F : Nat) : Nat → Int → Int → St → Option (St)
  | 0, _, _, _ => none
  | n + 1, x1, x2, σ => if w32 x2 ≥ 6 then gd (0 ≤ w32 (x1 + 33) ∧ w32 (x1 + 33) < 1200) (gd (0 ≤ w32 (x1 + 34) ∧ w32 (x1 + 34) < 1200) (some (up (up (up σ 177 (w32 (x1 + 33)) (σ 143 53)) 177 (w32 (x1 + 34)) ((up σ 177 (w32 (x1 + 33)) (σ 143 53)) 143 4)) 143 54 (((up (up σ 177 (w32 (x1 + 33)) (σ 143 53)) 177 (w32 (x1 + 34)) ((up σ 177 (w32 (x1 + 33)) (σ 143 53)) 143 4)) 143 54) + 1)))) else gd (0 ≤ w32 x2 ∧ w32 x2 < 6) (gd (0 ≤ w32 ((x1 + 27) + x2) ∧ w32 ((x1 + 27) + x2) < 1200) (gX11_record_L72 F n x1 (x2 + 1) (up σ 177 (w32 ((x1 + 27) + x2)) (σ 176 (w32 x2)))))
def gX11_record_L10 (F : Nat) : Nat → Int → Int → St → Option (St)
  | 0, _, _, _ => none
  | n + 1, x1, x2, σ => if w32 x2 ≥ 9 then gX11_record_L72 F F x1 0 σ else gd (0 ≤ w32 x2 ∧ w32 x2 < 9) (gd (0 ≤ w32 (x1 + x2) ∧ w32 (x1 + x2) < 1200) (gd (0 ≤ w32 x2 ∧ w32 x2 < 9) (gd (0 ≤ w32 ((x1 + 9) + x2) ∧ w32 ((x1 + 9) + x2) < 1200) (gd (0 ≤ w32 x2 ∧ w32 x2 < 9) (gd (0 ≤ w32 ((x1 + 18) + x2) ∧ w32 ((x1 + 18) + x2) < 1200) (gX11_record_L10 F n x1 (x2 + 1) (up (up (up σ 177 (w32 (x1 + x2)) (σ 173 (w32 x2))) 177 (w32 ((x1 + 9) + x2)) ((up σ 177 (w32 (x1 + x2)) (σ 173 (w32 x2))) 174 (w32 x2))) 177 (w32 ((x1 + 18) + x2)) ((up (up σ 177 (w32 (x1 + x2)) (σ 173 (w32 x2))) 177 (w32 ((x1 + 9) + x2)) ((up σ 177 (w32 (x1 + x2)) (σ 173 (w32 x2))) 174 (w32 x2))) 175 (w32 x2)))))))))
def gX11_record (F : Nat) (σ : St) : Option (St) := gX11_record_L10 F F (40 * (σ 143 54)) 0 σ
def rmX11_record : Room := { frames := 0, cells := 0, slots := 0, locals := 0 }
set_option maxRecDepth 100000 in
set_option maxHeartbeats 4000000 in
theorem pX11_record_L72 {X : MX} {G : GG} (C : CX X G 3 cX11_record RX11) (R : RT X none) (hR : mR X = rmX11_record) (F : Nat)  : ∀ (n : Nat) (x1 : Int) (x2 : Int) (σ : St), ZZ X G 3 (QM X G vzV wzV (0, 0)) (0, 0) (gX11_record_L72 F n x1 x2 σ) (w0 σ) 72 [(0, vr G 143), (1, vi x1), (2, vi x2)] [] := by
  intro n
  induction n with
  | zero =>
    intro _ _ _
    exact z_none
  | succ n ih =>
    intro x1 x2 σ
    show ZZ X G 3 (QM X G vzV wzV (0, 0)) (0, 0) (if w32 x2 ≥ 6 then gd (0 ≤ w32 (x1 + 33) ∧ w32 (x1 + 33) < 1200) (gd (0 ≤ w32 (x1 + 34) ∧ w32 (x1 + 34) < 1200) (some (up (up (up σ 177 (w32 (x1 + 33)) (σ 143 53)) 177 (w32 (x1 + 34)) ((up σ 177 (w32 (x1 + 33)) (σ 143 53)) 143 4)) 143 54 (((up (up σ 177 (w32 (x1 + 33)) (σ 143 53)) 177 (w32 (x1 + 34)) ((up σ 177 (w32 (x1 + 33)) (σ 143 53)) 143 4)) 143 54) + 1)))) else gd (0 ≤ w32 x2 ∧ w32 x2 < 6) (gd (0 ≤ w32 ((x1 + 27) + x2) ∧ w32 ((x1 + 27) + x2) < 1200) (gX11_record_L72 F n x1 (x2 + 1) (up σ 177 (w32 ((x1 + 27) + x2)) (σ 176 (w32 x2)))))) (w0 σ) 72 [(0, vr G 143), (1, vi x1), (2, vi x2)] []
    refine z_iload_n C 2 rfl 2 rfl dX11_record_72 73 rfl ?_
    refine z_bipush C (by decide) dX11_record_73 75 rfl ?_
    refine z_icmp_ge C dX11_record_75 101 (by decide) 78 rfl rfl (w32_id (a := 6) (by decide)) (fun _ => ?_) (fun _ => ?_)
    · refine z_aload_n C 0 rfl 0 rfl dX11_record_101 102 rfl ?_
      refine y_getR C fX11_110 one_11 lay_11_55 dX11_record_102 105 rfl ?_
      refine z_iload_n C 1 rfl 1 rfl dX11_record_105 106 rfl ?_
      refine z_bipush C (by decide) dX11_record_106 108 rfl ?_
      refine z_iadd C dX11_record_108 109 rfl ?_
      refine z_aload_n C 0 rfl 0 rfl dX11_record_109 110 rfl ?_
      refine y_getI C fX11_370 one_11 dX11_record_110 113 rfl ?_
      refine y_iast C lay_11_55.2 rfl dX11_record_113 114 rfl rfl (fun _ => ?_)
      refine z_aload_n C 0 rfl 0 rfl dX11_record_114 115 rfl ?_
      refine y_getR C fX11_110 one_11 lay_11_55 dX11_record_115 118 rfl ?_
      refine z_iload_n C 1 rfl 1 rfl dX11_record_118 119 rfl ?_
      refine z_bipush C (by decide) dX11_record_119 121 rfl ?_
      refine z_iadd C dX11_record_121 122 rfl ?_
      refine z_aload_n C 0 rfl 0 rfl dX11_record_122 123 rfl ?_
      refine y_getI C fX11_130 one_11 dX11_record_123 126 rfl ?_
      refine y_iast C lay_11_55.2 rfl dX11_record_126 127 rfl rfl (fun _ => ?_)
      refine z_aload_n C 0 rfl 0 rfl dX11_record_127 128 rfl ?_
      refine z_dup C rfl dX11_record_128 129 rfl ?_
      refine y_getI C fX11_367 one_11 dX11_record_129 132 rfl ?_
      refine z_iconst C dX11_record_132 133 rfl ?_
      refine z_iadd C dX11_record_133 134 rfl ?_
      refine y_putI C fX11_367 one_11 ⟨rfl, rfl⟩ dX11_record_134 137 rfl ?_
      exact z_vret C R rfl rfl dX11_record_137
    · refine z_aload_n C 0 rfl 0 rfl dX11_record_78 79 rfl ?_
      refine y_getR C fX11_110 one_11 lay_11_55 dX11_record_79 82 rfl ?_
      refine z_iload_n C 1 rfl 1 rfl dX11_record_82 83 rfl ?_
      refine z_bipush C (by decide) dX11_record_83 85 rfl ?_
      refine z_iadd C dX11_record_85 86 rfl ?_
      refine z_iload_n C 2 rfl 2 rfl dX11_record_86 87 rfl ?_
      refine z_iadd C dX11_record_87 88 rfl ?_
      refine z_aload_n C 0 rfl 0 rfl dX11_record_88 89 rfl ?_
      refine y_getR C fX11_107 one_11 lay_11_52 dX11_record_89 92 rfl ?_
      refine z_iload_n C 2 rfl 2 rfl dX11_record_92 93 rfl ?_
      refine y_iald C lay_11_52.2 rfl dX11_record_93 94 rfl rfl (fun _ => ?_)
      refine y_iast C lay_11_55.2 rfl dX11_record_94 95 rfl rfl (fun _ => ?_)
      refine z_iinc (lv' := [(2, vi (x2 + 1)), (0, vr G 143), (1, vi x1)]) C (by decide) 2 rfl dX11_record_95 98 rfl rfl ?_
      refine z_goto C dX11_record_98 72 (by decide) ?_
      refine z_lv (lv' := [(0, vr G 143), (1, vi x1), (2, vi (x2 + 1))]) [1, 2, 0] rfl ?_
      exact ih x1 (x2 + 1) (up σ 177 (w32 ((x1 + 27) + x2)) (σ 176 (w32 x2)))
set_option maxRecDepth 100000 in
set_option maxHeartbeats 4000000 in
theorem pX11_record_L10 {X : MX} {G : GG} (C : CX X G 3 cX11_record RX11) (R : RT X none) (hR : mR X = rmX11_record) (F : Nat)  : ∀ (n : Nat) (x1 : Int) (x2 : Int) (σ : St), ZZ X G 3 (QM X G vzV wzV (0, 0)) (0, 0) (gX11_record_L10 F n x1 x2 σ) (w0 σ) 10 [(0, vr G 143), (1, vi x1), (2, vi x2)] [] := by
  intro n
  induction n with
  | zero =>
    intro _ _ _
    exact z_none
  | succ n ih =>
    intro x1 x2 σ
    show ZZ X G 3 (QM X G vzV wzV (0, 0)) (0, 0) (if w32 x2 ≥ 9 then gX11_record_L72 F F x1 0 σ else gd (0 ≤ w32 x2 ∧ w32 x2 < 9) (gd (0 ≤ w32 (x1 + x2) ∧ w32 (x1 + x2) < 1200) (gd (0 ≤ w32 x2 ∧ w32 x2 < 9) (gd (0 ≤ w32 ((x1 + 9) + x2) ∧ w32 ((x1 + 9) + x2) < 1200) (gd (0 ≤ w32 x2 ∧ w32 x2 < 9) (gd (0 ≤ w32 ((x1 + 18) + x2) ∧ w32 ((x1 + 18) + x2) < 1200) (gX11_record_L10 F n x1 (x2 + 1) (up (up (up σ 177 (w32 (x1 + x2)) (σ 173 (w32 x2))) 177 (w32 ((x1 + 9) + x2)) ((up σ 177 (w32 (x1 + x2)) (σ 173 (w32 x2))) 174 (w32 x2))) 177 (w32 ((x1 + 18) + x2)) ((up (up σ 177 (w32 (x1 + x2)) (σ 173 (w32 x2))) 177 (w32 ((x1 + 9) + x2)) ((up σ 177 (w32 (x1 + x2)) (σ 173 (w32 x2))) 174 (w32 x2))) 175 (w32 x2)))))))))) (w0 σ) 10 [(0, vr G 143), (1, vi x1), (2, vi x2)] []
    refine z_iload_n C 2 rfl 2 rfl dX11_record_10 11 rfl ?_
    refine z_bipush C (by decide) dX11_record_11 13 rfl ?_
    refine z_icmp_ge C dX11_record_13 70 (by decide) 16 rfl rfl (w32_id (a := 9) (by decide)) (fun _ => ?_) (fun _ => ?_)
    · refine z_iconst C dX11_record_70 71 rfl ?_
      refine z_istore_n (lv' := [(2, vi 0), (0, vr G 143), (1, vi x1)]) C 2 rfl (by decide) dX11_record_71 72 rfl rfl ?_
      refine z_lv (lv' := [(0, vr G 143), (1, vi x1), (2, vi 0)]) [1, 2, 0] rfl ?_
      exact pX11_record_L72 C R hR F F x1 0 σ
    · refine z_aload_n C 0 rfl 0 rfl dX11_record_16 17 rfl ?_
      refine y_getR C fX11_110 one_11 lay_11_55 dX11_record_17 20 rfl ?_
      refine z_iload_n C 1 rfl 1 rfl dX11_record_20 21 rfl ?_
      refine z_iload_n C 2 rfl 2 rfl dX11_record_21 22 rfl ?_
      refine z_iadd C dX11_record_22 23 rfl ?_
      refine z_aload_n C 0 rfl 0 rfl dX11_record_23 24 rfl ?_
      refine y_getR C fX11_98 one_11 lay_11_49 dX11_record_24 27 rfl ?_
      refine z_iload_n C 2 rfl 2 rfl dX11_record_27 28 rfl ?_
      refine y_iald C lay_11_49.2 rfl dX11_record_28 29 rfl rfl (fun _ => ?_)
      refine y_iast C lay_11_55.2 rfl dX11_record_29 30 rfl rfl (fun _ => ?_)
      refine z_aload_n C 0 rfl 0 rfl dX11_record_30 31 rfl ?_
      refine y_getR C fX11_110 one_11 lay_11_55 dX11_record_31 34 rfl ?_
      refine z_iload_n C 1 rfl 1 rfl dX11_record_34 35 rfl ?_
      refine z_bipush C (by decide) dX11_record_35 37 rfl ?_
      refine z_iadd C dX11_record_37 38 rfl ?_
      refine z_iload_n C 2 rfl 2 rfl dX11_record_38 39 rfl ?_
      refine z_iadd C dX11_record_39 40 rfl ?_
      refine z_aload_n C 0 rfl 0 rfl dX11_record_40 41 rfl ?_
      refine y_getR C fX11_101 one_11 lay_11_50 dX11_record_41 44 rfl ?_
      refine z_iload_n C 2 rfl 2 rfl dX11_record_44 45 rfl ?_
      refine y_iald C lay_11_50.2 rfl dX11_record_45 46 rfl rfl (fun _ => ?_)
      refine y_iast C lay_11_55.2 rfl dX11_record_46 47 rfl rfl (fun _ => ?_)
      refine z_aload_n C 0 rfl 0 rfl dX11_record_47 48 rfl ?_
      refine y_getR C fX11_110 one_11 lay_11_55 dX11_record_48 51 rfl ?_
      refine z_iload_n C 1 rfl 1 rfl dX11_record_51 52 rfl ?_
      refine z_bipush C (by decide) dX11_record_52 54 rfl ?_
      refine z_iadd C dX11_record_54 55 rfl ?_
      refine z_iload_n C 2 rfl 2 rfl dX11_record_55 56 rfl ?_
      refine z_iadd C dX11_record_56 57 rfl ?_
      refine z_aload_n C 0 rfl 0 rfl dX11_record_57 58 rfl ?_
      refine y_getR C fX11_104 one_11 lay_11_51 dX11_record_58 61 rfl ?_
      refine z_iload_n C 2 rfl 2 rfl dX11_record_61 62 rfl ?_
      refine y_iald C lay_11_51.2 rfl dX11_record_62 63 rfl rfl (fun _ => ?_)
      refine y_iast C lay_11_55.2 rfl dX11_record_63 64 rfl rfl (fun _ => ?_)
      refine z_iinc (lv' := [(2, vi (x2 + 1)), (0, vr G 143), (1, vi x1)]) C (by decide) 2 rfl dX11_record_64 67 rfl rfl ?_
      refine z_goto C dX11_record_67 10 (by decide) ?_
      refine z_lv (lv' := [(0, vr G 143), (1, vi x1), (2, vi (x2 + 1))]) [1, 2, 0] rfl ?_
      exact ih x1 (x2 + 1) (up (up (up σ 177 (w32 (x1 + x2)) (σ 173 (w32 x2))) 177 (w32 ((x1 + 9) + x2)) ((up σ 177 (w32 (x1 + x2)) (σ 173 (w32 x2))) 174 (w32 x2))) 177 (w32 ((x1 + 18) + x2)) ((up (up σ 177 (w32 (x1 + x2)) (σ 173 (w32 x2))) 177 (w32 ((x1 + 9) + x2)) ((up σ 177 (w32 (x1 + x2)) (σ 173 (w32 x2))) 174 (w32 x2))) 175 (w32 x2)))
set_option maxRecDepth 100000 in
set_option maxHeartbeats 4000000 in
theorem tX11_record (l : Launch) (G : GG) (F : Nat) (σ : St) : Ctr l G yX11_record cX11_record 3 none rmX11_record [vr G 143] (w0 σ) vzV wzV (gX11_record F σ) := by
  refine ctr_of (by decide) (Nat.le_of_ble_eq_true rfl) mwX11_record.1 (fun X hl hR C R hnm => ?_)
  subst hl
  refine z_lv (lv' := [(0, vr G 143)]) [0] rfl ?_
  show ZZ X G 3 (QM X G vzV wzV (0, 0)) (0, 0) (gX11_record_L10 F F (40 * (σ 143 54)) 0 σ) (w0 σ) 0 [(0, vr G 143)] []
  refine z_bipush C (by decide) dX11_record_0 2 rfl ?_
  refine z_aload_n C 0 rfl 0 rfl dX11_record_2 3 rfl ?_
  refine y_getI C fX11_367 one_11 dX11_record_3 6 rfl ?_
  refine z_imul C dX11_record_6 7 rfl ?_
  refine z_istore_n (lv' := [(1, vi (40 * (σ 143 54))), (0, vr G 143)]) C 1 rfl (by decide) dX11_record_7 8 rfl rfl ?_
  refine z_iconst C dX11_record_8 9 rfl ?_
  refine z_istore_n (lv' := [(2, vi 0), (1, vi (40 * (σ 143 54))), (0, vr G 143)]) C 2 rfl (by decide) dX11_record_9 10 rfl rfl ?_
  refine z_lv (lv' := [(0, vr G 143), (1, vi (40 * (σ 143 54))), (2, vi 0)]) [2, 1, 0] rfl ?_
  exact pX11_record_L10 C R hR F F (40 * (σ 143 54)) 0 σ
-- loadMarket
def gX11_loadMarket_L46 (F : Nat) : Nat → Int → St → Option (St)
  | 0, _, _ => none
  | n + 1, x1, σ => if w32 x1 ≥ w32 (σ 143 0) then some (up σ 143 35 (σ 143 53)) else gd (0 ≤ w32 x1 ∧ w32 x1 < 6) (gd (0 ≤ w32 x1 ∧ w32 x1 < 6) (gX11_loadMarket_L46 F n (x1 + 1) (up σ 163 (w32 x1) (σ 176 (w32 x1)))))
def gX11_loadMarket_L6 (F : Nat) : Nat → Int → St → Option (St)
  | 0, _, _ => none
  | n + 1, x1, σ => if w32 x1 ≥ w32 (σ 143 4) then gX11_loadMarket_L46 F F 0 σ else gd (0 ≤ w32 x1 ∧ w32 x1 < 9) (gd (0 ≤ w32 x1 ∧ w32 x1 < 9) (gd (0 ≤ w32 x1 ∧ w32 x1 < 9) (gd (0 ≤ w32 x1 ∧ w32 x1 < 9) (gX11_loadMarket_L6 F n (x1 + 1) (up (up σ 164 (w32 x1) (σ 174 (w32 x1))) 165 (w32 x1) ((up σ 164 (w32 x1) (σ 174 (w32 x1))) 175 (w32 x1)))))))
def gX11_loadMarket (F : Nat) (σ : St) : Option (St) := (gX11_loadMain F σ).bind fun r1 => gX11_loadMarket_L6 F F 0 r1
def rmX11_loadMarket : Room := { frames := 2, cells := 0, slots := 0, locals := 42 }
set_option maxRecDepth 100000 in
set_option maxHeartbeats 4000000 in
theorem pX11_loadMarket_L46 {X : MX} {G : GG} (C : CX X G 2 cX11_loadMarket RX11) (R : RT X none) (hR : mR X = rmX11_loadMarket) (F : Nat)  : ∀ (n : Nat) (x1 : Int) (σ : St), ZZ X G 2 (QM X G vzV wzV (0, 0)) (0, 0) (gX11_loadMarket_L46 F n x1 σ) (w0 σ) 46 [(0, vr G 143), (1, vi x1)] [] := by
  intro n
  induction n with
  | zero =>
    intro _ _
    exact z_none
  | succ n ih =>
    intro x1 σ
    show ZZ X G 2 (QM X G vzV wzV (0, 0)) (0, 0) (if w32 x1 ≥ w32 (σ 143 0) then some (up σ 143 35 (σ 143 53)) else gd (0 ≤ w32 x1 ∧ w32 x1 < 6) (gd (0 ≤ w32 x1 ∧ w32 x1 < 6) (gX11_loadMarket_L46 F n (x1 + 1) (up σ 163 (w32 x1) (σ 176 (w32 x1)))))) (w0 σ) 46 [(0, vr G 143), (1, vi x1)] []
    refine z_iload_n C 1 rfl 1 rfl dX11_loadMarket_46 47 rfl ?_
    refine z_aload_n C 0 rfl 0 rfl dX11_loadMarket_47 48 rfl ?_
    refine y_getI C fX11_122 one_11 dX11_loadMarket_48 51 rfl ?_
    refine z_icmp_ge C dX11_loadMarket_51 72 (by decide) 54 rfl rfl rfl (fun _ => ?_) (fun _ => ?_)
    · refine z_aload_n C 0 rfl 0 rfl dX11_loadMarket_72 73 rfl ?_
      refine z_aload_n C 0 rfl 0 rfl dX11_loadMarket_73 74 rfl ?_
      refine y_getI C fX11_370 one_11 dX11_loadMarket_74 77 rfl ?_
      refine y_putI C fX11_234 one_11 ⟨rfl, rfl⟩ dX11_loadMarket_77 80 rfl ?_
      exact z_vret C R rfl rfl dX11_loadMarket_80
    · refine z_aload_n C 0 rfl 0 rfl dX11_loadMarket_54 55 rfl ?_
      refine y_getR C fX11_67 one_11 lay_11_32 dX11_loadMarket_55 58 rfl ?_
      refine z_iload_n C 1 rfl 1 rfl dX11_loadMarket_58 59 rfl ?_
      refine z_aload_n C 0 rfl 0 rfl dX11_loadMarket_59 60 rfl ?_
      refine y_getR C fX11_107 one_11 lay_11_52 dX11_loadMarket_60 63 rfl ?_
      refine z_iload_n C 1 rfl 1 rfl dX11_loadMarket_63 64 rfl ?_
      refine y_iald C lay_11_52.2 rfl dX11_loadMarket_64 65 rfl rfl (fun _ => ?_)
      refine y_iast C lay_11_32.2 rfl dX11_loadMarket_65 66 rfl rfl (fun _ => ?_)
      refine z_iinc (lv' := [(1, vi (x1 + 1)), (0, vr G 143)]) C (by decide) 1 rfl dX11_loadMarket_66 69 rfl rfl ?_
      refine z_goto C dX11_loadMarket_69 46 (by decide) ?_
      refine z_lv (lv' := [(0, vr G 143), (1, vi (x1 + 1))]) [1, 0] rfl ?_
      exact ih (x1 + 1) (up σ 163 (w32 x1) (σ 176 (w32 x1)))
set_option maxRecDepth 100000 in
set_option maxHeartbeats 4000000 in
theorem pX11_loadMarket_L6 {X : MX} {G : GG} (C : CX X G 2 cX11_loadMarket RX11) (R : RT X none) (hR : mR X = rmX11_loadMarket) (F : Nat)  : ∀ (n : Nat) (x1 : Int) (σ : St), ZZ X G 2 (QM X G vzV wzV (0, 0)) (0, 0) (gX11_loadMarket_L6 F n x1 σ) (w0 σ) 6 [(0, vr G 143), (1, vi x1)] [] := by
  intro n
  induction n with
  | zero =>
    intro _ _
    exact z_none
  | succ n ih =>
    intro x1 σ
    show ZZ X G 2 (QM X G vzV wzV (0, 0)) (0, 0) (if w32 x1 ≥ w32 (σ 143 4) then gX11_loadMarket_L46 F F 0 σ else gd (0 ≤ w32 x1 ∧ w32 x1 < 9) (gd (0 ≤ w32 x1 ∧ w32 x1 < 9) (gd (0 ≤ w32 x1 ∧ w32 x1 < 9) (gd (0 ≤ w32 x1 ∧ w32 x1 < 9) (gX11_loadMarket_L6 F n (x1 + 1) (up (up σ 164 (w32 x1) (σ 174 (w32 x1))) 165 (w32 x1) ((up σ 164 (w32 x1) (σ 174 (w32 x1))) 175 (w32 x1)))))))) (w0 σ) 6 [(0, vr G 143), (1, vi x1)] []
    refine z_iload_n C 1 rfl 1 rfl dX11_loadMarket_6 7 rfl ?_
    refine z_aload_n C 0 rfl 0 rfl dX11_loadMarket_7 8 rfl ?_
    refine y_getI C fX11_130 one_11 dX11_loadMarket_8 11 rfl ?_
    refine z_icmp_ge C dX11_loadMarket_11 44 (by decide) 14 rfl rfl rfl (fun _ => ?_) (fun _ => ?_)
    · refine z_iconst C dX11_loadMarket_44 45 rfl ?_
      refine z_istore_n (lv' := [(1, vi 0), (0, vr G 143)]) C 1 rfl (by decide) dX11_loadMarket_45 46 rfl rfl ?_
      refine z_lv (lv' := [(0, vr G 143), (1, vi 0)]) [1, 0] rfl ?_
      exact pX11_loadMarket_L46 C R hR F F 0 σ
    · refine z_aload_n C 0 rfl 0 rfl dX11_loadMarket_14 15 rfl ?_
      refine y_getR C fX11_70 one_11 lay_11_33 dX11_loadMarket_15 18 rfl ?_
      refine z_iload_n C 1 rfl 1 rfl dX11_loadMarket_18 19 rfl ?_
      refine z_aload_n C 0 rfl 0 rfl dX11_loadMarket_19 20 rfl ?_
      refine y_getR C fX11_101 one_11 lay_11_50 dX11_loadMarket_20 23 rfl ?_
      refine z_iload_n C 1 rfl 1 rfl dX11_loadMarket_23 24 rfl ?_
      refine y_iald C lay_11_50.2 rfl dX11_loadMarket_24 25 rfl rfl (fun _ => ?_)
      refine y_iast C lay_11_33.2 rfl dX11_loadMarket_25 26 rfl rfl (fun _ => ?_)
      refine z_aload_n C 0 rfl 0 rfl dX11_loadMarket_26 27 rfl ?_
      refine y_getR C fX11_73 one_11 lay_11_34 dX11_loadMarket_27 30 rfl ?_
      refine z_iload_n C 1 rfl 1 rfl dX11_loadMarket_30 31 rfl ?_
      refine z_aload_n C 0 rfl 0 rfl dX11_loadMarket_31 32 rfl ?_
      refine y_getR C fX11_104 one_11 lay_11_51 dX11_loadMarket_32 35 rfl ?_
      refine z_iload_n C 1 rfl 1 rfl dX11_loadMarket_35 36 rfl ?_
      refine y_iald C lay_11_51.2 rfl dX11_loadMarket_36 37 rfl rfl (fun _ => ?_)
      refine y_iast C lay_11_34.2 rfl dX11_loadMarket_37 38 rfl rfl (fun _ => ?_)
      refine z_iinc (lv' := [(1, vi (x1 + 1)), (0, vr G 143)]) C (by decide) 1 rfl dX11_loadMarket_38 41 rfl rfl ?_
      refine z_goto C dX11_loadMarket_41 6 (by decide) ?_
      refine z_lv (lv' := [(0, vr G 143), (1, vi (x1 + 1))]) [1, 0] rfl ?_
      exact ih (x1 + 1) (up (up σ 164 (w32 x1) (σ 174 (w32 x1))) 165 (w32 x1) ((up σ 164 (w32 x1) (σ 174 (w32 x1))) 175 (w32 x1)))
set_option maxRecDepth 100000 in
set_option maxHeartbeats 4000000 in
theorem tX11_loadMarket (l : Launch) (G : GG) (F : Nat) (σ : St) : Ctr l G yX11_loadMarket cX11_loadMarket 2 none rmX11_loadMarket [vr G 143] (w0 σ) vzV wzV (gX11_loadMarket F σ) := by
  refine ctr_of (by decide) (Nat.le_of_ble_eq_true rfl) mwX11_loadMarket.1 (fun X hl hR C R hnm => ?_)
  subst hl
  refine z_lv (lv' := [(0, vr G 143)]) [0] rfl ?_
  show ZZ X G 2 (QM X G vzV wzV (0, 0)) (0, 0) ((gX11_loadMain F σ).bind fun r1 => gX11_loadMarket_L6 F F 0 r1) (w0 σ) 0 [(0, vr G 143)] []
  refine z_aload_n C 0 rfl 0 rfl dX11_loadMarket_0 1 rfl ?_
  refine y_callVv C hR (tX11_loadMain (mL X) G F σ) ⟨mwX11_loadMain, mvX11_loadMain, lkX11_273⟩ one_11 rfl rfl (Nat.le_of_ble_eq_true rfl) (by unfold rmOK; decide) dX11_loadMarket_1 4 rfl (fun r1 _ => ?_)
  refine z_iconst C dX11_loadMarket_4 5 rfl ?_
  refine z_istore_n (lv' := [(1, vi 0), (0, vr G 143)]) C 1 rfl (by decide) dX11_loadMarket_5 6 rfl rfl ?_
  refine z_lv (lv' := [(0, vr G 143), (1, vi 0)]) [1, 0] rfl ?_
  exact pX11_loadMarket_L6 C R hR F F 0 r1
-- storeMarket
def gX11_storeMarket_L42 (F : Nat) : Nat → Int → St → Option (St)
  | 0, _, _ => none
  | n + 1, x1, σ => if w32 x1 ≥ w32 (σ 143 0) then some (up σ 143 53 (σ 143 35)) else gd (0 ≤ w32 x1 ∧ w32 x1 < 6) (gd (0 ≤ w32 x1 ∧ w32 x1 < 6) (gX11_storeMarket_L42 F n (x1 + 1) (up σ 176 (w32 x1) (σ 163 (w32 x1)))))
def gX11_storeMarket_L2 (F : Nat) : Nat → Int → St → Option (St)
  | 0, _, _ => none
  | n + 1, x1, σ => if w32 x1 ≥ w32 (σ 143 4) then gX11_storeMarket_L42 F F 0 σ else gd (0 ≤ w32 x1 ∧ w32 x1 < 9) (gd (0 ≤ w32 x1 ∧ w32 x1 < 9) (gd (0 ≤ w32 x1 ∧ w32 x1 < 9) (gd (0 ≤ w32 x1 ∧ w32 x1 < 9) (gX11_storeMarket_L2 F n (x1 + 1) (up (up σ 174 (w32 x1) (σ 164 (w32 x1))) 175 (w32 x1) ((up σ 174 (w32 x1) (σ 164 (w32 x1))) 165 (w32 x1)))))))
def gX11_storeMarket (F : Nat) (σ : St) : Option (St) := gX11_storeMarket_L2 F F 0 σ
def rmX11_storeMarket : Room := { frames := 0, cells := 0, slots := 0, locals := 0 }
set_option maxRecDepth 100000 in
set_option maxHeartbeats 4000000 in
theorem pX11_storeMarket_L42 {X : MX} {G : GG} (C : CX X G 2 cX11_storeMarket RX11) (R : RT X none) (hR : mR X = rmX11_storeMarket) (F : Nat)  : ∀ (n : Nat) (x1 : Int) (σ : St), ZZ X G 2 (QM X G vzV wzV (0, 0)) (0, 0) (gX11_storeMarket_L42 F n x1 σ) (w0 σ) 42 [(0, vr G 143), (1, vi x1)] [] := by
  intro n
  induction n with
  | zero =>
    intro _ _
    exact z_none
  | succ n ih =>
    intro x1 σ
    show ZZ X G 2 (QM X G vzV wzV (0, 0)) (0, 0) (if w32 x1 ≥ w32 (σ 143 0) then some (up σ 143 53 (σ 143 35)) else gd (0 ≤ w32 x1 ∧ w32 x1 < 6) (gd (0 ≤ w32 x1 ∧ w32 x1 < 6) (gX11_storeMarket_L42 F n (x1 + 1) (up σ 176 (w32 x1) (σ 163 (w32 x1)))))) (w0 σ) 42 [(0, vr G 143), (1, vi x1)] []
    refine z_iload_n C 1 rfl 1 rfl dX11_storeMarket_42 43 rfl ?_
    refine z_aload_n C 0 rfl 0 rfl dX11_storeMarket_43 44 rfl ?_
    refine y_getI C fX11_122 one_11 dX11_storeMarket_44 47 rfl ?_
    refine z_icmp_ge C dX11_storeMarket_47 68 (by decide) 50 rfl rfl rfl (fun _ => ?_) (fun _ => ?_)
    · refine z_aload_n C 0 rfl 0 rfl dX11_storeMarket_68 69 rfl ?_
      refine z_aload_n C 0 rfl 0 rfl dX11_storeMarket_69 70 rfl ?_
      refine y_getI C fX11_234 one_11 dX11_storeMarket_70 73 rfl ?_
      refine y_putI C fX11_370 one_11 ⟨rfl, rfl⟩ dX11_storeMarket_73 76 rfl ?_
      exact z_vret C R rfl rfl dX11_storeMarket_76
    · refine z_aload_n C 0 rfl 0 rfl dX11_storeMarket_50 51 rfl ?_
      refine y_getR C fX11_107 one_11 lay_11_52 dX11_storeMarket_51 54 rfl ?_
      refine z_iload_n C 1 rfl 1 rfl dX11_storeMarket_54 55 rfl ?_
      refine z_aload_n C 0 rfl 0 rfl dX11_storeMarket_55 56 rfl ?_
      refine y_getR C fX11_67 one_11 lay_11_32 dX11_storeMarket_56 59 rfl ?_
      refine z_iload_n C 1 rfl 1 rfl dX11_storeMarket_59 60 rfl ?_
      refine y_iald C lay_11_32.2 rfl dX11_storeMarket_60 61 rfl rfl (fun _ => ?_)
      refine y_iast C lay_11_52.2 rfl dX11_storeMarket_61 62 rfl rfl (fun _ => ?_)
      refine z_iinc (lv' := [(1, vi (x1 + 1)), (0, vr G 143)]) C (by decide) 1 rfl dX11_storeMarket_62 65 rfl rfl ?_
      refine z_goto C dX11_storeMarket_65 42 (by decide) ?_
      refine z_lv (lv' := [(0, vr G 143), (1, vi (x1 + 1))]) [1, 0] rfl ?_
      exact ih (x1 + 1) (up σ 176 (w32 x1) (σ 163 (w32 x1)))
set_option maxRecDepth 100000 in
set_option maxHeartbeats 4000000 in
theorem pX11_storeMarket_L2 {X : MX} {G : GG} (C : CX X G 2 cX11_storeMarket RX11) (R : RT X none) (hR : mR X = rmX11_storeMarket) (F : Nat)  : ∀ (n : Nat) (x1 : Int) (σ : St), ZZ X G 2 (QM X G vzV wzV (0, 0)) (0, 0) (gX11_storeMarket_L2 F n x1 σ) (w0 σ) 2 [(0, vr G 143), (1, vi x1)] [] := by
  intro n
  induction n with
  | zero =>
    intro _ _
    exact z_none
  | succ n ih =>
    intro x1 σ
    show ZZ X G 2 (QM X G vzV wzV (0, 0)) (0, 0) (if w32 x1 ≥ w32 (σ 143 4) then gX11_storeMarket_L42 F F 0 σ else gd (0 ≤ w32 x1 ∧ w32 x1 < 9) (gd (0 ≤ w32 x1 ∧ w32 x1 < 9) (gd (0 ≤ w32 x1 ∧ w32 x1 < 9) (gd (0 ≤ w32 x1 ∧ w32 x1 < 9) (gX11_storeMarket_L2 F n (x1 + 1) (up (up σ 174 (w32 x1) (σ 164 (w32 x1))) 175 (w32 x1) ((up σ 174 (w32 x1) (σ 164 (w32 x1))) 165 (w32 x1)))))))) (w0 σ) 2 [(0, vr G 143), (1, vi x1)] []
    refine z_iload_n C 1 rfl 1 rfl dX11_storeMarket_2 3 rfl ?_
    refine z_aload_n C 0 rfl 0 rfl dX11_storeMarket_3 4 rfl ?_
    refine y_getI C fX11_130 one_11 dX11_storeMarket_4 7 rfl ?_
    refine z_icmp_ge C dX11_storeMarket_7 40 (by decide) 10 rfl rfl rfl (fun _ => ?_) (fun _ => ?_)
    · refine z_iconst C dX11_storeMarket_40 41 rfl ?_
      refine z_istore_n (lv' := [(1, vi 0), (0, vr G 143)]) C 1 rfl (by decide) dX11_storeMarket_41 42 rfl rfl ?_
      refine z_lv (lv' := [(0, vr G 143), (1, vi 0)]) [1, 0] rfl ?_
      exact pX11_storeMarket_L42 C R hR F F 0 σ
    · refine z_aload_n C 0 rfl 0 rfl dX11_storeMarket_10 11 rfl ?_
      refine y_getR C fX11_101 one_11 lay_11_50 dX11_storeMarket_11 14 rfl ?_
      refine z_iload_n C 1 rfl 1 rfl dX11_storeMarket_14 15 rfl ?_
      refine z_aload_n C 0 rfl 0 rfl dX11_storeMarket_15 16 rfl ?_
      refine y_getR C fX11_70 one_11 lay_11_33 dX11_storeMarket_16 19 rfl ?_
      refine z_iload_n C 1 rfl 1 rfl dX11_storeMarket_19 20 rfl ?_
      refine y_iald C lay_11_33.2 rfl dX11_storeMarket_20 21 rfl rfl (fun _ => ?_)
      refine y_iast C lay_11_50.2 rfl dX11_storeMarket_21 22 rfl rfl (fun _ => ?_)
      refine z_aload_n C 0 rfl 0 rfl dX11_storeMarket_22 23 rfl ?_
      refine y_getR C fX11_104 one_11 lay_11_51 dX11_storeMarket_23 26 rfl ?_
      refine z_iload_n C 1 rfl 1 rfl dX11_storeMarket_26 27 rfl ?_
      refine z_aload_n C 0 rfl 0 rfl dX11_storeMarket_27 28 rfl ?_
      refine y_getR C fX11_73 one_11 lay_11_34 dX11_storeMarket_28 31 rfl ?_
      refine z_iload_n C 1 rfl 1 rfl dX11_storeMarket_31 32 rfl ?_
      refine y_iald C lay_11_34.2 rfl dX11_storeMarket_32 33 rfl rfl (fun _ => ?_)
      refine y_iast C lay_11_51.2 rfl dX11_storeMarket_33 34 rfl rfl (fun _ => ?_)
      refine z_iinc (lv' := [(1, vi (x1 + 1)), (0, vr G 143)]) C (by decide) 1 rfl dX11_storeMarket_34 37 rfl rfl ?_
      refine z_goto C dX11_storeMarket_37 2 (by decide) ?_
      refine z_lv (lv' := [(0, vr G 143), (1, vi (x1 + 1))]) [1, 0] rfl ?_
      exact ih (x1 + 1) (up (up σ 174 (w32 x1) (σ 164 (w32 x1))) 175 (w32 x1) ((up σ 174 (w32 x1) (σ 164 (w32 x1))) 165 (w32 x1)))
set_option maxRecDepth 100000 in
set_option maxHeartbeats 4000000 in
theorem tX11_storeMarket (l : Launch) (G : GG) (F : Nat) (σ : St) : Ctr l G yX11_storeMarket cX11_storeMarket 2 none rmX11_storeMarket [vr G 143] (w0 σ) vzV wzV (gX11_storeMarket F σ) := by
  refine ctr_of (by decide) (Nat.le_of_ble_eq_true rfl) mwX11_storeMarket.1 (fun X hl hR C R hnm => ?_)
  subst hl
  refine z_lv (lv' := [(0, vr G 143)]) [0] rfl ?_
  show ZZ X G 2 (QM X G vzV wzV (0, 0)) (0, 0) (gX11_storeMarket_L2 F F 0 σ) (w0 σ) 0 [(0, vr G 143)] []
  refine z_iconst C dX11_storeMarket_0 1 rfl ?_
  refine z_istore_n (lv' := [(1, vi 0), (0, vr G 143)]) C 1 rfl (by decide) dX11_storeMarket_1 2 rfl rfl ?_
  refine z_lv (lv' := [(0, vr G 143), (1, vi 0)]) [1, 0] rfl ?_
  exact pX11_storeMarket_L2 C R hR F F 0 σ
-- come
def gX11_come (F : Nat) (σ : St) (x1 : Int) (x2 : Int) : Option (Int × St) := (gX11_isGuest σ x1).bind fun r1 => if w32 r1 = 0 then some ((-1), σ) else (gX11_isRule σ x2).bind fun r2 => if w32 r2 ≠ 0 then gd (0 ≤ w32 x1 ∧ w32 x1 < 9) (if w32 (σ 173 (w32 x1)) ≠ 1 then (gX11_record F σ).bind fun r3 => (gX11_loadMarket F r3).bind fun r4 => (gX11_comes F r4 x1 x2).bind fun r5 => (gX11_storeMarket F r5.2).bind fun r6 => gd (0 ≤ w32 x1 ∧ w32 x1 < 9) (some (r5.1, up r6 173 (w32 x1) 1)) else some ((-2), σ)) else some ((-1), σ)
def rmX11_come : Room := { frames := 4, cells := 0, slots := 0, locals := 99 }
set_option maxRecDepth 100000 in
set_option maxHeartbeats 4000000 in
theorem tX11_come (l : Launch) (G : GG) (F : Nat) (σ : St) (x1 : Int) (x2 : Int) : Ctr l G yX11_come cX11_come 4 (some .int) rmX11_come [vr G 143, vi x1, vi x2] (w0 σ) vzIw wzW (gX11_come F σ x1 x2) := by
  refine ctr_of (by decide) (Nat.le_of_ble_eq_true rfl) mwX11_come.1 (fun X hl hR C R hnm => ?_)
  subst hl
  refine z_lv (lv' := [(0, vr G 143), (1, vi x1), (2, vi x2)]) [0, 1, 2] rfl ?_
  show ZZ X G 4 (QM X G vzIw wzW (0, 0)) (0, 0) ((gX11_isGuest σ x1).bind fun r1 => if w32 r1 = 0 then some ((-1), σ) else (gX11_isRule σ x2).bind fun r2 => if w32 r2 ≠ 0 then gd (0 ≤ w32 x1 ∧ w32 x1 < 9) (if w32 (σ 173 (w32 x1)) ≠ 1 then (gX11_record F σ).bind fun r3 => (gX11_loadMarket F r3).bind fun r4 => (gX11_comes F r4 x1 x2).bind fun r5 => (gX11_storeMarket F r5.2).bind fun r6 => gd (0 ≤ w32 x1 ∧ w32 x1 < 9) (some (r5.1, up r6 173 (w32 x1) 1)) else some ((-2), σ)) else some ((-1), σ)) (w0 σ) 0 [(0, vr G 143), (1, vi x1), (2, vi x2)] []
  refine z_aload_n C 0 rfl 0 rfl dX11_come_0 1 rfl ?_
  refine z_iload_n C 1 rfl 1 rfl dX11_come_1 2 rfl ?_
  refine y_callVI C hR (tX11_isGuest (mL X) G σ x1) ⟨mwX11_isGuest, mvX11_isGuest, lkX11_146⟩ one_11 rfl rfl (Nat.le_of_ble_eq_true rfl) (by unfold rmOK; decide) dX11_come_2 5 rfl (fun r1 _ => ?_)
  refine z_if_eq C dX11_come_5 16 (by decide) 8 rfl rfl (fun _ => ?_) (fun _ => ?_)
  · refine z_iconst C dX11_come_16 17 rfl ?_
    exact z_iret C R rfl rfl dX11_come_17
  · refine z_aload_n C 0 rfl 0 rfl dX11_come_8 9 rfl ?_
    refine z_iload_n C 2 rfl 2 rfl dX11_come_9 10 rfl ?_
    refine y_callVI C hR (tX11_isRule (mL X) G σ x2) ⟨mwX11_isRule, mvX11_isRule, lkX11_229⟩ one_11 rfl rfl (Nat.le_of_ble_eq_true rfl) (by unfold rmOK; decide) dX11_come_10 13 rfl (fun r2 _ => ?_)
    refine z_if_ne C dX11_come_13 18 (by decide) 16 rfl rfl (fun _ => ?_) (fun _ => ?_)
    · refine z_aload_n C 0 rfl 0 rfl dX11_come_18 19 rfl ?_
      refine y_getR C fX11_98 one_11 lay_11_49 dX11_come_19 22 rfl ?_
      refine z_iload_n C 1 rfl 1 rfl dX11_come_22 23 rfl ?_
      refine y_iald C lay_11_49.2 rfl dX11_come_23 24 rfl rfl (fun _ => ?_)
      refine z_iconst C dX11_come_24 25 rfl ?_
      refine z_icmp_ne C dX11_come_25 31 (by decide) 28 rfl rfl (w32_id (a := 1) (by decide)) (fun _ => ?_) (fun _ => ?_)
      · refine z_aload_n C 0 rfl 0 rfl dX11_come_31 32 rfl ?_
        refine y_callVv C hR (tX11_record (mL X) G F σ) ⟨mwX11_record, mvX11_record, lkX11_373⟩ one_11 rfl rfl (Nat.le_of_ble_eq_true rfl) (by unfold rmOK; decide) dX11_come_32 35 rfl (fun r3 _ => ?_)
        refine z_aload_n C 0 rfl 0 rfl dX11_come_35 36 rfl ?_
        refine y_callVv C hR (tX11_loadMarket (mL X) G F r3) ⟨mwX11_loadMarket, mvX11_loadMarket, lkX11_376⟩ one_11 rfl rfl (Nat.le_of_ble_eq_true rfl) (by unfold rmOK; decide) dX11_come_36 39 rfl (fun r4 _ => ?_)
        refine z_aload_n C 0 rfl 0 rfl dX11_come_39 40 rfl ?_
        refine z_iload_n C 1 rfl 1 rfl dX11_come_40 41 rfl ?_
        refine z_iload_n C 2 rfl 2 rfl dX11_come_41 42 rfl ?_
        refine y_callVIw C hR (tX11_comes (mL X) G F r4 x1 x2) ⟨mwX11_comes, mvX11_comes, lkX11_270⟩ one_11 rfl rfl (Nat.le_of_ble_eq_true rfl) (by unfold rmOK; decide) dX11_come_42 45 rfl (fun r5 _ => ?_)
        refine z_istore_n (lv' := [(3, vi r5.1), (0, vr G 143), (1, vi x1), (2, vi x2)]) C 3 rfl (by decide) dX11_come_45 46 rfl rfl ?_
        refine z_aload_n C 0 rfl 1 rfl dX11_come_46 47 rfl ?_
        refine y_callVv C hR (tX11_storeMarket (mL X) G F r5.2) ⟨mwX11_storeMarket, mvX11_storeMarket, lkX11_379⟩ one_11 rfl rfl (Nat.le_of_ble_eq_true rfl) (by unfold rmOK; decide) dX11_come_47 50 rfl (fun r6 _ => ?_)
        refine z_aload_n C 0 rfl 1 rfl dX11_come_50 51 rfl ?_
        refine y_getR C fX11_98 one_11 lay_11_49 dX11_come_51 54 rfl ?_
        refine z_iload_n C 1 rfl 2 rfl dX11_come_54 55 rfl ?_
        refine z_iconst C dX11_come_55 56 rfl ?_
        refine y_iast C lay_11_49.2 rfl dX11_come_56 57 rfl rfl (fun _ => ?_)
        refine z_iload_n C 3 rfl 0 rfl dX11_come_57 58 rfl ?_
        exact z_iret C R rfl rfl dX11_come_58
      · refine z_bipush C (by decide) dX11_come_28 30 rfl ?_
        exact z_iret C R rfl rfl dX11_come_30
    · refine z_iconst C dX11_come_16 17 rfl ?_
      exact z_iret C R rfl rfl dX11_come_17
-- let
def gX11_let (F : Nat) (σ : St) (x1 : Int) (x2 : Int) : Option (Int × St) := (gX11_isGuest σ x1).bind fun r1 => if w32 r1 = 0 then some ((-1), σ) else (gX11_isPost σ x2).bind fun r2 => if w32 r2 ≠ 0 then (gX11_loadMarket F σ).bind fun r3 => gd (0 ≤ w32 x1 ∧ w32 x1 < 9) (if w32 (r3 173 (w32 x1)) = 1 then some ((-2), r3) else gd (0 ≤ w32 ((6 * x1) + x2) ∧ w32 ((6 * x1) + x2) < 54) (if w32 (r3 162 (w32 ((6 * x1) + x2))) = 0 then some ((-2), r3) else (gX11_heldBy F r3 x2).bind fun r4 => gd (0 ≤ w32 x2 ∧ w32 x2 < 6) (if w32 r4 = w32 (r3 159 (w32 x2)) then some ((-2), r3) else gd (0 ≤ w32 x2 ∧ w32 x2 < 6) (gd (0 ≤ w32 x2 ∧ w32 x2 < 6) (if w32 (r3 163 (w32 x2)) ≠ w32 (r3 161 (w32 x2)) then (gX11_record F r3).bind fun r5 => gd (0 ≤ w32 x1 ∧ w32 x1 < 9) ((gX11_takes F (up (up r5 143 35 ((r5 143 35) + 1)) 165 (w32 x1) ((up r5 143 35 ((r5 143 35) + 1)) 143 35)) x1 x2).bind fun r6 => (gX11_storeMarket F r6.2).bind fun r7 => gd (0 ≤ w32 x1 ∧ w32 x1 < 9) (some (r6.1, up r7 173 (w32 x1) 1))) else some ((-2), r3)))))) else some ((-1), σ)
def rmX11_let : Room := { frames := 3, cells := 0, slots := 0, locals := 63 }
set_option maxRecDepth 100000 in
set_option maxHeartbeats 4000000 in
theorem tX11_let (l : Launch) (G : GG) (F : Nat) (σ : St) (x1 : Int) (x2 : Int) : Ctr l G yX11_let cX11_let 4 (some .int) rmX11_let [vr G 143, vi x1, vi x2] (w0 σ) vzIw wzW (gX11_let F σ x1 x2) := by
  refine ctr_of (by decide) (Nat.le_of_ble_eq_true rfl) mwX11_let.1 (fun X hl hR C R hnm => ?_)
  subst hl
  refine z_lv (lv' := [(0, vr G 143), (1, vi x1), (2, vi x2)]) [0, 1, 2] rfl ?_
  show ZZ X G 4 (QM X G vzIw wzW (0, 0)) (0, 0) ((gX11_isGuest σ x1).bind fun r1 => if w32 r1 = 0 then some ((-1), σ) else (gX11_isPost σ x2).bind fun r2 => if w32 r2 ≠ 0 then (gX11_loadMarket F σ).bind fun r3 => gd (0 ≤ w32 x1 ∧ w32 x1 < 9) (if w32 (r3 173 (w32 x1)) = 1 then some ((-2), r3) else gd (0 ≤ w32 ((6 * x1) + x2) ∧ w32 ((6 * x1) + x2) < 54) (if w32 (r3 162 (w32 ((6 * x1) + x2))) = 0 then some ((-2), r3) else (gX11_heldBy F r3 x2).bind fun r4 => gd (0 ≤ w32 x2 ∧ w32 x2 < 6) (if w32 r4 = w32 (r3 159 (w32 x2)) then some ((-2), r3) else gd (0 ≤ w32 x2 ∧ w32 x2 < 6) (gd (0 ≤ w32 x2 ∧ w32 x2 < 6) (if w32 (r3 163 (w32 x2)) ≠ w32 (r3 161 (w32 x2)) then (gX11_record F r3).bind fun r5 => gd (0 ≤ w32 x1 ∧ w32 x1 < 9) ((gX11_takes F (up (up r5 143 35 ((r5 143 35) + 1)) 165 (w32 x1) ((up r5 143 35 ((r5 143 35) + 1)) 143 35)) x1 x2).bind fun r6 => (gX11_storeMarket F r6.2).bind fun r7 => gd (0 ≤ w32 x1 ∧ w32 x1 < 9) (some (r6.1, up r7 173 (w32 x1) 1))) else some ((-2), r3)))))) else some ((-1), σ)) (w0 σ) 0 [(0, vr G 143), (1, vi x1), (2, vi x2)] []
  refine z_aload_n C 0 rfl 0 rfl dX11_let_0 1 rfl ?_
  refine z_iload_n C 1 rfl 1 rfl dX11_let_1 2 rfl ?_
  refine y_callVI C hR (tX11_isGuest (mL X) G σ x1) ⟨mwX11_isGuest, mvX11_isGuest, lkX11_146⟩ one_11 rfl rfl (Nat.le_of_ble_eq_true rfl) (by unfold rmOK; decide) dX11_let_2 5 rfl (fun r1 _ => ?_)
  refine z_if_eq C dX11_let_5 16 (by decide) 8 rfl rfl (fun _ => ?_) (fun _ => ?_)
  · refine z_iconst C dX11_let_16 17 rfl ?_
    exact z_iret C R rfl rfl dX11_let_17
  · refine z_aload_n C 0 rfl 0 rfl dX11_let_8 9 rfl ?_
    refine z_iload_n C 2 rfl 2 rfl dX11_let_9 10 rfl ?_
    refine y_callVI C hR (tX11_isPost (mL X) G σ x2) ⟨mwX11_isPost, mvX11_isPost, lkX11_150⟩ one_11 rfl rfl (Nat.le_of_ble_eq_true rfl) (by unfold rmOK; decide) dX11_let_10 13 rfl (fun r2 _ => ?_)
    refine z_if_ne C dX11_let_13 18 (by decide) 16 rfl rfl (fun _ => ?_) (fun _ => ?_)
    · refine z_aload_n C 0 rfl 0 rfl dX11_let_18 19 rfl ?_
      refine y_callVv C hR (tX11_loadMarket (mL X) G F σ) ⟨mwX11_loadMarket, mvX11_loadMarket, lkX11_376⟩ one_11 rfl rfl (Nat.le_of_ble_eq_true rfl) (by unfold rmOK; decide) dX11_let_19 22 rfl (fun r3 _ => ?_)
      refine z_aload_n C 0 rfl 0 rfl dX11_let_22 23 rfl ?_
      refine y_getR C fX11_98 one_11 lay_11_49 dX11_let_23 26 rfl ?_
      refine z_iload_n C 1 rfl 1 rfl dX11_let_26 27 rfl ?_
      refine y_iald C lay_11_49.2 rfl dX11_let_27 28 rfl rfl (fun _ => ?_)
      refine z_iconst C dX11_let_28 29 rfl ?_
      refine z_icmp_eq C dX11_let_29 75 (by decide) 32 rfl rfl (w32_id (a := 1) (by decide)) (fun _ => ?_) (fun _ => ?_)
      · refine z_bipush C (by decide) dX11_let_75 77 rfl ?_
        exact z_iret C R rfl rfl dX11_let_77
      · refine z_aload_n C 0 rfl 0 rfl dX11_let_32 33 rfl ?_
        refine y_getR C fX11_64 one_11 lay_11_31 dX11_let_33 36 rfl ?_
        refine z_bipush C (by decide) dX11_let_36 38 rfl ?_
        refine z_iload_n C 1 rfl 1 rfl dX11_let_38 39 rfl ?_
        refine z_imul C dX11_let_39 40 rfl ?_
        refine z_iload_n C 2 rfl 2 rfl dX11_let_40 41 rfl ?_
        refine z_iadd C dX11_let_41 42 rfl ?_
        refine y_iald C lay_11_31.2 rfl dX11_let_42 43 rfl rfl (fun _ => ?_)
        refine z_if_eq C dX11_let_43 75 (by decide) 46 rfl rfl (fun _ => ?_) (fun _ => ?_)
        · refine z_bipush C (by decide) dX11_let_75 77 rfl ?_
          exact z_iret C R rfl rfl dX11_let_77
        · refine z_aload_n C 0 rfl 0 rfl dX11_let_46 47 rfl ?_
          refine z_iload_n C 2 rfl 2 rfl dX11_let_47 48 rfl ?_
          refine y_callVI C hR (tX11_heldBy (mL X) G F r3 x2) ⟨mwX11_heldBy, mvX11_heldBy, lkX11_249⟩ one_11 rfl rfl (Nat.le_of_ble_eq_true rfl) (by unfold rmOK; decide) dX11_let_48 51 rfl (fun r4 _ => ?_)
          refine z_aload_n C 0 rfl 0 rfl dX11_let_51 52 rfl ?_
          refine y_getR C fX11_55 one_11 lay_11_28 dX11_let_52 55 rfl ?_
          refine z_iload_n C 2 rfl 2 rfl dX11_let_55 56 rfl ?_
          refine y_iald C lay_11_28.2 rfl dX11_let_56 57 rfl rfl (fun _ => ?_)
          refine z_icmp_eq C dX11_let_57 75 (by decide) 60 rfl rfl rfl (fun _ => ?_) (fun _ => ?_)
          · refine z_bipush C (by decide) dX11_let_75 77 rfl ?_
            exact z_iret C R rfl rfl dX11_let_77
          · refine z_aload_n C 0 rfl 0 rfl dX11_let_60 61 rfl ?_
            refine y_getR C fX11_67 one_11 lay_11_32 dX11_let_61 64 rfl ?_
            refine z_iload_n C 2 rfl 2 rfl dX11_let_64 65 rfl ?_
            refine y_iald C lay_11_32.2 rfl dX11_let_65 66 rfl rfl (fun _ => ?_)
            refine z_aload_n C 0 rfl 0 rfl dX11_let_66 67 rfl ?_
            refine y_getR C fX11_61 one_11 lay_11_30 dX11_let_67 70 rfl ?_
            refine z_iload_n C 2 rfl 2 rfl dX11_let_70 71 rfl ?_
            refine y_iald C lay_11_30.2 rfl dX11_let_71 72 rfl rfl (fun _ => ?_)
            refine z_icmp_ne C dX11_let_72 78 (by decide) 75 rfl rfl rfl (fun _ => ?_) (fun _ => ?_)
            · refine z_aload_n C 0 rfl 0 rfl dX11_let_78 79 rfl ?_
              refine y_callVv C hR (tX11_record (mL X) G F r3) ⟨mwX11_record, mvX11_record, lkX11_373⟩ one_11 rfl rfl (Nat.le_of_ble_eq_true rfl) (by unfold rmOK; decide) dX11_let_79 82 rfl (fun r5 _ => ?_)
              refine z_aload_n C 0 rfl 0 rfl dX11_let_82 83 rfl ?_
              refine z_dup C rfl dX11_let_83 84 rfl ?_
              refine y_getI C fX11_234 one_11 dX11_let_84 87 rfl ?_
              refine z_iconst C dX11_let_87 88 rfl ?_
              refine z_iadd C dX11_let_88 89 rfl ?_
              refine y_putI C fX11_234 one_11 ⟨rfl, rfl⟩ dX11_let_89 92 rfl ?_
              refine z_aload_n C 0 rfl 0 rfl dX11_let_92 93 rfl ?_
              refine y_getR C fX11_73 one_11 lay_11_34 dX11_let_93 96 rfl ?_
              refine z_iload_n C 1 rfl 1 rfl dX11_let_96 97 rfl ?_
              refine z_aload_n C 0 rfl 0 rfl dX11_let_97 98 rfl ?_
              refine y_getI C fX11_234 one_11 dX11_let_98 101 rfl ?_
              refine y_iast C lay_11_34.2 rfl dX11_let_101 102 rfl rfl (fun _ => ?_)
              refine z_aload_n C 0 rfl 0 rfl dX11_let_102 103 rfl ?_
              refine z_iload_n C 1 rfl 1 rfl dX11_let_103 104 rfl ?_
              refine z_iload_n C 2 rfl 2 rfl dX11_let_104 105 rfl ?_
              refine y_callVIw C hR (tX11_takes (mL X) G F (up (up r5 143 35 ((r5 143 35) + 1)) 165 (w32 x1) ((up r5 143 35 ((r5 143 35) + 1)) 143 35)) x1 x2) ⟨mwX11_takes, mvX11_takes, lkX11_267⟩ one_11 rfl rfl (Nat.le_of_ble_eq_true rfl) (by unfold rmOK; decide) dX11_let_105 108 rfl (fun r6 _ => ?_)
              refine z_istore_n (lv' := [(3, vi r6.1), (0, vr G 143), (1, vi x1), (2, vi x2)]) C 3 rfl (by decide) dX11_let_108 109 rfl rfl ?_
              refine z_aload_n C 0 rfl 1 rfl dX11_let_109 110 rfl ?_
              refine y_callVv C hR (tX11_storeMarket (mL X) G F r6.2) ⟨mwX11_storeMarket, mvX11_storeMarket, lkX11_379⟩ one_11 rfl rfl (Nat.le_of_ble_eq_true rfl) (by unfold rmOK; decide) dX11_let_110 113 rfl (fun r7 _ => ?_)
              refine z_aload_n C 0 rfl 1 rfl dX11_let_113 114 rfl ?_
              refine y_getR C fX11_98 one_11 lay_11_49 dX11_let_114 117 rfl ?_
              refine z_iload_n C 1 rfl 2 rfl dX11_let_117 118 rfl ?_
              refine z_iconst C dX11_let_118 119 rfl ?_
              refine y_iast C lay_11_49.2 rfl dX11_let_119 120 rfl rfl (fun _ => ?_)
              refine z_iload_n C 3 rfl 0 rfl dX11_let_120 121 rfl ?_
              exact z_iret C R rfl rfl dX11_let_121
            · refine z_bipush C (by decide) dX11_let_75 77 rfl ?_
              exact z_iret C R rfl rfl dX11_let_77
    · refine z_iconst C dX11_let_16 17 rfl ?_
      exact z_iret C R rfl rfl dX11_let_17
-- leave
def gX11_leave (F : Nat) (σ : St) (x1 : Int) : Option (Int × St) := (gX11_isGuest σ x1).bind fun r1 => if w32 r1 ≠ 0 then gd (0 ≤ w32 x1 ∧ w32 x1 < 9) (if w32 (σ 174 (w32 x1)) ≠ (-4) then (gX11_record F σ).bind fun r2 => gd (0 ≤ w32 x1 ∧ w32 x1 < 9) (some (σ 174 (w32 x1), up r2 174 (w32 x1) ((-4)))) else some ((-2), σ)) else some ((-1), σ)
def rmX11_leave : Room := { frames := 2, cells := 0, slots := 0, locals := 46 }
set_option maxRecDepth 100000 in
set_option maxHeartbeats 4000000 in
theorem tX11_leave (l : Launch) (G : GG) (F : Nat) (σ : St) (x1 : Int) : Ctr l G yX11_leave cX11_leave 3 (some .int) rmX11_leave [vr G 143, vi x1] (w0 σ) vzIw wzW (gX11_leave F σ x1) := by
  refine ctr_of (by decide) (Nat.le_of_ble_eq_true rfl) mwX11_leave.1 (fun X hl hR C R hnm => ?_)
  subst hl
  refine z_lv (lv' := [(0, vr G 143), (1, vi x1)]) [0, 1] rfl ?_
  show ZZ X G 3 (QM X G vzIw wzW (0, 0)) (0, 0) ((gX11_isGuest σ x1).bind fun r1 => if w32 r1 ≠ 0 then gd (0 ≤ w32 x1 ∧ w32 x1 < 9) (if w32 (σ 174 (w32 x1)) ≠ (-4) then (gX11_record F σ).bind fun r2 => gd (0 ≤ w32 x1 ∧ w32 x1 < 9) (some (σ 174 (w32 x1), up r2 174 (w32 x1) ((-4)))) else some ((-2), σ)) else some ((-1), σ)) (w0 σ) 0 [(0, vr G 143), (1, vi x1)] []
  refine z_aload_n C 0 rfl 0 rfl dX11_leave_0 1 rfl ?_
  refine z_iload_n C 1 rfl 1 rfl dX11_leave_1 2 rfl ?_
  refine y_callVI C hR (tX11_isGuest (mL X) G σ x1) ⟨mwX11_isGuest, mvX11_isGuest, lkX11_146⟩ one_11 rfl rfl (Nat.le_of_ble_eq_true rfl) (by unfold rmOK; decide) dX11_leave_2 5 rfl (fun r1 _ => ?_)
  refine z_if_ne C dX11_leave_5 10 (by decide) 8 rfl rfl (fun _ => ?_) (fun _ => ?_)
  · refine z_aload_n C 0 rfl 0 rfl dX11_leave_10 11 rfl ?_
    refine y_getR C fX11_101 one_11 lay_11_50 dX11_leave_11 14 rfl ?_
    refine z_iload_n C 1 rfl 1 rfl dX11_leave_14 15 rfl ?_
    refine y_iald C lay_11_50.2 rfl dX11_leave_15 16 rfl rfl (fun _ => ?_)
    refine z_istore_n (lv' := [(2, vi (σ 174 (w32 x1))), (0, vr G 143), (1, vi x1)]) C 2 rfl (by decide) dX11_leave_16 17 rfl rfl ?_
    refine z_iload_n C 2 rfl 0 rfl dX11_leave_17 18 rfl ?_
    refine z_bipush C (by decide) dX11_leave_18 20 rfl ?_
    refine z_icmp_ne C dX11_leave_20 26 (by decide) 23 rfl rfl (w32_id (a := (-4)) (by decide)) (fun _ => ?_) (fun _ => ?_)
    · refine z_aload_n C 0 rfl 1 rfl dX11_leave_26 27 rfl ?_
      refine y_callVv C hR (tX11_record (mL X) G F σ) ⟨mwX11_record, mvX11_record, lkX11_373⟩ one_11 rfl rfl (Nat.le_of_ble_eq_true rfl) (by unfold rmOK; decide) dX11_leave_27 30 rfl (fun r2 _ => ?_)
      refine z_aload_n C 0 rfl 1 rfl dX11_leave_30 31 rfl ?_
      refine y_getR C fX11_101 one_11 lay_11_50 dX11_leave_31 34 rfl ?_
      refine z_iload_n C 1 rfl 2 rfl dX11_leave_34 35 rfl ?_
      refine z_bipush C (by decide) dX11_leave_35 37 rfl ?_
      refine y_iast C lay_11_50.2 rfl dX11_leave_37 38 rfl rfl (fun _ => ?_)
      refine z_iload_n C 2 rfl 0 rfl dX11_leave_38 39 rfl ?_
      exact z_iret C R rfl rfl dX11_leave_39
    · refine z_bipush C (by decide) dX11_leave_23 25 rfl ?_
      exact z_iret C R rfl rfl dX11_leave_25
  · refine z_iconst C dX11_leave_8 9 rfl ?_
    exact z_iret C R rfl rfl dX11_leave_9
-- undo
def gX11_undo_L99 (F : Nat) : Nat → Int → Int → St → Option (Int × St)
  | 0, _, _, _ => none
  | n + 1, x1, x2, σ => if w32 x2 ≥ 6 then gd (0 ≤ w32 (x1 + 33) ∧ w32 (x1 + 33) < 1200) (some ((up σ 143 53 (σ 177 (w32 (x1 + 33)))) 143 54, up σ 143 53 (σ 177 (w32 (x1 + 33))))) else gd (0 ≤ w32 ((x1 + 27) + x2) ∧ w32 ((x1 + 27) + x2) < 1200) (gd (0 ≤ w32 x2 ∧ w32 x2 < 6) (gX11_undo_L99 F n x1 (x2 + 1) (up σ 176 (w32 x2) (σ 177 (w32 ((x1 + 27) + x2))))))
def gX11_undo_L30 (F : Nat) : Nat → Int → Int → St → Option (Int × St)
  | 0, _, _, _ => none
  | n + 1, x1, x2, σ => gd (0 ≤ w32 (x1 + 34) ∧ w32 (x1 + 34) < 1200) (if w32 x2 ≥ w32 (σ 177 (w32 (x1 + 34))) then gX11_undo_L99 F F x1 0 σ else gd (0 ≤ w32 (x1 + x2) ∧ w32 (x1 + x2) < 1200) (gd (0 ≤ w32 x2 ∧ w32 x2 < 9) (gd (0 ≤ w32 ((x1 + 9) + x2) ∧ w32 ((x1 + 9) + x2) < 1200) (gd (0 ≤ w32 x2 ∧ w32 x2 < 9) (gd (0 ≤ w32 ((x1 + 18) + x2) ∧ w32 ((x1 + 18) + x2) < 1200) (gd (0 ≤ w32 x2 ∧ w32 x2 < 9) (gX11_undo_L30 F n x1 (x2 + 1) (up (up (up σ 173 (w32 x2) (σ 177 (w32 (x1 + x2)))) 174 (w32 x2) ((up σ 173 (w32 x2) (σ 177 (w32 (x1 + x2)))) 177 (w32 ((x1 + 9) + x2)))) 175 (w32 x2) ((up (up σ 173 (w32 x2) (σ 177 (w32 (x1 + x2)))) 174 (w32 x2) ((up σ 173 (w32 x2) (σ 177 (w32 (x1 + x2)))) 177 (w32 ((x1 + 9) + x2)))) 177 (w32 ((x1 + 18) + x2)))))))))))
def gX11_undo (F : Nat) (σ : St) : Option (Int × St) := if w32 (σ 143 54) ≠ 0 then gX11_undo_L30 F F (40 * ((up σ 143 54 ((σ 143 54) - 1)) 143 54)) 0 (up σ 143 54 ((σ 143 54) - 1)) else some ((-4), σ)
def rmX11_undo : Room := { frames := 0, cells := 0, slots := 0, locals := 0 }
set_option maxRecDepth 100000 in
set_option maxHeartbeats 4000000 in
theorem pX11_undo_L99 {X : MX} {G : GG} (C : CX X G 3 cX11_undo RX11) (R : RT X (some .int)) (hR : mR X = rmX11_undo) (F : Nat)  : ∀ (n : Nat) (x1 : Int) (x2 : Int) (σ : St), ZZ X G 3 (QM X G vzIw wzW (0, 0)) (0, 0) (gX11_undo_L99 F n x1 x2 σ) (w0 σ) 99 [(0, vr G 143), (1, vi x1), (2, vi x2)] [] := by
  intro n
  induction n with
  | zero =>
    intro _ _ _
    exact z_none
  | succ n ih =>
    intro x1 x2 σ
    show ZZ X G 3 (QM X G vzIw wzW (0, 0)) (0, 0) (if w32 x2 ≥ 6 then gd (0 ≤ w32 (x1 + 33) ∧ w32 (x1 + 33) < 1200) (some ((up σ 143 53 (σ 177 (w32 (x1 + 33)))) 143 54, up σ 143 53 (σ 177 (w32 (x1 + 33))))) else gd (0 ≤ w32 ((x1 + 27) + x2) ∧ w32 ((x1 + 27) + x2) < 1200) (gd (0 ≤ w32 x2 ∧ w32 x2 < 6) (gX11_undo_L99 F n x1 (x2 + 1) (up σ 176 (w32 x2) (σ 177 (w32 ((x1 + 27) + x2))))))) (w0 σ) 99 [(0, vr G 143), (1, vi x1), (2, vi x2)] []
    refine z_iload_n C 2 rfl 2 rfl dX11_undo_99 100 rfl ?_
    refine z_bipush C (by decide) dX11_undo_100 102 rfl ?_
    refine z_icmp_ge C dX11_undo_102 128 (by decide) 105 rfl rfl (w32_id (a := 6) (by decide)) (fun _ => ?_) (fun _ => ?_)
    · refine z_aload_n C 0 rfl 0 rfl dX11_undo_128 129 rfl ?_
      refine z_aload_n C 0 rfl 0 rfl dX11_undo_129 130 rfl ?_
      refine y_getR C fX11_110 one_11 lay_11_55 dX11_undo_130 133 rfl ?_
      refine z_iload_n C 1 rfl 1 rfl dX11_undo_133 134 rfl ?_
      refine z_bipush C (by decide) dX11_undo_134 136 rfl ?_
      refine z_iadd C dX11_undo_136 137 rfl ?_
      refine y_iald C lay_11_55.2 rfl dX11_undo_137 138 rfl rfl (fun _ => ?_)
      refine y_putI C fX11_370 one_11 ⟨rfl, rfl⟩ dX11_undo_138 141 rfl ?_
      refine z_aload_n C 0 rfl 0 rfl dX11_undo_141 142 rfl ?_
      refine y_getI C fX11_367 one_11 dX11_undo_142 145 rfl ?_
      exact z_iret C R rfl rfl dX11_undo_145
    · refine z_aload_n C 0 rfl 0 rfl dX11_undo_105 106 rfl ?_
      refine y_getR C fX11_107 one_11 lay_11_52 dX11_undo_106 109 rfl ?_
      refine z_iload_n C 2 rfl 2 rfl dX11_undo_109 110 rfl ?_
      refine z_aload_n C 0 rfl 0 rfl dX11_undo_110 111 rfl ?_
      refine y_getR C fX11_110 one_11 lay_11_55 dX11_undo_111 114 rfl ?_
      refine z_iload_n C 1 rfl 1 rfl dX11_undo_114 115 rfl ?_
      refine z_bipush C (by decide) dX11_undo_115 117 rfl ?_
      refine z_iadd C dX11_undo_117 118 rfl ?_
      refine z_iload_n C 2 rfl 2 rfl dX11_undo_118 119 rfl ?_
      refine z_iadd C dX11_undo_119 120 rfl ?_
      refine y_iald C lay_11_55.2 rfl dX11_undo_120 121 rfl rfl (fun _ => ?_)
      refine y_iast C lay_11_52.2 rfl dX11_undo_121 122 rfl rfl (fun _ => ?_)
      refine z_iinc (lv' := [(2, vi (x2 + 1)), (0, vr G 143), (1, vi x1)]) C (by decide) 2 rfl dX11_undo_122 125 rfl rfl ?_
      refine z_goto C dX11_undo_125 99 (by decide) ?_
      refine z_lv (lv' := [(0, vr G 143), (1, vi x1), (2, vi (x2 + 1))]) [1, 2, 0] rfl ?_
      exact ih x1 (x2 + 1) (up σ 176 (w32 x2) (σ 177 (w32 ((x1 + 27) + x2))))
set_option maxRecDepth 100000 in
set_option maxHeartbeats 4000000 in
theorem pX11_undo_L30 {X : MX} {G : GG} (C : CX X G 3 cX11_undo RX11) (R : RT X (some .int)) (hR : mR X = rmX11_undo) (F : Nat)  : ∀ (n : Nat) (x1 : Int) (x2 : Int) (σ : St), ZZ X G 3 (QM X G vzIw wzW (0, 0)) (0, 0) (gX11_undo_L30 F n x1 x2 σ) (w0 σ) 30 [(0, vr G 143), (1, vi x1), (2, vi x2)] [] := by
  intro n
  induction n with
  | zero =>
    intro _ _ _
    exact z_none
  | succ n ih =>
    intro x1 x2 σ
    show ZZ X G 3 (QM X G vzIw wzW (0, 0)) (0, 0) (gd (0 ≤ w32 (x1 + 34) ∧ w32 (x1 + 34) < 1200) (if w32 x2 ≥ w32 (σ 177 (w32 (x1 + 34))) then gX11_undo_L99 F F x1 0 σ else gd (0 ≤ w32 (x1 + x2) ∧ w32 (x1 + x2) < 1200) (gd (0 ≤ w32 x2 ∧ w32 x2 < 9) (gd (0 ≤ w32 ((x1 + 9) + x2) ∧ w32 ((x1 + 9) + x2) < 1200) (gd (0 ≤ w32 x2 ∧ w32 x2 < 9) (gd (0 ≤ w32 ((x1 + 18) + x2) ∧ w32 ((x1 + 18) + x2) < 1200) (gd (0 ≤ w32 x2 ∧ w32 x2 < 9) (gX11_undo_L30 F n x1 (x2 + 1) (up (up (up σ 173 (w32 x2) (σ 177 (w32 (x1 + x2)))) 174 (w32 x2) ((up σ 173 (w32 x2) (σ 177 (w32 (x1 + x2)))) 177 (w32 ((x1 + 9) + x2)))) 175 (w32 x2) ((up (up σ 173 (w32 x2) (σ 177 (w32 (x1 + x2)))) 174 (w32 x2) ((up σ 173 (w32 x2) (σ 177 (w32 (x1 + x2)))) 177 (w32 ((x1 + 9) + x2)))) 177 (w32 ((x1 + 18) + x2)))))))))))) (w0 σ) 30 [(0, vr G 143), (1, vi x1), (2, vi x2)] []
    refine z_iload_n C 2 rfl 2 rfl dX11_undo_30 31 rfl ?_
    refine z_aload_n C 0 rfl 0 rfl dX11_undo_31 32 rfl ?_
    refine y_getR C fX11_110 one_11 lay_11_55 dX11_undo_32 35 rfl ?_
    refine z_iload_n C 1 rfl 1 rfl dX11_undo_35 36 rfl ?_
    refine z_bipush C (by decide) dX11_undo_36 38 rfl ?_
    refine z_iadd C dX11_undo_38 39 rfl ?_
    refine y_iald C lay_11_55.2 rfl dX11_undo_39 40 rfl rfl (fun _ => ?_)
    refine z_icmp_ge C dX11_undo_40 97 (by decide) 43 rfl rfl rfl (fun _ => ?_) (fun _ => ?_)
    · refine z_iconst C dX11_undo_97 98 rfl ?_
      refine z_istore_n (lv' := [(2, vi 0), (0, vr G 143), (1, vi x1)]) C 2 rfl (by decide) dX11_undo_98 99 rfl rfl ?_
      refine z_lv (lv' := [(0, vr G 143), (1, vi x1), (2, vi 0)]) [1, 2, 0] rfl ?_
      exact pX11_undo_L99 C R hR F F x1 0 σ
    · refine z_aload_n C 0 rfl 0 rfl dX11_undo_43 44 rfl ?_
      refine y_getR C fX11_98 one_11 lay_11_49 dX11_undo_44 47 rfl ?_
      refine z_iload_n C 2 rfl 2 rfl dX11_undo_47 48 rfl ?_
      refine z_aload_n C 0 rfl 0 rfl dX11_undo_48 49 rfl ?_
      refine y_getR C fX11_110 one_11 lay_11_55 dX11_undo_49 52 rfl ?_
      refine z_iload_n C 1 rfl 1 rfl dX11_undo_52 53 rfl ?_
      refine z_iload_n C 2 rfl 2 rfl dX11_undo_53 54 rfl ?_
      refine z_iadd C dX11_undo_54 55 rfl ?_
      refine y_iald C lay_11_55.2 rfl dX11_undo_55 56 rfl rfl (fun _ => ?_)
      refine y_iast C lay_11_49.2 rfl dX11_undo_56 57 rfl rfl (fun _ => ?_)
      refine z_aload_n C 0 rfl 0 rfl dX11_undo_57 58 rfl ?_
      refine y_getR C fX11_101 one_11 lay_11_50 dX11_undo_58 61 rfl ?_
      refine z_iload_n C 2 rfl 2 rfl dX11_undo_61 62 rfl ?_
      refine z_aload_n C 0 rfl 0 rfl dX11_undo_62 63 rfl ?_
      refine y_getR C fX11_110 one_11 lay_11_55 dX11_undo_63 66 rfl ?_
      refine z_iload_n C 1 rfl 1 rfl dX11_undo_66 67 rfl ?_
      refine z_bipush C (by decide) dX11_undo_67 69 rfl ?_
      refine z_iadd C dX11_undo_69 70 rfl ?_
      refine z_iload_n C 2 rfl 2 rfl dX11_undo_70 71 rfl ?_
      refine z_iadd C dX11_undo_71 72 rfl ?_
      refine y_iald C lay_11_55.2 rfl dX11_undo_72 73 rfl rfl (fun _ => ?_)
      refine y_iast C lay_11_50.2 rfl dX11_undo_73 74 rfl rfl (fun _ => ?_)
      refine z_aload_n C 0 rfl 0 rfl dX11_undo_74 75 rfl ?_
      refine y_getR C fX11_104 one_11 lay_11_51 dX11_undo_75 78 rfl ?_
      refine z_iload_n C 2 rfl 2 rfl dX11_undo_78 79 rfl ?_
      refine z_aload_n C 0 rfl 0 rfl dX11_undo_79 80 rfl ?_
      refine y_getR C fX11_110 one_11 lay_11_55 dX11_undo_80 83 rfl ?_
      refine z_iload_n C 1 rfl 1 rfl dX11_undo_83 84 rfl ?_
      refine z_bipush C (by decide) dX11_undo_84 86 rfl ?_
      refine z_iadd C dX11_undo_86 87 rfl ?_
      refine z_iload_n C 2 rfl 2 rfl dX11_undo_87 88 rfl ?_
      refine z_iadd C dX11_undo_88 89 rfl ?_
      refine y_iald C lay_11_55.2 rfl dX11_undo_89 90 rfl rfl (fun _ => ?_)
      refine y_iast C lay_11_51.2 rfl dX11_undo_90 91 rfl rfl (fun _ => ?_)
      refine z_iinc (lv' := [(2, vi (x2 + 1)), (0, vr G 143), (1, vi x1)]) C (by decide) 2 rfl dX11_undo_91 94 rfl rfl ?_
      refine z_goto C dX11_undo_94 30 (by decide) ?_
      refine z_lv (lv' := [(0, vr G 143), (1, vi x1), (2, vi (x2 + 1))]) [1, 2, 0] rfl ?_
      exact ih x1 (x2 + 1) (up (up (up σ 173 (w32 x2) (σ 177 (w32 (x1 + x2)))) 174 (w32 x2) ((up σ 173 (w32 x2) (σ 177 (w32 (x1 + x2)))) 177 (w32 ((x1 + 9) + x2)))) 175 (w32 x2) ((up (up σ 173 (w32 x2) (σ 177 (w32 (x1 + x2)))) 174 (w32 x2) ((up σ 173 (w32 x2) (σ 177 (w32 (x1 + x2)))) 177 (w32 ((x1 + 9) + x2)))) 177 (w32 ((x1 + 18) + x2))))
set_option maxRecDepth 100000 in
set_option maxHeartbeats 4000000 in
theorem tX11_undo (l : Launch) (G : GG) (F : Nat) (σ : St) : Ctr l G yX11_undo cX11_undo 3 (some .int) rmX11_undo [vr G 143] (w0 σ) vzIw wzW (gX11_undo F σ) := by
  refine ctr_of (by decide) (Nat.le_of_ble_eq_true rfl) mwX11_undo.1 (fun X hl hR C R hnm => ?_)
  subst hl
  refine z_lv (lv' := [(0, vr G 143)]) [0] rfl ?_
  show ZZ X G 3 (QM X G vzIw wzW (0, 0)) (0, 0) (if w32 (σ 143 54) ≠ 0 then gX11_undo_L30 F F (40 * ((up σ 143 54 ((σ 143 54) - 1)) 143 54)) 0 (up σ 143 54 ((σ 143 54) - 1)) else some ((-4), σ)) (w0 σ) 0 [(0, vr G 143)] []
  refine z_aload_n C 0 rfl 0 rfl dX11_undo_0 1 rfl ?_
  refine y_getI C fX11_367 one_11 dX11_undo_1 4 rfl ?_
  refine z_if_ne C dX11_undo_4 10 (by decide) 7 rfl rfl (fun _ => ?_) (fun _ => ?_)
  · refine z_aload_n C 0 rfl 0 rfl dX11_undo_10 11 rfl ?_
    refine z_dup C rfl dX11_undo_11 12 rfl ?_
    refine y_getI C fX11_367 one_11 dX11_undo_12 15 rfl ?_
    refine z_iconst C dX11_undo_15 16 rfl ?_
    refine z_isub C dX11_undo_16 17 rfl ?_
    refine y_putI C fX11_367 one_11 ⟨rfl, rfl⟩ dX11_undo_17 20 rfl ?_
    refine z_bipush C (by decide) dX11_undo_20 22 rfl ?_
    refine z_aload_n C 0 rfl 0 rfl dX11_undo_22 23 rfl ?_
    refine y_getI C fX11_367 one_11 dX11_undo_23 26 rfl ?_
    refine z_imul C dX11_undo_26 27 rfl ?_
    refine z_istore_n (lv' := [(1, vi (40 * ((up σ 143 54 ((σ 143 54) - 1)) 143 54))), (0, vr G 143)]) C 1 rfl (by decide) dX11_undo_27 28 rfl rfl ?_
    refine z_iconst C dX11_undo_28 29 rfl ?_
    refine z_istore_n (lv' := [(2, vi 0), (1, vi (40 * ((up σ 143 54 ((σ 143 54) - 1)) 143 54))), (0, vr G 143)]) C 2 rfl (by decide) dX11_undo_29 30 rfl rfl ?_
    refine z_lv (lv' := [(0, vr G 143), (1, vi (40 * ((up σ 143 54 ((σ 143 54) - 1)) 143 54))), (2, vi 0)]) [2, 1, 0] rfl ?_
    exact pX11_undo_L30 C R hR F F (40 * ((up σ 143 54 ((σ 143 54) - 1)) 143 54)) 0 (up σ 143 54 ((σ 143 54) - 1))
  · refine z_bipush C (by decide) dX11_undo_7 9 rfl ?_
    exact z_iret C R rfl rfl dX11_undo_9
