-- overOrders
def gX10_overOrders_L70 (F : Nat) (rc : St → Int → Int → Int → Int → Option (St)) (x0 : Int) (x1 : Int) (x2 : Int) (x3 : Int) (c33 : Int → Int → St → Option (St)) (x4 : Int) (x5 : Int) (σ : St) : Option (St) := c33 x4 (x5 + 1) σ
def gX10_overOrders_L33 (F : Nat) (rc : St → Int → Int → Int → Int → Option (St)) (x0 : Int) (x1 : Int) (x2 : Int) (x3 : Int) : Nat → Int → Int → St → Option (St)
  | 0, _, _, _ => none
  | n + 1, x4, x5, σ => if w32 x5 ≥ w32 x4 then some σ else (gX7_hasCome σ x0 x5).bind fun r1 => if w32 r1 ≠ 0 then gX10_overOrders_L70 F rc x0 x1 x2 x3 (gX10_overOrders_L33 F rc x0 x1 x2 x3 n) x4 x5 σ else (gX7_comeBy F σ x0 x5 x1).bind fun r2 => (rc r2.2 x0 x1 x2 (x3 + 1)).bind fun r3 => (gX7_takeBack r3 x0).bind fun r4 => gX10_overOrders_L70 F rc x0 x1 x2 x3 (gX10_overOrders_L33 F rc x0 x1 x2 x3 n) x4 x5 r4
def gX10_overOrders_L21 (F : Nat) (rc : St → Int → Int → Int → Int → Option (St)) (x0 : Int) (x1 : Int) (x2 : Int) (x3 : Int) (σ : St) : Option (St) := (gX7_value F σ x0).bind fun r1 => (gX2_add σ x2 r1).bind fun r2 => some r2
def gX10_overOrders (F : Nat) : Nat → St → Int → Int → Int → Int → Option (St)
  | 0, _, _, _, _, _ => none
  | d + 1, σ, x0, x1, x2, x3 => if w32 x3 ≥ w32 (σ (bd x0) 6) then gX10_overOrders_L21 F (gX10_overOrders F d) x0 x1 x2 x3 σ else if w32 x3 < 6 then gX10_overOrders_L33 F (gX10_overOrders F d) x0 x1 x2 x3 F (σ (bd x0) 6) 0 σ else gX10_overOrders_L21 F (gX10_overOrders F d) x0 x1 x2 x3 σ
def rmbX10_overOrders (rc : Room) : Prop := 5 ≤ rc.frames ∧ 120 ≤ rc.locals
theorem rmbX10_overOrders_X7_value {rc : Room} (h : rmbX10_overOrders rc) : rmOK rmX7_value rc 3 := ⟨rfl, rfl, Nat.le_trans (by decide) h.1, Nat.le_trans (by decide) h.2⟩
theorem rmbX10_overOrders_X2_add {rc : Room} (h : rmbX10_overOrders rc) : rmOK rmX2_add rc 2 := ⟨rfl, rfl, Nat.le_trans (by decide) h.1, Nat.le_trans (by decide) h.2⟩
theorem rmbX10_overOrders_X7_hasCome {rc : Room} (h : rmbX10_overOrders rc) : rmOK rmX7_hasCome rc 2 := ⟨rfl, rfl, Nat.le_trans (by decide) h.1, Nat.le_trans (by decide) h.2⟩
theorem rmbX10_overOrders_X7_comeBy {rc : Room} (h : rmbX10_overOrders rc) : rmOK rmX7_comeBy rc 4 := ⟨rfl, rfl, Nat.le_trans (by decide) h.1, Nat.le_trans (by decide) h.2⟩
theorem rmbX10_overOrders_X7_takeBack {rc : Room} (h : rmbX10_overOrders rc) : rmOK rmX7_takeBack rc 3 := ⟨rfl, rfl, Nat.le_trans (by decide) h.1, Nat.le_trans (by decide) h.2⟩
def rmX10_overOrders (d : Nat) : Room := { frames := 5 + d, cells := 0, slots := 0, locals := 120 + d * 25 }
set_option maxRecDepth 100000 in
set_option maxHeartbeats 4000000 in
theorem pX10_overOrders_L70 {X : MX} {G : GG} (C : CX X G 6 cX10_overOrders RX10) (R : RT X none) {rcm rmr : Room} (hR : mR X = rcm ∧ rmOK rmr rcm 6 ∧ rmbX10_overOrders rcm) (F : Nat) (rc : St → Int → Int → Int → Int → Option (St)) (hrc : ∀ (σ : St) (x0 : Int) (x1 : Int) (x2 : Int) (x3 : Int) (h0 : isK x0 (0, 7)) (h1 : isK x1 (0, 5)) (h2 : isK x2 (0, 2)), Ctr (mL X) G yX10_overOrders cX10_overOrders 6 none rmr [vr G x0, vr G x1, vr G x2, vi x3] (w0 σ) vzV wzV (rc σ x0 x1 x2 x3)) (x0 : Int) (h0 : isK x0 (0, 7)) (x1 : Int) (h1 : isK x1 (0, 5)) (x2 : Int) (h2 : isK x2 (0, 2)) (x3 : Int) (c33 : Int → Int → St → Option (St)) (hc33 : ∀ (x4 : Int) (x5 : Int) (σ : St), ZZ X G 6 (QM X G vzV wzV (0, 0)) (0, 0) (c33 x4 x5 σ) (w0 σ) 33 [(0, vr G x0), (1, vr G x1), (2, vr G x2), (3, vi x3), (4, vi x4), (5, vi x5)] []) : ∀ (x4 : Int) (x5 : Int) (σ : St), ZZ X G 6 (QM X G vzV wzV (0, 0)) (0, 0) (gX10_overOrders_L70 F rc x0 x1 x2 x3 c33 x4 x5 σ) (w0 σ) 70 [(0, vr G x0), (1, vr G x1), (2, vr G x2), (3, vi x3), (4, vi x4), (5, vi x5)] [] := by
  intro x4 x5 σ
  show ZZ X G 6 (QM X G vzV wzV (0, 0)) (0, 0) (c33 x4 (x5 + 1) σ) (w0 σ) 70 [(0, vr G x0), (1, vr G x1), (2, vr G x2), (3, vi x3), (4, vi x4), (5, vi x5)] []
  refine z_iinc (lv' := [(5, vi (x5 + 1)), (0, vr G x0), (1, vr G x1), (2, vr G x2), (3, vi x3), (4, vi x4)]) C (by decide) 5 rfl dX10_overOrders_70 73 rfl rfl ?_
  refine z_goto C dX10_overOrders_73 33 (by decide) ?_
  refine z_lv (lv' := [(0, vr G x0), (1, vr G x1), (2, vr G x2), (3, vi x3), (4, vi x4), (5, vi (x5 + 1))]) [1, 2, 3, 4, 5, 0] rfl ?_
  exact hc33 x4 (x5 + 1) σ
set_option maxRecDepth 100000 in
set_option maxHeartbeats 4000000 in
theorem pX10_overOrders_L33 {X : MX} {G : GG} (C : CX X G 6 cX10_overOrders RX10) (R : RT X none) {rcm rmr : Room} (hR : mR X = rcm ∧ rmOK rmr rcm 6 ∧ rmbX10_overOrders rcm) (F : Nat) (rc : St → Int → Int → Int → Int → Option (St)) (hrc : ∀ (σ : St) (x0 : Int) (x1 : Int) (x2 : Int) (x3 : Int) (h0 : isK x0 (0, 7)) (h1 : isK x1 (0, 5)) (h2 : isK x2 (0, 2)), Ctr (mL X) G yX10_overOrders cX10_overOrders 6 none rmr [vr G x0, vr G x1, vr G x2, vi x3] (w0 σ) vzV wzV (rc σ x0 x1 x2 x3)) (x0 : Int) (h0 : isK x0 (0, 7)) (x1 : Int) (h1 : isK x1 (0, 5)) (x2 : Int) (h2 : isK x2 (0, 2)) (x3 : Int)  : ∀ (n : Nat) (x4 : Int) (x5 : Int) (σ : St), ZZ X G 6 (QM X G vzV wzV (0, 0)) (0, 0) (gX10_overOrders_L33 F rc x0 x1 x2 x3 n x4 x5 σ) (w0 σ) 33 [(0, vr G x0), (1, vr G x1), (2, vr G x2), (3, vi x3), (4, vi x4), (5, vi x5)] [] := by
  intro n
  induction n with
  | zero =>
    intro _ _ _
    exact z_none
  | succ n ih =>
    intro x4 x5 σ
    show ZZ X G 6 (QM X G vzV wzV (0, 0)) (0, 0) (if w32 x5 ≥ w32 x4 then some σ else (gX7_hasCome σ x0 x5).bind fun r1 => if w32 r1 ≠ 0 then gX10_overOrders_L70 F rc x0 x1 x2 x3 (gX10_overOrders_L33 F rc x0 x1 x2 x3 n) x4 x5 σ else (gX7_comeBy F σ x0 x5 x1).bind fun r2 => (rc r2.2 x0 x1 x2 (x3 + 1)).bind fun r3 => (gX7_takeBack r3 x0).bind fun r4 => gX10_overOrders_L70 F rc x0 x1 x2 x3 (gX10_overOrders_L33 F rc x0 x1 x2 x3 n) x4 x5 r4) (w0 σ) 33 [(0, vr G x0), (1, vr G x1), (2, vr G x2), (3, vi x3), (4, vi x4), (5, vi x5)] []
    refine z_iload C 5 rfl dX10_overOrders_33 35 rfl ?_
    refine z_iload C 4 rfl dX10_overOrders_35 37 rfl ?_
    refine z_icmp_ge C dX10_overOrders_37 76 (by decide) 40 rfl rfl rfl (fun _ => ?_) (fun _ => ?_)
    · exact z_vret C R rfl rfl dX10_overOrders_76
    · refine z_aload_n C 0 rfl 0 rfl dX10_overOrders_40 41 rfl ?_
      refine z_iload C 5 rfl dX10_overOrders_41 43 rfl ?_
      refine y_callVI C hR.1 (tX7_hasCome (mL X) G σ x0 x5 h0) ⟨mwX7_hasCome, mvX7_hasCome, lkX10_108⟩ h0 rfl rfl (Nat.le_of_ble_eq_true rfl) (rmbX10_overOrders_X7_hasCome hR.2.2) dX10_overOrders_43 46 rfl (fun r1 _ => ?_)
      refine z_if_ne C dX10_overOrders_46 70 (by decide) 49 rfl rfl (fun _ => ?_) (fun _ => ?_)
      · exact pX10_overOrders_L70 C R hR F rc hrc x0 h0 x1 h1 x2 h2 x3 (gX10_overOrders_L33 F rc x0 x1 x2 x3 n) ih x4 x5 σ
      · refine z_aload_n C 0 rfl 0 rfl dX10_overOrders_49 50 rfl ?_
        refine z_iload C 5 rfl dX10_overOrders_50 52 rfl ?_
        refine z_aload_n C 1 rfl 1 rfl dX10_overOrders_52 53 rfl ?_
        refine y_callVIw C hR.1 (tX7_comeBy (mL X) G F σ x0 x5 x1 h0 h1) ⟨mwX7_comeBy, mvX7_comeBy, lkX10_222⟩ h0 rfl rfl (Nat.le_of_ble_eq_true rfl) (rmbX10_overOrders_X7_comeBy hR.2.2) dX10_overOrders_53 56 rfl (fun r2 _ => ?_)
        refine z_pop C rfl dX10_overOrders_56 57 rfl ?_
        refine z_aload_n C 0 rfl 0 rfl dX10_overOrders_57 58 rfl ?_
        refine z_aload_n C 1 rfl 1 rfl dX10_overOrders_58 59 rfl ?_
        refine z_aload_n C 2 rfl 2 rfl dX10_overOrders_59 60 rfl ?_
        refine z_iload_n C 3 rfl 3 rfl dX10_overOrders_60 61 rfl ?_
        refine z_iconst C dX10_overOrders_61 62 rfl ?_
        refine z_iadd C dX10_overOrders_62 63 rfl ?_
        refine y_callSv C hR.1 (hrc r2.2 x0 x1 x2 (x3 + 1) h0 h1 h2) ⟨mwX10_overOrders, msX10_overOrders, lkX10_393⟩ rfl rfl (Nat.le_of_ble_eq_true rfl) (hR.2.1) dX10_overOrders_63 66 rfl (fun r3 _ => ?_)
        refine z_aload_n C 0 rfl 0 rfl dX10_overOrders_66 67 rfl ?_
        refine y_callVv C hR.1 (tX7_takeBack (mL X) G r3 x0 h0) ⟨mwX7_takeBack, mvX7_takeBack, lkX10_354⟩ h0 rfl rfl (Nat.le_of_ble_eq_true rfl) (rmbX10_overOrders_X7_takeBack hR.2.2) dX10_overOrders_67 70 rfl (fun r4 _ => ?_)
        exact pX10_overOrders_L70 C R hR F rc hrc x0 h0 x1 h1 x2 h2 x3 (gX10_overOrders_L33 F rc x0 x1 x2 x3 n) ih x4 x5 r4
set_option maxRecDepth 100000 in
set_option maxHeartbeats 4000000 in
theorem pX10_overOrders_L21 {X : MX} {G : GG} (C : CX X G 6 cX10_overOrders RX10) (R : RT X none) {rcm rmr : Room} (hR : mR X = rcm ∧ rmOK rmr rcm 6 ∧ rmbX10_overOrders rcm) (F : Nat) (rc : St → Int → Int → Int → Int → Option (St)) (hrc : ∀ (σ : St) (x0 : Int) (x1 : Int) (x2 : Int) (x3 : Int) (h0 : isK x0 (0, 7)) (h1 : isK x1 (0, 5)) (h2 : isK x2 (0, 2)), Ctr (mL X) G yX10_overOrders cX10_overOrders 6 none rmr [vr G x0, vr G x1, vr G x2, vi x3] (w0 σ) vzV wzV (rc σ x0 x1 x2 x3)) (x0 : Int) (h0 : isK x0 (0, 7)) (x1 : Int) (h1 : isK x1 (0, 5)) (x2 : Int) (h2 : isK x2 (0, 2)) (x3 : Int)  : ∀ (σ : St), ZZ X G 6 (QM X G vzV wzV (0, 0)) (0, 0) (gX10_overOrders_L21 F rc x0 x1 x2 x3 σ) (w0 σ) 21 [(0, vr G x0), (2, vr G x2)] [] := by
  intro σ
  show ZZ X G 6 (QM X G vzV wzV (0, 0)) (0, 0) ((gX7_value F σ x0).bind fun r1 => (gX2_add σ x2 r1).bind fun r2 => some r2) (w0 σ) 21 [(0, vr G x0), (2, vr G x2)] []
  refine z_aload_n C 2 rfl 1 rfl dX10_overOrders_21 22 rfl ?_
  refine z_aload_n C 0 rfl 0 rfl dX10_overOrders_22 23 rfl ?_
  refine y_callVI C hR.1 (tX7_value (mL X) G F σ x0 h0) ⟨mwX7_value, mvX7_value, lkX10_201⟩ h0 rfl rfl (Nat.le_of_ble_eq_true rfl) (rmbX10_overOrders_X7_value hR.2.2) dX10_overOrders_23 26 rfl (fun r1 _ => ?_)
  refine y_callVv C hR.1 (tX2_add (mL X) G σ x2 r1 h2) ⟨mwX2_add, mvX2_add, lkX10_397⟩ h2 rfl rfl (Nat.le_of_ble_eq_true rfl) (rmbX10_overOrders_X2_add hR.2.2) dX10_overOrders_26 29 rfl (fun r2 _ => ?_)
  exact z_vret C R rfl rfl dX10_overOrders_29
set_option maxRecDepth 100000 in
set_option maxHeartbeats 4000000 in
theorem tX10_overOrders (l : Launch) (G : GG) (F : Nat) : ∀ (d : Nat) (σ : St) (x0 : Int) (x1 : Int) (x2 : Int) (x3 : Int) (h0 : isK x0 (0, 7)) (h1 : isK x1 (0, 5)) (h2 : isK x2 (0, 2)), Ctr l G yX10_overOrders cX10_overOrders 6 none (rmX10_overOrders d) [vr G x0, vr G x1, vr G x2, vi x3] (w0 σ) vzV wzV (gX10_overOrders F d σ x0 x1 x2 x3) := by
  intro d
  induction d with
  | zero =>
    intro σ x0 x1 x2 x3 h0 h1 h2 z hz
    cases hz
  | succ d ih =>
    intro σ x0 x1 x2 x3 h0 h1 h2
    refine ctr_of (by decide) (Nat.le_of_ble_eq_true rfl) mwX10_overOrders.1 (fun X hl hR C R hnm => ?_)
    subst hl
    refine z_lv (lv' := [(0, vr G x0), (1, vr G x1), (2, vr G x2), (3, vi x3)]) [0, 1, 2, 3] rfl ?_
    show ZZ X G 6 (QM X G vzV wzV (0, 0)) (0, 0) (if w32 x3 ≥ w32 (σ (bd x0) 6) then gX10_overOrders_L21 F (gX10_overOrders F d) x0 x1 x2 x3 σ else if w32 x3 < 6 then gX10_overOrders_L33 F (gX10_overOrders F d) x0 x1 x2 x3 F (σ (bd x0) 6) 0 σ else gX10_overOrders_L21 F (gX10_overOrders F d) x0 x1 x2 x3 σ) (w0 σ) 0 [(0, vr G x0), (1, vr G x1), (2, vr G x2), (3, vi x3)] []
    refine z_aload_n C 0 rfl 0 rfl dX10_overOrders_0 1 rfl ?_
    refine y_getR C fX10_396 h0 (lay_7_0 h0) dX10_overOrders_1 4 rfl ?_
    refine y_getI C fX10_95 ((lay_7_0 h0).2) dX10_overOrders_4 7 rfl ?_
    refine z_istore (lv' := [(4, vi (σ (bd x0) 6)), (0, vr G x0), (1, vr G x1), (2, vr G x2), (3, vi x3)]) C (by decide) dX10_overOrders_7 9 rfl rfl ?_
    refine z_iload_n C 3 rfl 4 rfl dX10_overOrders_9 10 rfl ?_
    refine z_iload C 0 rfl dX10_overOrders_10 12 rfl ?_
    refine z_icmp_ge C dX10_overOrders_12 21 (by decide) 15 rfl rfl rfl (fun _ => ?_) (fun _ => ?_)
    · refine z_lv (lv' := [(0, vr G x0), (2, vr G x2)]) [1, 3] rfl ?_
      exact pX10_overOrders_L21 C R (rmr := rmX10_overOrders d) ⟨hR, (by unfold rmOK rmX10_overOrders; exact ⟨rfl, rfl, by dsimp only; omega, by dsimp only; omega⟩), (by unfold rmbX10_overOrders rmX10_overOrders; exact ⟨by dsimp only; omega, by dsimp only; omega⟩)⟩ F (gX10_overOrders F d) (fun σ x0 x1 x2 x3 h0 h1 h2 => ih σ x0 x1 x2 x3 h0 h1 h2) x0 h0 x1 h1 x2 h2 x3 σ
    · refine z_iload_n C 3 rfl 4 rfl dX10_overOrders_15 16 rfl ?_
      refine z_bipush C (by decide) dX10_overOrders_16 18 rfl ?_
      refine z_icmp_lt C dX10_overOrders_18 30 (by decide) 21 rfl rfl (w32_id (a := 6) (by decide)) (fun _ => ?_) (fun _ => ?_)
      · refine z_iconst C dX10_overOrders_30 31 rfl ?_
        refine z_istore (lv' := [(5, vi 0), (4, vi (σ (bd x0) 6)), (0, vr G x0), (1, vr G x1), (2, vr G x2), (3, vi x3)]) C (by decide) dX10_overOrders_31 33 rfl rfl ?_
        refine z_lv (lv' := [(0, vr G x0), (1, vr G x1), (2, vr G x2), (3, vi x3), (4, vi (σ (bd x0) 6)), (5, vi 0)]) [2, 3, 4, 5, 1, 0] rfl ?_
        exact pX10_overOrders_L33 C R (rmr := rmX10_overOrders d) ⟨hR, (by unfold rmOK rmX10_overOrders; exact ⟨rfl, rfl, by dsimp only; omega, by dsimp only; omega⟩), (by unfold rmbX10_overOrders rmX10_overOrders; exact ⟨by dsimp only; omega, by dsimp only; omega⟩)⟩ F (gX10_overOrders F d) (fun σ x0 x1 x2 x3 h0 h1 h2 => ih σ x0 x1 x2 x3 h0 h1 h2) x0 h0 x1 h1 x2 h2 x3 F (σ (bd x0) 6) 0 σ
      · refine z_lv (lv' := [(0, vr G x0), (2, vr G x2)]) [1, 3] rfl ?_
        exact pX10_overOrders_L21 C R (rmr := rmX10_overOrders d) ⟨hR, (by unfold rmOK rmX10_overOrders; exact ⟨rfl, rfl, by dsimp only; omega, by dsimp only; omega⟩), (by unfold rmbX10_overOrders rmX10_overOrders; exact ⟨by dsimp only; omega, by dsimp only; omega⟩)⟩ F (gX10_overOrders F d) (fun σ x0 x1 x2 x3 h0 h1 h2 => ih σ x0 x1 x2 x3 h0 h1 h2) x0 h0 x1 h1 x2 h2 x3 σ
-- meanOverOrders
def gX10_meanOverOrders (F : Nat) (σ : St) (x1 : Int) : Option (St) := (gX2_isStale σ (x1 + 6) (σ 1 7)).bind fun r1 => if w32 r1 = 0 then some σ else (gX2_start σ (x1 + 6) (σ 1 7)).bind fun r2 => (gX7_clear r2 17).bind fun r3 => (gX10_overOrders F 8 r3 17 x1 (x1 + 6) 0).bind fun r4 => some r4
def rmX10_meanOverOrders : Room := { frames := 16, cells := 0, slots := 0, locals := 395 }
set_option maxRecDepth 100000 in
set_option maxHeartbeats 4000000 in
theorem tX10_meanOverOrders (l : Launch) (G : GG) (F : Nat) (σ : St) (x1 : Int) (h1 : isK x1 (0, 5)) : Ctr l G yX10_meanOverOrders cX10_meanOverOrders 3 (some (.object "PairedComing$Mean")) rmX10_meanOverOrders [vr G 0, vr G x1] (w0 σ) (fun _ : St => some (vr G (x1 + 6))) wzV (gX10_meanOverOrders F σ x1) := by
  refine ctr_of (by decide) (Nat.le_of_ble_eq_true rfl) mwX10_meanOverOrders.1 (fun X hl hR C R hnm => ?_)
  subst hl
  refine z_lv (lv' := [(0, vr G 0), (1, vr G x1)]) [0, 1] rfl ?_
  show ZZ X G 3 (QM X G (fun _ : St => some (vr G (x1 + 6))) wzV (0, 0)) (0, 0) ((gX2_isStale σ (x1 + 6) (σ 1 7)).bind fun r1 => if w32 r1 = 0 then some σ else (gX2_start σ (x1 + 6) (σ 1 7)).bind fun r2 => (gX7_clear r2 17).bind fun r3 => (gX10_overOrders F 8 r3 17 x1 (x1 + 6) 0).bind fun r4 => some r4) (w0 σ) 0 [(0, vr G 0), (1, vr G x1)] []
  refine z_aload_n C 1 rfl 1 rfl dX10_meanOverOrders_0 1 rfl ?_
  refine y_getR C fX10_390 h1 (lay_5_5 h1) dX10_meanOverOrders_1 4 rfl ?_
  refine z_astore_n (lv' := [(2, vr G (x1 + 6)), (0, vr G 0), (1, vr G x1)]) C 2 rfl (by decide) dX10_meanOverOrders_4 5 rfl rfl ?_
  refine z_aload_n C 2 rfl 0 rfl dX10_meanOverOrders_5 6 rfl ?_
  refine z_aload_n C 0 rfl 1 rfl dX10_meanOverOrders_6 7 rfl ?_
  refine y_getR C fX10_10 one_10 lay_10_0 dX10_meanOverOrders_7 10 rfl ?_
  refine y_getI C fX10_276 lay_10_0.2 dX10_meanOverOrders_10 13 rfl ?_
  refine y_callVI C hR (tX2_isStale (mL X) G σ (x1 + 6) (σ 1 7) ((lay_5_5 h1).2)) ⟨mwX2_isStale, mvX2_isStale, lkX10_279⟩ ((lay_5_5 h1).2) rfl rfl (Nat.le_of_ble_eq_true rfl) (by unfold rmOK; decide) dX10_meanOverOrders_13 16 rfl (fun r1 _ => ?_)
  refine z_if_eq C dX10_meanOverOrders_16 47 (by decide) 19 rfl rfl (fun _ => ?_) (fun _ => ?_)
  · refine z_aload_n C 2 rfl 0 rfl dX10_meanOverOrders_47 48 rfl ?_
    exact z_aret C R rfl rfl dX10_meanOverOrders_48
  · refine z_aload_n C 2 rfl 0 rfl dX10_meanOverOrders_19 20 rfl ?_
    refine z_aload_n C 0 rfl 1 rfl dX10_meanOverOrders_20 21 rfl ?_
    refine y_getR C fX10_10 one_10 lay_10_0 dX10_meanOverOrders_21 24 rfl ?_
    refine y_getI C fX10_276 lay_10_0.2 dX10_meanOverOrders_24 27 rfl ?_
    refine y_callVv C hR (tX2_start (mL X) G σ (x1 + 6) (σ 1 7) ((lay_5_5 h1).2)) ⟨mwX2_start, mvX2_start, lkX10_282⟩ ((lay_5_5 h1).2) rfl rfl (Nat.le_of_ble_eq_true rfl) (by unfold rmOK; decide) dX10_meanOverOrders_27 30 rfl (fun r2 _ => ?_)
    refine z_aload_n C 0 rfl 1 rfl dX10_meanOverOrders_30 31 rfl ?_
    refine y_getR C fX10_25 one_10 lay_10_2 dX10_meanOverOrders_31 34 rfl ?_
    refine y_callVv C hR (tX7_clear (mL X) G r2 17 lay_10_2.2) ⟨mwX7_clear, mvX7_clear, lkX10_219⟩ lay_10_2.2 rfl rfl (Nat.le_of_ble_eq_true rfl) (by unfold rmOK; decide) dX10_meanOverOrders_34 37 rfl (fun r3 _ => ?_)
    refine z_aload_n C 0 rfl 1 rfl dX10_meanOverOrders_37 38 rfl ?_
    refine y_getR C fX10_25 one_10 lay_10_2 dX10_meanOverOrders_38 41 rfl ?_
    refine z_aload_n C 1 rfl 2 rfl dX10_meanOverOrders_41 42 rfl ?_
    refine z_aload_n C 2 rfl 0 rfl dX10_meanOverOrders_42 43 rfl ?_
    refine z_iconst C dX10_meanOverOrders_43 44 rfl ?_
    refine y_callSv C hR (tX10_overOrders (mL X) G F 8 r3 17 x1 (x1 + 6) 0 lay_10_2.2 h1 ((lay_5_5 h1).2)) ⟨mwX10_overOrders, msX10_overOrders, lkX10_393⟩ rfl rfl (Nat.le_of_ble_eq_true rfl) (by unfold rmOK; decide) dX10_meanOverOrders_44 47 rfl (fun r4 _ => ?_)
    refine z_aload_n C 2 rfl 0 rfl dX10_meanOverOrders_47 48 rfl ?_
    exact z_aret C R rfl rfl dX10_meanOverOrders_48
-- commonDivisor
def gX10_commonDivisor_L9 (F : Nat) (σ : St) (x0 : Int) (x2 : Int) : Nat → Int → Int → Int → Option (Int)
  | 0, _, _, _ => none
  | n + 1, x4, x6, x8 => if w32 x8 ≥ 200 then some x4 else if w64 x6 = 0 then some x4 else gd (w64 x6 ≠ 0) (gX10_commonDivisor_L9 F σ x0 x2 n x6 (lrm x4 x6) (x8 + 1))
def gX10_commonDivisor (F : Nat) (σ : St) (x0 : Int) (x2 : Int) : Option (Int) := gX10_commonDivisor_L9 F σ x0 x2 F x0 x2 0
def rmX10_commonDivisor : Room := { frames := 0, cells := 0, slots := 0, locals := 0 }
set_option maxRecDepth 100000 in
set_option maxHeartbeats 4000000 in
theorem pX10_commonDivisor_L9 {X : MX} {G : GG} (C : CX X G 11 cX10_commonDivisor RX10) (R : RT X (some .long)) (hR : mR X = rmX10_commonDivisor) (F : Nat) (σ : St) (x0 : Int) (x2 : Int)  : ∀ (n : Nat) (x4 : Int) (x6 : Int) (x8 : Int), ZZ X G 11 (QM X G vzJ (wzR σ) (0, 0)) (0, 0) (gX10_commonDivisor_L9 F σ x0 x2 n x4 x6 x8) (w0 σ) 9 [(4, vl x4), (6, vl x6), (8, vi x8)] [] := by
  intro n
  induction n with
  | zero =>
    intro _ _ _
    exact z_none
  | succ n ih =>
    intro x4 x6 x8
    show ZZ X G 11 (QM X G vzJ (wzR σ) (0, 0)) (0, 0) (if w32 x8 ≥ 200 then some x4 else if w64 x6 = 0 then some x4 else gd (w64 x6 ≠ 0) (gX10_commonDivisor_L9 F σ x0 x2 n x6 (lrm x4 x6) (x8 + 1))) (w0 σ) 9 [(4, vl x4), (6, vl x6), (8, vi x8)] []
    refine z_iload C 2 rfl dX10_commonDivisor_9 11 rfl ?_
    refine z_sipush C (by decide) dX10_commonDivisor_11 14 rfl ?_
    refine z_icmp_ge C dX10_commonDivisor_14 45 (by decide) 17 rfl rfl (w32_id (a := 200) (by decide)) (fun _ => ?_) (fun _ => ?_)
    · refine z_lload C 0 rfl dX10_commonDivisor_45 47 rfl ?_
      exact z_lret C R rfl rfl dX10_commonDivisor_47
    · refine z_lload C 1 rfl dX10_commonDivisor_17 19 rfl ?_
      refine z_lconst (v := 0) C (by decide) dX10_commonDivisor_19 20 rfl ?_
      refine z_lif_eq C dX10_commonDivisor_20 21 rfl dX10_commonDivisor_21 45 (by decide) 24 rfl rfl (w64_id (a := 0) (by decide)) (fun _ => ?_) (fun _ => ?_)
      · refine z_lload C 0 rfl dX10_commonDivisor_45 47 rfl ?_
        exact z_lret C R rfl rfl dX10_commonDivisor_47
      · refine z_lload C 0 rfl dX10_commonDivisor_24 26 rfl ?_
        refine z_lload C 1 rfl dX10_commonDivisor_26 28 rfl ?_
        refine z_lrem C dX10_commonDivisor_28 29 rfl ?_
        refine z_lstore (lv' := [(9, vl (lrm x4 x6)), (4, vl x4), (6, vl x6), (8, vi x8)]) C (by decide) dX10_commonDivisor_29 31 rfl rfl ?_
        refine z_lload C 2 rfl dX10_commonDivisor_31 33 rfl ?_
        refine z_lstore (lv' := [(4, vl x6), (9, vl (lrm x4 x6)), (6, vl x6), (8, vi x8)]) C (by decide) dX10_commonDivisor_33 35 rfl rfl ?_
        refine z_lload C 1 rfl dX10_commonDivisor_35 37 rfl ?_
        refine z_lstore (lv' := [(6, vl (lrm x4 x6)), (4, vl x6), (9, vl (lrm x4 x6)), (8, vi x8)]) C (by decide) dX10_commonDivisor_37 39 rfl rfl ?_
        refine z_iinc (lv' := [(8, vi (x8 + 1)), (6, vl (lrm x4 x6)), (4, vl x6), (9, vl (lrm x4 x6))]) C (by decide) 3 rfl dX10_commonDivisor_39 42 rfl rfl ?_
        refine z_goto C dX10_commonDivisor_42 9 (by decide) ?_
        refine z_lv (lv' := [(4, vl x6), (6, vl (lrm x4 x6)), (8, vi (x8 + 1))]) [2, 1, 0] rfl ?_
        exact ih x6 (lrm x4 x6) (x8 + 1)
set_option maxRecDepth 100000 in
set_option maxHeartbeats 4000000 in
theorem tX10_commonDivisor (l : Launch) (G : GG) (F : Nat) (σ : St) (x0 : Int) (x2 : Int) : Ctr l G yX10_commonDivisor cX10_commonDivisor 11 (some .long) rmX10_commonDivisor [vl x0, vl x2] (w0 σ) vzJ (wzR σ) (gX10_commonDivisor F σ x0 x2) := by
  refine ctr_of (by decide) (Nat.le_of_ble_eq_true rfl) mwX10_commonDivisor.1 (fun X hl hR C R hnm => ?_)
  subst hl
  refine z_lv (lv' := [(0, vl x0), (2, vl x2)]) [0, 1] rfl ?_
  show ZZ X G 11 (QM X G vzJ (wzR σ) (0, 0)) (0, 0) (gX10_commonDivisor_L9 F σ x0 x2 F x0 x2 0) (w0 σ) 0 [(0, vl x0), (2, vl x2)] []
  refine z_lload_n C 0 rfl 0 rfl dX10_commonDivisor_0 1 rfl ?_
  refine z_lstore (lv' := [(4, vl x0), (0, vl x0), (2, vl x2)]) C (by decide) dX10_commonDivisor_1 3 rfl rfl ?_
  refine z_lload_n C 2 rfl 2 rfl dX10_commonDivisor_3 4 rfl ?_
  refine z_lstore (lv' := [(6, vl x2), (4, vl x0), (0, vl x0), (2, vl x2)]) C (by decide) dX10_commonDivisor_4 6 rfl rfl ?_
  refine z_iconst C dX10_commonDivisor_6 7 rfl ?_
  refine z_istore (lv' := [(8, vi 0), (6, vl x2), (4, vl x0), (0, vl x0), (2, vl x2)]) C (by decide) dX10_commonDivisor_7 9 rfl rfl ?_
  refine z_lv (lv' := [(4, vl x0), (6, vl x2), (8, vi 0)]) [2, 1, 0] rfl ?_
  exact pX10_commonDivisor_L9 C R hR F σ x0 x2 F x0 x2 0
-- inLowestTerms
def gX10_inLowestTerms_L17 (F : Nat) (σ : St) (x0 : Int) (x2 : Int) (x4 : Int) (x5 : Int) (s0 : Int) : Option (Int) := if w64 x5 ≤ 0 then some s0 else gd (w64 x5 ≠ 0) (some (ldv s0 x5))
def gX10_inLowestTerms (F : Nat) (σ : St) (x0 : Int) (x2 : Int) (x4 : Int) : Option (Int) := (gX10_commonDivisor F σ x0 x2).bind fun r1 => if w32 x4 ≠ 0 then gX10_inLowestTerms_L17 F σ x0 x2 x4 r1 x2 else gX10_inLowestTerms_L17 F σ x0 x2 x4 r1 x0
def rmX10_inLowestTerms : Room := { frames := 1, cells := 0, slots := 0, locals := 30 }
set_option maxRecDepth 100000 in
set_option maxHeartbeats 4000000 in
theorem pX10_inLowestTerms_L17 {X : MX} {G : GG} (C : CX X G 9 cX10_inLowestTerms RX10) (R : RT X (some .long)) (hR : mR X = rmX10_inLowestTerms) (F : Nat) (σ : St) (x0 : Int) (x2 : Int) (x4 : Int)  : ∀ (x5 : Int) (s0 : Int), ZZ X G 9 (QM X G vzJ (wzR σ) (0, 0)) (0, 0) (gX10_inLowestTerms_L17 F σ x0 x2 x4 x5 s0) (w0 σ) 17 [(5, vl x5)] [vl s0] := by
  intro x5 s0
  show ZZ X G 9 (QM X G vzJ (wzR σ) (0, 0)) (0, 0) (if w64 x5 ≤ 0 then some s0 else gd (w64 x5 ≠ 0) (some (ldv s0 x5))) (w0 σ) 17 [(5, vl x5)] [vl s0]
  refine z_lstore (lv' := [(7, vl s0), (5, vl x5)]) C (by decide) dX10_inLowestTerms_17 19 rfl rfl ?_
  refine z_lload C 1 rfl dX10_inLowestTerms_19 21 rfl ?_
  refine z_lconst (v := 0) C (by decide) dX10_inLowestTerms_21 22 rfl ?_
  refine z_lif_le C dX10_inLowestTerms_22 23 rfl dX10_inLowestTerms_23 34 (by decide) 26 rfl rfl (w64_id (a := 0) (by decide)) (fun _ => ?_) (fun _ => ?_)
  · refine z_lload C 0 rfl dX10_inLowestTerms_34 36 rfl ?_
    exact z_lret C R rfl rfl dX10_inLowestTerms_36
  · refine z_lload C 0 rfl dX10_inLowestTerms_26 28 rfl ?_
    refine z_lload C 1 rfl dX10_inLowestTerms_28 30 rfl ?_
    refine z_ldiv C dX10_inLowestTerms_30 31 rfl ?_
    refine z_goto C dX10_inLowestTerms_31 36 (by decide) ?_
    exact z_lret C R rfl rfl dX10_inLowestTerms_36
set_option maxRecDepth 100000 in
set_option maxHeartbeats 4000000 in
theorem tX10_inLowestTerms (l : Launch) (G : GG) (F : Nat) (σ : St) (x0 : Int) (x2 : Int) (x4 : Int) : Ctr l G yX10_inLowestTerms cX10_inLowestTerms 9 (some .long) rmX10_inLowestTerms [vl x0, vl x2, vi x4] (w0 σ) vzJ (wzR σ) (gX10_inLowestTerms F σ x0 x2 x4) := by
  refine ctr_of (by decide) (Nat.le_of_ble_eq_true rfl) mwX10_inLowestTerms.1 (fun X hl hR C R hnm => ?_)
  subst hl
  refine z_lv (lv' := [(0, vl x0), (2, vl x2), (4, vi x4)]) [0, 1, 2] rfl ?_
  show ZZ X G 9 (QM X G vzJ (wzR σ) (0, 0)) (0, 0) ((gX10_commonDivisor F σ x0 x2).bind fun r1 => if w32 x4 ≠ 0 then gX10_inLowestTerms_L17 F σ x0 x2 x4 r1 x2 else gX10_inLowestTerms_L17 F σ x0 x2 x4 r1 x0) (w0 σ) 0 [(0, vl x0), (2, vl x2), (4, vi x4)] []
  refine z_lload_n C 0 rfl 0 rfl dX10_inLowestTerms_0 1 rfl ?_
  refine z_lload_n C 2 rfl 1 rfl dX10_inLowestTerms_1 2 rfl ?_
  refine y_callSJ C hR (tX10_commonDivisor (mL X) G F σ x0 x2) ⟨mwX10_commonDivisor, msX10_commonDivisor, lkX10_411⟩ rfl rfl (Nat.le_of_ble_eq_true rfl) (by unfold rmOK; decide) dX10_inLowestTerms_2 5 rfl (fun r1 _ => ?_)
  refine z_lstore (lv' := [(5, vl r1), (0, vl x0), (2, vl x2), (4, vi x4)]) C (by decide) dX10_inLowestTerms_5 7 rfl rfl ?_
  refine z_iload C 3 rfl dX10_inLowestTerms_7 9 rfl ?_
  refine z_if_ne C dX10_inLowestTerms_9 16 (by decide) 12 rfl rfl (fun _ => ?_) (fun _ => ?_)
  · refine z_lload_n C 2 rfl 2 rfl dX10_inLowestTerms_16 17 rfl ?_
    refine z_lv (lv' := [(5, vl r1)]) [0] rfl ?_
    exact pX10_inLowestTerms_L17 C R hR F σ x0 x2 x4 r1 x2
  · refine z_lload_n C 0 rfl 1 rfl dX10_inLowestTerms_12 13 rfl ?_
    refine z_goto C dX10_inLowestTerms_13 17 (by decide) ?_
    refine z_lv (lv' := [(5, vl r1)]) [0] rfl ?_
    exact pX10_inLowestTerms_L17 C R hR F σ x0 x2 x4 r1 x0
-- mean
def gX10_mean (F : Nat) (σ : St) (x1 : Int) (x2 : Int) : Option (Int × St) := (gX10_isRule σ x1).bind fun r1 => if w32 r1 = 0 then some ((-1), σ) else (gX10_isIn σ x2 0 1).bind fun r2 => if w32 r2 ≠ 0 then if w32 (σ 1 6) ≤ 6 then gd (0 ≤ w32 x1 ∧ w32 x1 < 6) ((gX10_meanOverOrders F σ (63 + 12 * (w32 x1))).bind fun r4 => (gX10_inLowestTerms F r4 (r4 ((63 + 12 * (w32 x1)) + 6) 1) (r4 ((63 + 12 * (w32 x1)) + 6) 2) x2).bind fun r5 => some (r5, r4)) else some ((-2), σ) else some ((-1), σ)
def rmX10_mean : Room := { frames := 17, cells := 0, slots := 0, locals := 417 }
set_option maxRecDepth 100000 in
set_option maxHeartbeats 4000000 in
theorem tX10_mean (l : Launch) (G : GG) (F : Nat) (σ : St) (x1 : Int) (x2 : Int) : Ctr l G yX10_mean cX10_mean 4 (some .long) rmX10_mean [vr G 0, vi x1, vi x2] (w0 σ) vzJw wzW (gX10_mean F σ x1 x2) := by
  refine ctr_of (by decide) (Nat.le_of_ble_eq_true rfl) mwX10_mean.1 (fun X hl hR C R hnm => ?_)
  subst hl
  refine z_lv (lv' := [(0, vr G 0), (1, vi x1), (2, vi x2)]) [0, 1, 2] rfl ?_
  show ZZ X G 4 (QM X G vzJw wzW (0, 0)) (0, 0) ((gX10_isRule σ x1).bind fun r1 => if w32 r1 = 0 then some ((-1), σ) else (gX10_isIn σ x2 0 1).bind fun r2 => if w32 r2 ≠ 0 then if w32 (σ 1 6) ≤ 6 then gd (0 ≤ w32 x1 ∧ w32 x1 < 6) ((gX10_meanOverOrders F σ (63 + 12 * (w32 x1))).bind fun r4 => (gX10_inLowestTerms F r4 (r4 ((63 + 12 * (w32 x1)) + 6) 1) (r4 ((63 + 12 * (w32 x1)) + 6) 2) x2).bind fun r5 => some (r5, r4)) else some ((-2), σ) else some ((-1), σ)) (w0 σ) 0 [(0, vr G 0), (1, vi x1), (2, vi x2)] []
  refine z_aload_n C 0 rfl 0 rfl dX10_mean_0 1 rfl ?_
  refine z_iload_n C 1 rfl 1 rfl dX10_mean_1 2 rfl ?_
  refine y_callVI C hR (tX10_isRule (mL X) G σ x1) ⟨mwX10_isRule, mvX10_isRule, lkX10_174⟩ one_10 rfl rfl (Nat.le_of_ble_eq_true rfl) (by unfold rmOK; decide) dX10_mean_2 5 rfl (fun r1 _ => ?_)
  refine z_if_eq C dX10_mean_5 17 (by decide) 8 rfl rfl (fun _ => ?_) (fun _ => ?_)
  · refine z_ldc2 (v := (-1)) C clX10_247 (by decide) dX10_mean_17 20 rfl ?_
    exact z_lret C R rfl rfl dX10_mean_20
  · refine z_iload_n C 2 rfl 2 rfl dX10_mean_8 9 rfl ?_
    refine z_iconst C dX10_mean_9 10 rfl ?_
    refine z_iconst C dX10_mean_10 11 rfl ?_
    refine y_callSI C hR (tX10_isIn (mL X) G σ x2 0 1) ⟨mwX10_isIn, msX10_isIn, lkX10_76⟩ rfl rfl (Nat.le_of_ble_eq_true rfl) (by unfold rmOK; decide) dX10_mean_11 14 rfl (fun r2 _ => ?_)
    refine z_if_ne C dX10_mean_14 21 (by decide) 17 rfl rfl (fun _ => ?_) (fun _ => ?_)
    · refine z_aload_n C 0 rfl 0 rfl dX10_mean_21 22 rfl ?_
      refine y_getR C fX10_10 one_10 lay_10_0 dX10_mean_22 25 rfl ?_
      refine y_getI C fX10_95 lay_10_0.2 dX10_mean_25 28 rfl ?_
      refine z_bipush C (by decide) dX10_mean_28 30 rfl ?_
      refine z_icmp_le C dX10_mean_30 37 (by decide) 33 rfl rfl (w32_id (a := 6) (by decide)) (fun _ => ?_) (fun _ => ?_)
      · refine z_aload_n C 0 rfl 0 rfl dX10_mean_37 38 rfl ?_
        refine z_aload_n C 0 rfl 0 rfl dX10_mean_38 39 rfl ?_
        refine y_getR C fX10_57 one_10 lay_10_8 dX10_mean_39 42 rfl ?_
        refine z_iload_n C 1 rfl 1 rfl dX10_mean_42 43 rfl ?_
        refine y_aald (t := 0) C lay_10_8.2 (by decide) rfl dX10_mean_43 44 rfl rfl (fun r => 63 + 12 * r) (fun h => lay_rules h) (fun hb3 => ?_)
        refine y_callVR C hR (tX10_meanOverOrders (mL X) G F σ (63 + 12 * (w32 x1)) ((lay_rules hb3).2)) ⟨mwX10_meanOverOrders, mvX10_meanOverOrders, lkX10_251⟩ one_10 rfl rfl (Nat.le_of_ble_eq_true rfl) (by unfold rmOK; decide) dX10_mean_44 47 rfl (fun r4 _ => ?_)
        refine z_astore_n (lv' := [(3, vr G ((63 + 12 * (w32 x1)) + 6)), (0, vr G 0), (1, vi x1), (2, vi x2)]) C 3 rfl (by decide) dX10_mean_47 48 rfl rfl ?_
        refine z_aload_n C 3 rfl 0 rfl dX10_mean_48 49 rfl ?_
        refine y_getJ C fX10_255 ((lay_5_5 ((lay_rules hb3).2)).2) dX10_mean_49 52 rfl ?_
        refine z_aload_n C 3 rfl 0 rfl dX10_mean_52 53 rfl ?_
        refine y_getJ C fX10_260 ((lay_5_5 ((lay_rules hb3).2)).2) dX10_mean_53 56 rfl ?_
        refine z_iload_n C 2 rfl 3 rfl dX10_mean_56 57 rfl ?_
        refine y_callSJ C hR (tX10_inLowestTerms (mL X) G F r4 (r4 ((63 + 12 * (w32 x1)) + 6) 1) (r4 ((63 + 12 * (w32 x1)) + 6) 2) x2) ⟨mwX10_inLowestTerms, msX10_inLowestTerms, lkX10_263⟩ rfl rfl (Nat.le_of_ble_eq_true rfl) (by unfold rmOK; decide) dX10_mean_57 60 rfl (fun r5 _ => ?_)
        exact z_lret C R rfl rfl dX10_mean_60
      · refine z_ldc2 (v := (-2)) C clX10_249 (by decide) dX10_mean_33 36 rfl ?_
        exact z_lret C R rfl rfl dX10_mean_36
    · refine z_ldc2 (v := (-1)) C clX10_247 (by decide) dX10_mean_17 20 rfl ?_
      exact z_lret C R rfl rfl dX10_mean_20
-- ends
def gX10_ends (F : Nat) (σ : St) (x1 : Int) (x2 : Int) : Option (Int × St) := (gX10_isRule σ x1).bind fun r1 => if w32 r1 = 0 then some ((-1), σ) else (gX10_isIn σ x2 0 1).bind fun r2 => if w32 r2 ≠ 0 then if w32 (σ 1 6) ≤ 6 then gd (0 ≤ w32 x1 ∧ w32 x1 < 6) ((gX10_meanOverOrders F σ (63 + 12 * (w32 x1))).bind fun r4 => if w32 x2 ≠ 0 then some (r4 ((63 + 12 * (w32 x1)) + 6) 4, r4) else some (r4 ((63 + 12 * (w32 x1)) + 6) 3, r4)) else some ((-2), σ) else some ((-1), σ)
def rmX10_ends : Room := { frames := 17, cells := 0, slots := 0, locals := 417 }
set_option maxRecDepth 100000 in
set_option maxHeartbeats 4000000 in
theorem tX10_ends (l : Launch) (G : GG) (F : Nat) (σ : St) (x1 : Int) (x2 : Int) : Ctr l G yX10_ends cX10_ends 4 (some .int) rmX10_ends [vr G 0, vi x1, vi x2] (w0 σ) vzIw wzW (gX10_ends F σ x1 x2) := by
  refine ctr_of (by decide) (Nat.le_of_ble_eq_true rfl) mwX10_ends.1 (fun X hl hR C R hnm => ?_)
  subst hl
  refine z_lv (lv' := [(0, vr G 0), (1, vi x1), (2, vi x2)]) [0, 1, 2] rfl ?_
  show ZZ X G 4 (QM X G vzIw wzW (0, 0)) (0, 0) ((gX10_isRule σ x1).bind fun r1 => if w32 r1 = 0 then some ((-1), σ) else (gX10_isIn σ x2 0 1).bind fun r2 => if w32 r2 ≠ 0 then if w32 (σ 1 6) ≤ 6 then gd (0 ≤ w32 x1 ∧ w32 x1 < 6) ((gX10_meanOverOrders F σ (63 + 12 * (w32 x1))).bind fun r4 => if w32 x2 ≠ 0 then some (r4 ((63 + 12 * (w32 x1)) + 6) 4, r4) else some (r4 ((63 + 12 * (w32 x1)) + 6) 3, r4)) else some ((-2), σ) else some ((-1), σ)) (w0 σ) 0 [(0, vr G 0), (1, vi x1), (2, vi x2)] []
  refine z_aload_n C 0 rfl 0 rfl dX10_ends_0 1 rfl ?_
  refine z_iload_n C 1 rfl 1 rfl dX10_ends_1 2 rfl ?_
  refine y_callVI C hR (tX10_isRule (mL X) G σ x1) ⟨mwX10_isRule, mvX10_isRule, lkX10_174⟩ one_10 rfl rfl (Nat.le_of_ble_eq_true rfl) (by unfold rmOK; decide) dX10_ends_2 5 rfl (fun r1 _ => ?_)
  refine z_if_eq C dX10_ends_5 17 (by decide) 8 rfl rfl (fun _ => ?_) (fun _ => ?_)
  · refine z_iconst C dX10_ends_17 18 rfl ?_
    exact z_iret C R rfl rfl dX10_ends_18
  · refine z_iload_n C 2 rfl 2 rfl dX10_ends_8 9 rfl ?_
    refine z_iconst C dX10_ends_9 10 rfl ?_
    refine z_iconst C dX10_ends_10 11 rfl ?_
    refine y_callSI C hR (tX10_isIn (mL X) G σ x2 0 1) ⟨mwX10_isIn, msX10_isIn, lkX10_76⟩ rfl rfl (Nat.le_of_ble_eq_true rfl) (by unfold rmOK; decide) dX10_ends_11 14 rfl (fun r2 _ => ?_)
    refine z_if_ne C dX10_ends_14 19 (by decide) 17 rfl rfl (fun _ => ?_) (fun _ => ?_)
    · refine z_aload_n C 0 rfl 0 rfl dX10_ends_19 20 rfl ?_
      refine y_getR C fX10_10 one_10 lay_10_0 dX10_ends_20 23 rfl ?_
      refine y_getI C fX10_95 lay_10_0.2 dX10_ends_23 26 rfl ?_
      refine z_bipush C (by decide) dX10_ends_26 28 rfl ?_
      refine z_icmp_le C dX10_ends_28 34 (by decide) 31 rfl rfl (w32_id (a := 6) (by decide)) (fun _ => ?_) (fun _ => ?_)
      · refine z_aload_n C 0 rfl 0 rfl dX10_ends_34 35 rfl ?_
        refine z_aload_n C 0 rfl 0 rfl dX10_ends_35 36 rfl ?_
        refine y_getR C fX10_57 one_10 lay_10_8 dX10_ends_36 39 rfl ?_
        refine z_iload_n C 1 rfl 1 rfl dX10_ends_39 40 rfl ?_
        refine y_aald (t := 0) C lay_10_8.2 (by decide) rfl dX10_ends_40 41 rfl rfl (fun r => 63 + 12 * r) (fun h => lay_rules h) (fun hb3 => ?_)
        refine y_callVR C hR (tX10_meanOverOrders (mL X) G F σ (63 + 12 * (w32 x1)) ((lay_rules hb3).2)) ⟨mwX10_meanOverOrders, mvX10_meanOverOrders, lkX10_251⟩ one_10 rfl rfl (Nat.le_of_ble_eq_true rfl) (by unfold rmOK; decide) dX10_ends_41 44 rfl (fun r4 _ => ?_)
        refine z_astore_n (lv' := [(3, vr G ((63 + 12 * (w32 x1)) + 6)), (0, vr G 0), (1, vi x1), (2, vi x2)]) C 3 rfl (by decide) dX10_ends_44 45 rfl rfl ?_
        refine z_iload_n C 2 rfl 3 rfl dX10_ends_45 46 rfl ?_
        refine z_if_ne C dX10_ends_46 56 (by decide) 49 rfl rfl (fun _ => ?_) (fun _ => ?_)
        · refine z_aload_n C 3 rfl 0 rfl dX10_ends_56 57 rfl ?_
          refine y_getI C fX10_270 ((lay_5_5 ((lay_rules hb3).2)).2) dX10_ends_57 60 rfl ?_
          exact z_iret C R rfl rfl dX10_ends_60
        · refine z_aload_n C 3 rfl 0 rfl dX10_ends_49 50 rfl ?_
          refine y_getI C fX10_267 ((lay_5_5 ((lay_rules hb3).2)).2) dX10_ends_50 53 rfl ?_
          refine z_goto C dX10_ends_53 60 (by decide) ?_
          exact z_iret C R rfl rfl dX10_ends_60
      · refine z_bipush C (by decide) dX10_ends_31 33 rfl ?_
        exact z_iret C R rfl rfl dX10_ends_33
    · refine z_iconst C dX10_ends_17 18 rfl ?_
      exact z_iret C R rfl rfl dX10_ends_18
-- overRanks
def gX10_overRanks_L38 (F : Nat) (rc : St → Int → Int → Int → Int → Option (St)) (x0 : Int) (x1 : Int) (x2 : Int) (x3 : Int) : Nat → Int → St → Option (St)
  | 0, _, _ => none
  | n + 1, x5, σ => if w32 x5 ≥ w32 (σ (bd x0) 5) then some σ else (gX0_swapRanks σ (bd x0) x3 x5).bind fun r1 => (rc r1 x0 x1 x2 (x3 + 1)).bind fun r2 => (gX0_swapRanks r2 (bd x0) x3 x5).bind fun r3 => gX10_overRanks_L38 F rc x0 x1 x2 x3 n (x5 + 1) r3
def gX10_overRanks_L21 (F : Nat) (rc : St → Int → Int → Int → Int → Option (St)) (x0 : Int) (x1 : Int) (x2 : Int) (x3 : Int) (σ : St) : Option (St) := (gX7_runByNumbers F σ x0 x1).bind fun r1 => (gX7_value F r1 x0).bind fun r2 => (gX2_add r1 x2 r2).bind fun r3 => some r3
def gX10_overRanks (F : Nat) : Nat → St → Int → Int → Int → Int → Option (St)
  | 0, _, _, _, _, _ => none
  | d + 1, σ, x0, x1, x2, x3 => if w32 x3 ≥ w32 (σ (bd x0) 5) then gX10_overRanks_L21 F (gX10_overRanks F d) x0 x1 x2 x3 σ else if w32 x3 < 6 then gX10_overRanks_L38 F (gX10_overRanks F d) x0 x1 x2 x3 F x3 σ else gX10_overRanks_L21 F (gX10_overRanks F d) x0 x1 x2 x3 σ
def rmbX10_overRanks (rc : Room) : Prop := 6 ≤ rc.frames ∧ 142 ≤ rc.locals
theorem rmbX10_overRanks_X7_runByNumbers {rc : Room} (h : rmbX10_overRanks rc) : rmOK rmX7_runByNumbers rc 3 := ⟨rfl, rfl, Nat.le_trans (by decide) h.1, Nat.le_trans (by decide) h.2⟩
theorem rmbX10_overRanks_X7_value {rc : Room} (h : rmbX10_overRanks rc) : rmOK rmX7_value rc 3 := ⟨rfl, rfl, Nat.le_trans (by decide) h.1, Nat.le_trans (by decide) h.2⟩
theorem rmbX10_overRanks_X2_add {rc : Room} (h : rmbX10_overRanks rc) : rmOK rmX2_add rc 2 := ⟨rfl, rfl, Nat.le_trans (by decide) h.1, Nat.le_trans (by decide) h.2⟩
theorem rmbX10_overRanks_X0_swapRanks {rc : Room} (h : rmbX10_overRanks rc) : rmOK rmX0_swapRanks rc 4 := ⟨rfl, rfl, Nat.le_trans (by decide) h.1, Nat.le_trans (by decide) h.2⟩
def rmX10_overRanks (d : Nat) : Room := { frames := 6 + d, cells := 0, slots := 0, locals := 142 + d * 25 }
set_option maxRecDepth 100000 in
set_option maxHeartbeats 4000000 in
theorem pX10_overRanks_L38 {X : MX} {G : GG} (C : CX X G 6 cX10_overRanks RX10) (R : RT X none) {rcm rmr : Room} (hR : mR X = rcm ∧ rmOK rmr rcm 6 ∧ rmbX10_overRanks rcm) (F : Nat) (rc : St → Int → Int → Int → Int → Option (St)) (hrc : ∀ (σ : St) (x0 : Int) (x1 : Int) (x2 : Int) (x3 : Int) (h0 : isK x0 (0, 7)) (h1 : isK x1 (0, 5)) (h2 : isK x2 (0, 2)), Ctr (mL X) G yX10_overRanks cX10_overRanks 6 none rmr [vr G x0, vr G x1, vr G x2, vi x3] (w0 σ) vzV wzV (rc σ x0 x1 x2 x3)) (x0 : Int) (h0 : isK x0 (0, 7)) (x1 : Int) (h1 : isK x1 (0, 5)) (x2 : Int) (h2 : isK x2 (0, 2)) (x3 : Int)  : ∀ (n : Nat) (x5 : Int) (σ : St), ZZ X G 6 (QM X G vzV wzV (0, 0)) (0, 0) (gX10_overRanks_L38 F rc x0 x1 x2 x3 n x5 σ) (w0 σ) 38 [(0, vr G x0), (1, vr G x1), (2, vr G x2), (3, vi x3), (4, vr G (bd x0)), (5, vi x5)] [] := by
  intro n
  induction n with
  | zero =>
    intro _ _
    exact z_none
  | succ n ih =>
    intro x5 σ
    show ZZ X G 6 (QM X G vzV wzV (0, 0)) (0, 0) (if w32 x5 ≥ w32 (σ (bd x0) 5) then some σ else (gX0_swapRanks σ (bd x0) x3 x5).bind fun r1 => (rc r1 x0 x1 x2 (x3 + 1)).bind fun r2 => (gX0_swapRanks r2 (bd x0) x3 x5).bind fun r3 => gX10_overRanks_L38 F rc x0 x1 x2 x3 n (x5 + 1) r3) (w0 σ) 38 [(0, vr G x0), (1, vr G x1), (2, vr G x2), (3, vi x3), (4, vr G (bd x0)), (5, vi x5)] []
    refine z_iload C 5 rfl dX10_overRanks_38 40 rfl ?_
    refine z_aload C 4 rfl dX10_overRanks_40 42 rfl ?_
    refine y_getI C fX10_84 ((lay_7_0 h0).2) dX10_overRanks_42 45 rfl ?_
    refine z_icmp_ge C dX10_overRanks_45 79 (by decide) 48 rfl rfl rfl (fun _ => ?_) (fun _ => ?_)
    · exact z_vret C R rfl rfl dX10_overRanks_79
    · refine z_aload C 4 rfl dX10_overRanks_48 50 rfl ?_
      refine z_iload_n C 3 rfl 3 rfl dX10_overRanks_50 51 rfl ?_
      refine z_iload C 5 rfl dX10_overRanks_51 53 rfl ?_
      refine y_callVv C hR.1 (tX0_swapRanks (mL X) G σ (bd x0) x3 x5 ((lay_7_0 h0).2)) ⟨mwX0_swapRanks, mvX0_swapRanks, lkX10_400⟩ ((lay_7_0 h0).2) rfl rfl (Nat.le_of_ble_eq_true rfl) (rmbX10_overRanks_X0_swapRanks hR.2.2) dX10_overRanks_53 56 rfl (fun r1 _ => ?_)
      refine z_aload_n C 0 rfl 0 rfl dX10_overRanks_56 57 rfl ?_
      refine z_aload_n C 1 rfl 1 rfl dX10_overRanks_57 58 rfl ?_
      refine z_aload_n C 2 rfl 2 rfl dX10_overRanks_58 59 rfl ?_
      refine z_iload_n C 3 rfl 3 rfl dX10_overRanks_59 60 rfl ?_
      refine z_iconst C dX10_overRanks_60 61 rfl ?_
      refine z_iadd C dX10_overRanks_61 62 rfl ?_
      refine y_callSv C hR.1 (hrc r1 x0 x1 x2 (x3 + 1) h0 h1 h2) ⟨mwX10_overRanks, msX10_overRanks, lkX10_293⟩ rfl rfl (Nat.le_of_ble_eq_true rfl) (hR.2.1) dX10_overRanks_62 65 rfl (fun r2 _ => ?_)
      refine z_aload C 4 rfl dX10_overRanks_65 67 rfl ?_
      refine z_iload_n C 3 rfl 3 rfl dX10_overRanks_67 68 rfl ?_
      refine z_iload C 5 rfl dX10_overRanks_68 70 rfl ?_
      refine y_callVv C hR.1 (tX0_swapRanks (mL X) G r2 (bd x0) x3 x5 ((lay_7_0 h0).2)) ⟨mwX0_swapRanks, mvX0_swapRanks, lkX10_400⟩ ((lay_7_0 h0).2) rfl rfl (Nat.le_of_ble_eq_true rfl) (rmbX10_overRanks_X0_swapRanks hR.2.2) dX10_overRanks_70 73 rfl (fun r3 _ => ?_)
      refine z_iinc (lv' := [(5, vi (x5 + 1)), (0, vr G x0), (1, vr G x1), (2, vr G x2), (3, vi x3), (4, vr G (bd x0))]) C (by decide) 5 rfl dX10_overRanks_73 76 rfl rfl ?_
      refine z_goto C dX10_overRanks_76 38 (by decide) ?_
      refine z_lv (lv' := [(0, vr G x0), (1, vr G x1), (2, vr G x2), (3, vi x3), (4, vr G (bd x0)), (5, vi (x5 + 1))]) [1, 2, 3, 4, 5, 0] rfl ?_
      exact ih (x5 + 1) r3
set_option maxRecDepth 100000 in
set_option maxHeartbeats 4000000 in
theorem pX10_overRanks_L21 {X : MX} {G : GG} (C : CX X G 6 cX10_overRanks RX10) (R : RT X none) {rcm rmr : Room} (hR : mR X = rcm ∧ rmOK rmr rcm 6 ∧ rmbX10_overRanks rcm) (F : Nat) (rc : St → Int → Int → Int → Int → Option (St)) (hrc : ∀ (σ : St) (x0 : Int) (x1 : Int) (x2 : Int) (x3 : Int) (h0 : isK x0 (0, 7)) (h1 : isK x1 (0, 5)) (h2 : isK x2 (0, 2)), Ctr (mL X) G yX10_overRanks cX10_overRanks 6 none rmr [vr G x0, vr G x1, vr G x2, vi x3] (w0 σ) vzV wzV (rc σ x0 x1 x2 x3)) (x0 : Int) (h0 : isK x0 (0, 7)) (x1 : Int) (h1 : isK x1 (0, 5)) (x2 : Int) (h2 : isK x2 (0, 2)) (x3 : Int)  : ∀ (σ : St), ZZ X G 6 (QM X G vzV wzV (0, 0)) (0, 0) (gX10_overRanks_L21 F rc x0 x1 x2 x3 σ) (w0 σ) 21 [(0, vr G x0), (1, vr G x1), (2, vr G x2)] [] := by
  intro σ
  show ZZ X G 6 (QM X G vzV wzV (0, 0)) (0, 0) ((gX7_runByNumbers F σ x0 x1).bind fun r1 => (gX7_value F r1 x0).bind fun r2 => (gX2_add r1 x2 r2).bind fun r3 => some r3) (w0 σ) 21 [(0, vr G x0), (1, vr G x1), (2, vr G x2)] []
  refine z_aload_n C 0 rfl 0 rfl dX10_overRanks_21 22 rfl ?_
  refine z_aload_n C 1 rfl 1 rfl dX10_overRanks_22 23 rfl ?_
  refine y_callVv C hR.1 (tX7_runByNumbers (mL X) G F σ x0 x1 h0 h1) ⟨mwX7_runByNumbers, mvX7_runByNumbers, lkX10_198⟩ h0 rfl rfl (Nat.le_of_ble_eq_true rfl) (rmbX10_overRanks_X7_runByNumbers hR.2.2) dX10_overRanks_23 26 rfl (fun r1 _ => ?_)
  refine z_aload_n C 2 rfl 2 rfl dX10_overRanks_26 27 rfl ?_
  refine z_aload_n C 0 rfl 0 rfl dX10_overRanks_27 28 rfl ?_
  refine y_callVI C hR.1 (tX7_value (mL X) G F r1 x0 h0) ⟨mwX7_value, mvX7_value, lkX10_201⟩ h0 rfl rfl (Nat.le_of_ble_eq_true rfl) (rmbX10_overRanks_X7_value hR.2.2) dX10_overRanks_28 31 rfl (fun r2 _ => ?_)
  refine y_callVv C hR.1 (tX2_add (mL X) G r1 x2 r2 h2) ⟨mwX2_add, mvX2_add, lkX10_397⟩ h2 rfl rfl (Nat.le_of_ble_eq_true rfl) (rmbX10_overRanks_X2_add hR.2.2) dX10_overRanks_31 34 rfl (fun r3 _ => ?_)
  exact z_vret C R rfl rfl dX10_overRanks_34
set_option maxRecDepth 100000 in
set_option maxHeartbeats 4000000 in
theorem tX10_overRanks (l : Launch) (G : GG) (F : Nat) : ∀ (d : Nat) (σ : St) (x0 : Int) (x1 : Int) (x2 : Int) (x3 : Int) (h0 : isK x0 (0, 7)) (h1 : isK x1 (0, 5)) (h2 : isK x2 (0, 2)), Ctr l G yX10_overRanks cX10_overRanks 6 none (rmX10_overRanks d) [vr G x0, vr G x1, vr G x2, vi x3] (w0 σ) vzV wzV (gX10_overRanks F d σ x0 x1 x2 x3) := by
  intro d
  induction d with
  | zero =>
    intro σ x0 x1 x2 x3 h0 h1 h2 z hz
    cases hz
  | succ d ih =>
    intro σ x0 x1 x2 x3 h0 h1 h2
    refine ctr_of (by decide) (Nat.le_of_ble_eq_true rfl) mwX10_overRanks.1 (fun X hl hR C R hnm => ?_)
    subst hl
    refine z_lv (lv' := [(0, vr G x0), (1, vr G x1), (2, vr G x2), (3, vi x3)]) [0, 1, 2, 3] rfl ?_
    show ZZ X G 6 (QM X G vzV wzV (0, 0)) (0, 0) (if w32 x3 ≥ w32 (σ (bd x0) 5) then gX10_overRanks_L21 F (gX10_overRanks F d) x0 x1 x2 x3 σ else if w32 x3 < 6 then gX10_overRanks_L38 F (gX10_overRanks F d) x0 x1 x2 x3 F x3 σ else gX10_overRanks_L21 F (gX10_overRanks F d) x0 x1 x2 x3 σ) (w0 σ) 0 [(0, vr G x0), (1, vr G x1), (2, vr G x2), (3, vi x3)] []
    refine z_aload_n C 0 rfl 0 rfl dX10_overRanks_0 1 rfl ?_
    refine y_getR C fX10_396 h0 (lay_7_0 h0) dX10_overRanks_1 4 rfl ?_
    refine z_astore (lv' := [(4, vr G (bd x0)), (0, vr G x0), (1, vr G x1), (2, vr G x2), (3, vi x3)]) C (by decide) dX10_overRanks_4 6 rfl rfl ?_
    refine z_iload_n C 3 rfl 4 rfl dX10_overRanks_6 7 rfl ?_
    refine z_aload C 0 rfl dX10_overRanks_7 9 rfl ?_
    refine y_getI C fX10_84 ((lay_7_0 h0).2) dX10_overRanks_9 12 rfl ?_
    refine z_icmp_ge C dX10_overRanks_12 21 (by decide) 15 rfl rfl rfl (fun _ => ?_) (fun _ => ?_)
    · refine z_lv (lv' := [(0, vr G x0), (1, vr G x1), (2, vr G x2)]) [1, 2, 3] rfl ?_
      exact pX10_overRanks_L21 C R (rmr := rmX10_overRanks d) ⟨hR, (by unfold rmOK rmX10_overRanks; exact ⟨rfl, rfl, by dsimp only; omega, by dsimp only; omega⟩), (by unfold rmbX10_overRanks rmX10_overRanks; exact ⟨by dsimp only; omega, by dsimp only; omega⟩)⟩ F (gX10_overRanks F d) (fun σ x0 x1 x2 x3 h0 h1 h2 => ih σ x0 x1 x2 x3 h0 h1 h2) x0 h0 x1 h1 x2 h2 x3 σ
    · refine z_iload_n C 3 rfl 4 rfl dX10_overRanks_15 16 rfl ?_
      refine z_bipush C (by decide) dX10_overRanks_16 18 rfl ?_
      refine z_icmp_lt C dX10_overRanks_18 35 (by decide) 21 rfl rfl (w32_id (a := 6) (by decide)) (fun _ => ?_) (fun _ => ?_)
      · refine z_iload_n C 3 rfl 4 rfl dX10_overRanks_35 36 rfl ?_
        refine z_istore (lv' := [(5, vi x3), (4, vr G (bd x0)), (0, vr G x0), (1, vr G x1), (2, vr G x2), (3, vi x3)]) C (by decide) dX10_overRanks_36 38 rfl rfl ?_
        refine z_lv (lv' := [(0, vr G x0), (1, vr G x1), (2, vr G x2), (3, vi x3), (4, vr G (bd x0)), (5, vi x3)]) [2, 3, 4, 5, 1, 0] rfl ?_
        exact pX10_overRanks_L38 C R (rmr := rmX10_overRanks d) ⟨hR, (by unfold rmOK rmX10_overRanks; exact ⟨rfl, rfl, by dsimp only; omega, by dsimp only; omega⟩), (by unfold rmbX10_overRanks rmX10_overRanks; exact ⟨by dsimp only; omega, by dsimp only; omega⟩)⟩ F (gX10_overRanks F d) (fun σ x0 x1 x2 x3 h0 h1 h2 => ih σ x0 x1 x2 x3 h0 h1 h2) x0 h0 x1 h1 x2 h2 x3 F x3 σ
      · refine z_lv (lv' := [(0, vr G x0), (1, vr G x1), (2, vr G x2)]) [1, 2, 3] rfl ?_
        exact pX10_overRanks_L21 C R (rmr := rmX10_overRanks d) ⟨hR, (by unfold rmOK rmX10_overRanks; exact ⟨rfl, rfl, by dsimp only; omega, by dsimp only; omega⟩), (by unfold rmbX10_overRanks rmX10_overRanks; exact ⟨by dsimp only; omega, by dsimp only; omega⟩)⟩ F (gX10_overRanks F d) (fun σ x0 x1 x2 x3 h0 h1 h2 => ih σ x0 x1 x2 x3 h0 h1 h2) x0 h0 x1 h1 x2 h2 x3 σ
-- meanOfRanks
def gX10_meanOfRanks_L104 (F : Nat) (x1 : Int) (x2 : Int) (x3 : Int) (σ : St) : Option (Int × St) := (gX10_inLowestTerms F σ (σ x3 1) (σ x3 2) x2).bind fun r1 => some (r1, σ)
def gX10_meanOfRanks_L101 (F : Nat) (x1 : Int) (x2 : Int) (x3 : Int) (s1 : Int) (s2 : Int) (s3 : Int) (σ : St) : Option (Int × St) := (gX10_overRanks F 8 σ 33 s1 s2 s3).bind fun r1 => gX10_meanOfRanks_L104 F x1 x2 x3 r1
def gX10_meanOfRanks (F : Nat) (σ : St) (x1 : Int) (x2 : Int) : Option (Int × St) := (gX10_isRule σ x1).bind fun r1 => if w32 r1 = 0 then some ((-1), σ) else (gX10_isIn σ x2 0 1).bind fun r2 => if w32 r2 ≠ 0 then gd (0 ≤ w32 x1 ∧ w32 x1 < 6) ((gX2_isStale σ ((63 + 12 * (w32 x1)) + 7) (σ 1 7)).bind fun r4 => if w32 r4 = 0 then gX10_meanOfRanks_L104 F x1 x2 ((63 + 12 * (w32 x1)) + 7) σ else (gX2_start σ ((63 + 12 * (w32 x1)) + 7) (σ 1 7)).bind fun r5 => (gX0_copyOf r5 27 1).bind fun r6 => gd (0 ≤ w32 x1 ∧ w32 x1 < 6) (gd (0 ≤ w32 x1 ∧ w32 x1 < 6) ((gX5_asksRank F r6 (63 + 12 * (w32 x1))).bind fun r9 => if w32 r9 = 0 then gX10_meanOfRanks_L101 F x1 x2 ((63 + 12 * (w32 x1)) + 7) (63 + 12 * (w32 x1)) ((63 + 12 * (w32 x1)) + 7) (r6 1 5) r6 else gX10_meanOfRanks_L101 F x1 x2 ((63 + 12 * (w32 x1)) + 7) (63 + 12 * (w32 x1)) ((63 + 12 * (w32 x1)) + 7) 0 r6))) else some ((-1), σ)
def rmX10_meanOfRanks : Room := { frames := 17, cells := 0, slots := 0, locals := 417 }
set_option maxRecDepth 100000 in
set_option maxHeartbeats 4000000 in
theorem pX10_meanOfRanks_L104 {X : MX} {G : GG} (C : CX X G 4 cX10_meanOfRanks RX10) (R : RT X (some .long)) (hR : mR X = rmX10_meanOfRanks) (F : Nat) (x1 : Int) (x2 : Int)  : ∀ (x3 : Int) (σ : St) (h3 : isK x3 (0, 2)), ZZ X G 4 (QM X G vzJw wzW (0, 0)) (0, 0) (gX10_meanOfRanks_L104 F x1 x2 x3 σ) (w0 σ) 104 [(2, vi x2), (3, vr G x3)] [] := by
  intro x3 σ h3
  show ZZ X G 4 (QM X G vzJw wzW (0, 0)) (0, 0) ((gX10_inLowestTerms F σ (σ x3 1) (σ x3 2) x2).bind fun r1 => some (r1, σ)) (w0 σ) 104 [(2, vi x2), (3, vr G x3)] []
  refine z_aload_n C 3 rfl 1 rfl dX10_meanOfRanks_104 105 rfl ?_
  refine y_getJ C fX10_255 h3 dX10_meanOfRanks_105 108 rfl ?_
  refine z_aload_n C 3 rfl 1 rfl dX10_meanOfRanks_108 109 rfl ?_
  refine y_getJ C fX10_260 h3 dX10_meanOfRanks_109 112 rfl ?_
  refine z_iload_n C 2 rfl 0 rfl dX10_meanOfRanks_112 113 rfl ?_
  refine y_callSJ C hR (tX10_inLowestTerms (mL X) G F σ (σ x3 1) (σ x3 2) x2) ⟨mwX10_inLowestTerms, msX10_inLowestTerms, lkX10_263⟩ rfl rfl (Nat.le_of_ble_eq_true rfl) (by unfold rmOK; decide) dX10_meanOfRanks_113 116 rfl (fun r1 _ => ?_)
  exact z_lret C R rfl rfl dX10_meanOfRanks_116
set_option maxRecDepth 100000 in
set_option maxHeartbeats 4000000 in
theorem pX10_meanOfRanks_L101 {X : MX} {G : GG} (C : CX X G 4 cX10_meanOfRanks RX10) (R : RT X (some .long)) (hR : mR X = rmX10_meanOfRanks) (F : Nat) (x1 : Int) (x2 : Int)  : ∀ (x3 : Int) (s1 : Int) (s2 : Int) (s3 : Int) (σ : St) (h3 : isK x3 (0, 2)) (hs1 : isK s1 (0, 5)) (hs2 : isK s2 (0, 2)), ZZ X G 4 (QM X G vzJw wzW (0, 0)) (0, 0) (gX10_meanOfRanks_L101 F x1 x2 x3 s1 s2 s3 σ) (w0 σ) 101 [(2, vi x2), (3, vr G x3)] [vi s3, vr G s2, vr G s1, vr G 33] := by
  intro x3 s1 s2 s3 σ h3 hs1 hs2
  show ZZ X G 4 (QM X G vzJw wzW (0, 0)) (0, 0) ((gX10_overRanks F 8 σ 33 s1 s2 s3).bind fun r1 => gX10_meanOfRanks_L104 F x1 x2 x3 r1) (w0 σ) 101 [(2, vi x2), (3, vr G x3)] [vi s3, vr G s2, vr G s1, vr G 33]
  refine y_callSv C hR (tX10_overRanks (mL X) G F 8 σ 33 s1 s2 s3 lay_10_4.2 hs1 hs2) ⟨mwX10_overRanks, msX10_overRanks, lkX10_293⟩ rfl rfl (Nat.le_of_ble_eq_true rfl) (by unfold rmOK; decide) dX10_meanOfRanks_101 104 rfl (fun r1 _ => ?_)
  exact pX10_meanOfRanks_L104 C R hR F x1 x2 x3 r1 h3
set_option maxRecDepth 100000 in
set_option maxHeartbeats 4000000 in
theorem tX10_meanOfRanks (l : Launch) (G : GG) (F : Nat) (σ : St) (x1 : Int) (x2 : Int) : Ctr l G yX10_meanOfRanks cX10_meanOfRanks 4 (some .long) rmX10_meanOfRanks [vr G 0, vi x1, vi x2] (w0 σ) vzJw wzW (gX10_meanOfRanks F σ x1 x2) := by
  refine ctr_of (by decide) (Nat.le_of_ble_eq_true rfl) mwX10_meanOfRanks.1 (fun X hl hR C R hnm => ?_)
  subst hl
  refine z_lv (lv' := [(0, vr G 0), (1, vi x1), (2, vi x2)]) [0, 1, 2] rfl ?_
  show ZZ X G 4 (QM X G vzJw wzW (0, 0)) (0, 0) ((gX10_isRule σ x1).bind fun r1 => if w32 r1 = 0 then some ((-1), σ) else (gX10_isIn σ x2 0 1).bind fun r2 => if w32 r2 ≠ 0 then gd (0 ≤ w32 x1 ∧ w32 x1 < 6) ((gX2_isStale σ ((63 + 12 * (w32 x1)) + 7) (σ 1 7)).bind fun r4 => if w32 r4 = 0 then gX10_meanOfRanks_L104 F x1 x2 ((63 + 12 * (w32 x1)) + 7) σ else (gX2_start σ ((63 + 12 * (w32 x1)) + 7) (σ 1 7)).bind fun r5 => (gX0_copyOf r5 27 1).bind fun r6 => gd (0 ≤ w32 x1 ∧ w32 x1 < 6) (gd (0 ≤ w32 x1 ∧ w32 x1 < 6) ((gX5_asksRank F r6 (63 + 12 * (w32 x1))).bind fun r9 => if w32 r9 = 0 then gX10_meanOfRanks_L101 F x1 x2 ((63 + 12 * (w32 x1)) + 7) (63 + 12 * (w32 x1)) ((63 + 12 * (w32 x1)) + 7) (r6 1 5) r6 else gX10_meanOfRanks_L101 F x1 x2 ((63 + 12 * (w32 x1)) + 7) (63 + 12 * (w32 x1)) ((63 + 12 * (w32 x1)) + 7) 0 r6))) else some ((-1), σ)) (w0 σ) 0 [(0, vr G 0), (1, vi x1), (2, vi x2)] []
  refine z_aload_n C 0 rfl 0 rfl dX10_meanOfRanks_0 1 rfl ?_
  refine z_iload_n C 1 rfl 1 rfl dX10_meanOfRanks_1 2 rfl ?_
  refine y_callVI C hR (tX10_isRule (mL X) G σ x1) ⟨mwX10_isRule, mvX10_isRule, lkX10_174⟩ one_10 rfl rfl (Nat.le_of_ble_eq_true rfl) (by unfold rmOK; decide) dX10_meanOfRanks_2 5 rfl (fun r1 _ => ?_)
  refine z_if_eq C dX10_meanOfRanks_5 17 (by decide) 8 rfl rfl (fun _ => ?_) (fun _ => ?_)
  · refine z_ldc2 (v := (-1)) C clX10_247 (by decide) dX10_meanOfRanks_17 20 rfl ?_
    exact z_lret C R rfl rfl dX10_meanOfRanks_20
  · refine z_iload_n C 2 rfl 2 rfl dX10_meanOfRanks_8 9 rfl ?_
    refine z_iconst C dX10_meanOfRanks_9 10 rfl ?_
    refine z_iconst C dX10_meanOfRanks_10 11 rfl ?_
    refine y_callSI C hR (tX10_isIn (mL X) G σ x2 0 1) ⟨mwX10_isIn, msX10_isIn, lkX10_76⟩ rfl rfl (Nat.le_of_ble_eq_true rfl) (by unfold rmOK; decide) dX10_meanOfRanks_11 14 rfl (fun r2 _ => ?_)
    refine z_if_ne C dX10_meanOfRanks_14 21 (by decide) 17 rfl rfl (fun _ => ?_) (fun _ => ?_)
    · refine z_aload_n C 0 rfl 0 rfl dX10_meanOfRanks_21 22 rfl ?_
      refine y_getR C fX10_57 one_10 lay_10_8 dX10_meanOfRanks_22 25 rfl ?_
      refine z_iload_n C 1 rfl 1 rfl dX10_meanOfRanks_25 26 rfl ?_
      refine y_aald (t := 0) C lay_10_8.2 (by decide) rfl dX10_meanOfRanks_26 27 rfl rfl (fun r => 63 + 12 * r) (fun h => lay_rules h) (fun hb3 => ?_)
      refine y_getR C fX10_272 ((lay_rules hb3).2) (lay_5_6 ((lay_rules hb3).2)) dX10_meanOfRanks_27 30 rfl ?_
      refine z_astore_n (lv' := [(3, vr G ((63 + 12 * (w32 x1)) + 7)), (0, vr G 0), (1, vi x1), (2, vi x2)]) C 3 rfl (by decide) dX10_meanOfRanks_30 31 rfl rfl ?_
      refine z_aload_n C 3 rfl 0 rfl dX10_meanOfRanks_31 32 rfl ?_
      refine z_aload_n C 0 rfl 1 rfl dX10_meanOfRanks_32 33 rfl ?_
      refine y_getR C fX10_10 one_10 lay_10_0 dX10_meanOfRanks_33 36 rfl ?_
      refine y_getI C fX10_276 lay_10_0.2 dX10_meanOfRanks_36 39 rfl ?_
      refine y_callVI C hR (tX2_isStale (mL X) G σ ((63 + 12 * (w32 x1)) + 7) (σ 1 7) ((lay_5_6 ((lay_rules hb3).2)).2)) ⟨mwX2_isStale, mvX2_isStale, lkX10_279⟩ ((lay_5_6 ((lay_rules hb3).2)).2) rfl rfl (Nat.le_of_ble_eq_true rfl) (by unfold rmOK; decide) dX10_meanOfRanks_39 42 rfl (fun r4 _ => ?_)
      refine z_if_eq C dX10_meanOfRanks_42 104 (by decide) 45 rfl rfl (fun _ => ?_) (fun _ => ?_)
      · refine z_lv (lv' := [(2, vi x2), (3, vr G ((63 + 12 * (w32 x1)) + 7))]) [3, 0] rfl ?_
        exact pX10_meanOfRanks_L104 C R hR F x1 x2 ((63 + 12 * (w32 x1)) + 7) σ ((lay_5_6 ((lay_rules hb3).2)).2)
      · refine z_aload_n C 3 rfl 0 rfl dX10_meanOfRanks_45 46 rfl ?_
        refine z_aload_n C 0 rfl 1 rfl dX10_meanOfRanks_46 47 rfl ?_
        refine y_getR C fX10_10 one_10 lay_10_0 dX10_meanOfRanks_47 50 rfl ?_
        refine y_getI C fX10_276 lay_10_0.2 dX10_meanOfRanks_50 53 rfl ?_
        refine y_callVv C hR (tX2_start (mL X) G σ ((63 + 12 * (w32 x1)) + 7) (σ 1 7) ((lay_5_6 ((lay_rules hb3).2)).2)) ⟨mwX2_start, mvX2_start, lkX10_282⟩ ((lay_5_6 ((lay_rules hb3).2)).2) rfl rfl (Nat.le_of_ble_eq_true rfl) (by unfold rmOK; decide) dX10_meanOfRanks_53 56 rfl (fun r5 _ => ?_)
        refine z_aload_n C 0 rfl 1 rfl dX10_meanOfRanks_56 57 rfl ?_
        refine y_getR C fX10_28 one_10 lay_10_3 dX10_meanOfRanks_57 60 rfl ?_
        refine z_aload_n C 0 rfl 1 rfl dX10_meanOfRanks_60 61 rfl ?_
        refine y_getR C fX10_10 one_10 lay_10_0 dX10_meanOfRanks_61 64 rfl ?_
        refine y_callVv C hR (tX0_copyOf (mL X) G r5 27 1 lay_10_3.2 lay_10_0.2) ⟨mwX0_copyOf, mvX0_copyOf, lkX10_286⟩ lay_10_3.2 rfl rfl (Nat.le_of_ble_eq_true rfl) (by unfold rmOK; decide) dX10_meanOfRanks_64 67 rfl (fun r6 _ => ?_)
        refine z_aload_n C 0 rfl 1 rfl dX10_meanOfRanks_67 68 rfl ?_
        refine y_getR C fX10_31 one_10 lay_10_4 dX10_meanOfRanks_68 71 rfl ?_
        refine z_aload_n C 0 rfl 1 rfl dX10_meanOfRanks_71 72 rfl ?_
        refine y_getR C fX10_57 one_10 lay_10_8 dX10_meanOfRanks_72 75 rfl ?_
        refine z_iload_n C 1 rfl 2 rfl dX10_meanOfRanks_75 76 rfl ?_
        refine y_aald (t := 0) C lay_10_8.2 (by decide) rfl dX10_meanOfRanks_76 77 rfl rfl (fun r => 63 + 12 * r) (fun h => lay_rules h) (fun hb7 => ?_)
        refine z_aload_n C 3 rfl 0 rfl dX10_meanOfRanks_77 78 rfl ?_
        refine z_aload_n C 0 rfl 1 rfl dX10_meanOfRanks_78 79 rfl ?_
        refine y_getR C fX10_57 one_10 lay_10_8 dX10_meanOfRanks_79 82 rfl ?_
        refine z_iload_n C 1 rfl 2 rfl dX10_meanOfRanks_82 83 rfl ?_
        refine y_aald (t := 0) C lay_10_8.2 (by decide) rfl dX10_meanOfRanks_83 84 rfl rfl (fun r => 63 + 12 * r) (fun h => lay_rules h) (fun hb8 => ?_)
        refine y_callVI C hR (tX5_asksRank (mL X) G F r6 (63 + 12 * (w32 x1)) ((lay_rules hb8).2)) ⟨mwX5_asksRank, mvX5_asksRank, lkX10_289⟩ ((lay_rules hb8).2) rfl rfl (Nat.le_of_ble_eq_true rfl) (by unfold rmOK; decide) dX10_meanOfRanks_84 87 rfl (fun r9 _ => ?_)
        refine z_if_eq C dX10_meanOfRanks_87 94 (by decide) 90 rfl rfl (fun _ => ?_) (fun _ => ?_)
        · refine z_aload_n C 0 rfl 1 rfl dX10_meanOfRanks_94 95 rfl ?_
          refine y_getR C fX10_10 one_10 lay_10_0 dX10_meanOfRanks_95 98 rfl ?_
          refine y_getI C fX10_84 lay_10_0.2 dX10_meanOfRanks_98 101 rfl ?_
          refine z_lv (lv' := [(2, vi x2), (3, vr G ((63 + 12 * (w32 x1)) + 7))]) [3, 0] rfl ?_
          exact pX10_meanOfRanks_L101 C R hR F x1 x2 ((63 + 12 * (w32 x1)) + 7) (63 + 12 * (w32 x1)) ((63 + 12 * (w32 x1)) + 7) (r6 1 5) r6 ((lay_5_6 ((lay_rules hb3).2)).2) ((lay_rules hb7).2) ((lay_5_6 ((lay_rules hb3).2)).2)
        · refine z_iconst C dX10_meanOfRanks_90 91 rfl ?_
          refine z_goto C dX10_meanOfRanks_91 101 (by decide) ?_
          refine z_lv (lv' := [(2, vi x2), (3, vr G ((63 + 12 * (w32 x1)) + 7))]) [3, 0] rfl ?_
          exact pX10_meanOfRanks_L101 C R hR F x1 x2 ((63 + 12 * (w32 x1)) + 7) (63 + 12 * (w32 x1)) ((63 + 12 * (w32 x1)) + 7) 0 r6 ((lay_5_6 ((lay_rules hb3).2)).2) ((lay_rules hb7).2) ((lay_5_6 ((lay_rules hb3).2)).2)
    · refine z_ldc2 (v := (-1)) C clX10_247 (by decide) dX10_meanOfRanks_17 20 rfl ?_
      exact z_lret C R rfl rfl dX10_meanOfRanks_20
-- hope
def gX10_hope (F : Nat) (σ : St) (x1 : Int) (x2 : Int) : Option (Int × St) := (gX10_isIn σ x1 0 6).bind fun r1 => if w32 r1 = 0 then some ((-1), σ) else (gX10_isIn σ x2 0 1).bind fun r2 => if w32 r2 ≠ 0 then (gX1_bringUp F σ).bind fun r3 => if w32 (r3 50 1) ≠ 0 then (gX1_atStart r3 x1).bind fun r4 => gd (0 ≤ w32 x1 ∧ w32 x1 < 7) ((gX10_inLowestTerms F r3 r4 (r3 51 (w32 x1)) x2).bind fun r5 => some (r5, r3)) else some ((-2), r3) else some ((-1), σ)
def rmX10_hope : Room := { frames := 5, cells := 0, slots := 0, locals := 119 }
set_option maxRecDepth 100000 in
set_option maxHeartbeats 4000000 in
theorem tX10_hope (l : Launch) (G : GG) (F : Nat) (σ : St) (x1 : Int) (x2 : Int) : Ctr l G yX10_hope cX10_hope 3 (some .long) rmX10_hope [vr G 0, vi x1, vi x2] (w0 σ) vzJw wzW (gX10_hope F σ x1 x2) := by
  refine ctr_of (by decide) (Nat.le_of_ble_eq_true rfl) mwX10_hope.1 (fun X hl hR C R hnm => ?_)
  subst hl
  refine z_lv (lv' := [(0, vr G 0), (1, vi x1), (2, vi x2)]) [0, 1, 2] rfl ?_
  show ZZ X G 3 (QM X G vzJw wzW (0, 0)) (0, 0) ((gX10_isIn σ x1 0 6).bind fun r1 => if w32 r1 = 0 then some ((-1), σ) else (gX10_isIn σ x2 0 1).bind fun r2 => if w32 r2 ≠ 0 then (gX1_bringUp F σ).bind fun r3 => if w32 (r3 50 1) ≠ 0 then (gX1_atStart r3 x1).bind fun r4 => gd (0 ≤ w32 x1 ∧ w32 x1 < 7) ((gX10_inLowestTerms F r3 r4 (r3 51 (w32 x1)) x2).bind fun r5 => some (r5, r3)) else some ((-2), r3) else some ((-1), σ)) (w0 σ) 0 [(0, vr G 0), (1, vi x1), (2, vi x2)] []
  refine z_iload_n C 1 rfl 1 rfl dX10_hope_0 1 rfl ?_
  refine z_iconst C dX10_hope_1 2 rfl ?_
  refine z_bipush C (by decide) dX10_hope_2 4 rfl ?_
  refine y_callSI C hR (tX10_isIn (mL X) G σ x1 0 6) ⟨mwX10_isIn, msX10_isIn, lkX10_76⟩ rfl rfl (Nat.le_of_ble_eq_true rfl) (by unfold rmOK; decide) dX10_hope_4 7 rfl (fun r1 _ => ?_)
  refine z_if_eq C dX10_hope_7 19 (by decide) 10 rfl rfl (fun _ => ?_) (fun _ => ?_)
  · refine z_ldc2 (v := (-1)) C clX10_247 (by decide) dX10_hope_19 22 rfl ?_
    exact z_lret C R rfl rfl dX10_hope_22
  · refine z_iload_n C 2 rfl 2 rfl dX10_hope_10 11 rfl ?_
    refine z_iconst C dX10_hope_11 12 rfl ?_
    refine z_iconst C dX10_hope_12 13 rfl ?_
    refine y_callSI C hR (tX10_isIn (mL X) G σ x2 0 1) ⟨mwX10_isIn, msX10_isIn, lkX10_76⟩ rfl rfl (Nat.le_of_ble_eq_true rfl) (by unfold rmOK; decide) dX10_hope_13 16 rfl (fun r2 _ => ?_)
    refine z_if_ne C dX10_hope_16 23 (by decide) 19 rfl rfl (fun _ => ?_) (fun _ => ?_)
    · refine z_aload_n C 0 rfl 0 rfl dX10_hope_23 24 rfl ?_
      refine y_getR C fX10_44 one_10 lay_10_6 dX10_hope_24 27 rfl ?_
      refine y_callVv C hR (tX1_bringUp (mL X) G F σ) ⟨mwX1_bringUp, mvX1_bringUp, lkX10_297⟩ lay_10_6.2 rfl rfl (Nat.le_of_ble_eq_true rfl) (by unfold rmOK; decide) dX10_hope_27 30 rfl (fun r3 _ => ?_)
      refine z_aload_n C 0 rfl 0 rfl dX10_hope_30 31 rfl ?_
      refine y_getR C fX10_44 one_10 lay_10_6 dX10_hope_31 34 rfl ?_
      refine y_getI C fX10_300 lay_10_6.2 dX10_hope_34 37 rfl ?_
      refine z_if_ne C dX10_hope_37 44 (by decide) 40 rfl rfl (fun _ => ?_) (fun _ => ?_)
      · refine z_aload_n C 0 rfl 0 rfl dX10_hope_44 45 rfl ?_
        refine y_getR C fX10_44 one_10 lay_10_6 dX10_hope_45 48 rfl ?_
        refine z_iload_n C 1 rfl 1 rfl dX10_hope_48 49 rfl ?_
        refine y_callVJ C hR (tX1_atStart (mL X) G r3 x1) ⟨mwX1_atStart, mvX1_atStart, lkX10_303⟩ lay_10_6.2 rfl rfl (Nat.le_of_ble_eq_true rfl) (by unfold rmOK; decide) dX10_hope_49 52 rfl (fun r4 _ => ?_)
        refine z_aload_n C 0 rfl 0 rfl dX10_hope_52 53 rfl ?_
        refine y_getR C fX10_44 one_10 lay_10_6 dX10_hope_53 56 rfl ?_
        refine y_getR C fX10_307 lay_10_6.2 lay_1_0 dX10_hope_56 59 rfl ?_
        refine z_iload_n C 1 rfl 1 rfl dX10_hope_59 60 rfl ?_
        refine y_lald C lay_1_0.2 rfl dX10_hope_60 61 rfl rfl (fun _ => ?_)
        refine z_iload_n C 2 rfl 2 rfl dX10_hope_61 62 rfl ?_
        refine y_callSJ C hR (tX10_inLowestTerms (mL X) G F r3 r4 (r3 51 (w32 x1)) x2) ⟨mwX10_inLowestTerms, msX10_inLowestTerms, lkX10_263⟩ rfl rfl (Nat.le_of_ble_eq_true rfl) (by unfold rmOK; decide) dX10_hope_62 65 rfl (fun r5 _ => ?_)
        exact z_lret C R rfl rfl dX10_hope_65
      · refine z_ldc2 (v := (-2)) C clX10_249 (by decide) dX10_hope_40 43 rfl ?_
        exact z_lret C R rfl rfl dX10_hope_43
    · refine z_ldc2 (v := (-1)) C clX10_247 (by decide) dX10_hope_19 22 rfl ?_
      exact z_lret C R rfl rfl dX10_hope_22
-- hopeFor
def gX10_hopeFor (F : Nat) (σ : St) (x1 : Int) (x2 : Int) : Option (Int × St) := (gX10_isGuest σ x1).bind fun r1 => if w32 r1 = 0 then some ((-1), σ) else (gX10_isIn σ x2 1 6).bind fun r2 => if w32 r2 ≠ 0 then (gX1_bringUp F σ).bind fun r3 => if w32 (r3 50 1) ≠ 0 then (gX1_firstPost F r3 x1 x2).bind fun r4 => some (r4, r3) else some ((-2), r3) else some ((-1), σ)
def rmX10_hopeFor : Room := { frames := 5, cells := 0, slots := 0, locals := 119 }
set_option maxRecDepth 100000 in
set_option maxHeartbeats 4000000 in
theorem tX10_hopeFor (l : Launch) (G : GG) (F : Nat) (σ : St) (x1 : Int) (x2 : Int) : Ctr l G yX10_hopeFor cX10_hopeFor 3 (some .int) rmX10_hopeFor [vr G 0, vi x1, vi x2] (w0 σ) vzIw wzW (gX10_hopeFor F σ x1 x2) := by
  refine ctr_of (by decide) (Nat.le_of_ble_eq_true rfl) mwX10_hopeFor.1 (fun X hl hR C R hnm => ?_)
  subst hl
  refine z_lv (lv' := [(0, vr G 0), (1, vi x1), (2, vi x2)]) [0, 1, 2] rfl ?_
  show ZZ X G 3 (QM X G vzIw wzW (0, 0)) (0, 0) ((gX10_isGuest σ x1).bind fun r1 => if w32 r1 = 0 then some ((-1), σ) else (gX10_isIn σ x2 1 6).bind fun r2 => if w32 r2 ≠ 0 then (gX1_bringUp F σ).bind fun r3 => if w32 (r3 50 1) ≠ 0 then (gX1_firstPost F r3 x1 x2).bind fun r4 => some (r4, r3) else some ((-2), r3) else some ((-1), σ)) (w0 σ) 0 [(0, vr G 0), (1, vi x1), (2, vi x2)] []
  refine z_aload_n C 0 rfl 0 rfl dX10_hopeFor_0 1 rfl ?_
  refine z_iload_n C 1 rfl 1 rfl dX10_hopeFor_1 2 rfl ?_
  refine y_callVI C hR (tX10_isGuest (mL X) G σ x1) ⟨mwX10_isGuest, mvX10_isGuest, lkX10_101⟩ one_10 rfl rfl (Nat.le_of_ble_eq_true rfl) (by unfold rmOK; decide) dX10_hopeFor_2 5 rfl (fun r1 _ => ?_)
  refine z_if_eq C dX10_hopeFor_5 18 (by decide) 8 rfl rfl (fun _ => ?_) (fun _ => ?_)
  · refine z_iconst C dX10_hopeFor_18 19 rfl ?_
    exact z_iret C R rfl rfl dX10_hopeFor_19
  · refine z_iload_n C 2 rfl 2 rfl dX10_hopeFor_8 9 rfl ?_
    refine z_iconst C dX10_hopeFor_9 10 rfl ?_
    refine z_bipush C (by decide) dX10_hopeFor_10 12 rfl ?_
    refine y_callSI C hR (tX10_isIn (mL X) G σ x2 1 6) ⟨mwX10_isIn, msX10_isIn, lkX10_76⟩ rfl rfl (Nat.le_of_ble_eq_true rfl) (by unfold rmOK; decide) dX10_hopeFor_12 15 rfl (fun r2 _ => ?_)
    refine z_if_ne C dX10_hopeFor_15 20 (by decide) 18 rfl rfl (fun _ => ?_) (fun _ => ?_)
    · refine z_aload_n C 0 rfl 0 rfl dX10_hopeFor_20 21 rfl ?_
      refine y_getR C fX10_44 one_10 lay_10_6 dX10_hopeFor_21 24 rfl ?_
      refine y_callVv C hR (tX1_bringUp (mL X) G F σ) ⟨mwX1_bringUp, mvX1_bringUp, lkX10_297⟩ lay_10_6.2 rfl rfl (Nat.le_of_ble_eq_true rfl) (by unfold rmOK; decide) dX10_hopeFor_24 27 rfl (fun r3 _ => ?_)
      refine z_aload_n C 0 rfl 0 rfl dX10_hopeFor_27 28 rfl ?_
      refine y_getR C fX10_44 one_10 lay_10_6 dX10_hopeFor_28 31 rfl ?_
      refine y_getI C fX10_300 lay_10_6.2 dX10_hopeFor_31 34 rfl ?_
      refine z_if_ne C dX10_hopeFor_34 40 (by decide) 37 rfl rfl (fun _ => ?_) (fun _ => ?_)
      · refine z_aload_n C 0 rfl 0 rfl dX10_hopeFor_40 41 rfl ?_
        refine y_getR C fX10_44 one_10 lay_10_6 dX10_hopeFor_41 44 rfl ?_
        refine z_iload_n C 1 rfl 1 rfl dX10_hopeFor_44 45 rfl ?_
        refine z_iload_n C 2 rfl 2 rfl dX10_hopeFor_45 46 rfl ?_
        refine y_callVI C hR (tX1_firstPost (mL X) G F r3 x1 x2) ⟨mwX1_firstPost, mvX1_firstPost, lkX10_311⟩ lay_10_6.2 rfl rfl (Nat.le_of_ble_eq_true rfl) (by unfold rmOK; decide) dX10_hopeFor_46 49 rfl (fun r4 _ => ?_)
        exact z_iret C R rfl rfl dX10_hopeFor_49
      · refine z_bipush C (by decide) dX10_hopeFor_37 39 rfl ?_
        exact z_iret C R rfl rfl dX10_hopeFor_39
    · refine z_iconst C dX10_hopeFor_18 19 rfl ?_
      exact z_iret C R rfl rfl dX10_hopeFor_19
-- batch
def gX10_batch_L30 (F : Nat) (x1 : Int) (x2 : Int) (σ : St) : Option (Int × St) := (gX3_make F σ 1 x1).bind fun r1 => if w32 x2 ≠ 0 then gd (0 ≤ w32 (x2 - 10) ∧ w32 (x2 - 10) < 9) (some (r1 44 (w32 (x2 - 10)), r1)) else some (r1 43 1, r1)
def gX10_batch (F : Nat) (σ : St) (x1 : Int) (x2 : Int) : Option (Int × St) := (gX10_isIn σ x1 1 9).bind fun r1 => if w32 r1 = 0 then some ((-1), σ) else if w32 x2 = 0 then gX10_batch_L30 F x1 x2 σ else (gX10_isEach σ x2 (σ 1 6)).bind fun r2 => if w32 r2 ≠ 0 then gX10_batch_L30 F x1 x2 σ else some ((-1), σ)
def rmX10_batch : Room := { frames := 4, cells := 0, slots := 0, locals := 100 }
set_option maxRecDepth 100000 in
set_option maxHeartbeats 4000000 in
theorem pX10_batch_L30 {X : MX} {G : GG} (C : CX X G 3 cX10_batch RX10) (R : RT X (some .int)) (hR : mR X = rmX10_batch) (F : Nat) (x1 : Int) (x2 : Int)  : ∀ (σ : St), ZZ X G 3 (QM X G vzIw wzW (0, 0)) (0, 0) (gX10_batch_L30 F x1 x2 σ) (w0 σ) 30 [(0, vr G 0), (1, vi x1), (2, vi x2)] [] := by
  intro σ
  show ZZ X G 3 (QM X G vzIw wzW (0, 0)) (0, 0) ((gX3_make F σ 1 x1).bind fun r1 => if w32 x2 ≠ 0 then gd (0 ≤ w32 (x2 - 10) ∧ w32 (x2 - 10) < 9) (some (r1 44 (w32 (x2 - 10)), r1)) else some (r1 43 1, r1)) (w0 σ) 30 [(0, vr G 0), (1, vi x1), (2, vi x2)] []
  refine z_aload_n C 0 rfl 0 rfl dX10_batch_30 31 rfl ?_
  refine y_getR C fX10_37 one_10 lay_10_5 dX10_batch_31 34 rfl ?_
  refine z_aload_n C 0 rfl 0 rfl dX10_batch_34 35 rfl ?_
  refine y_getR C fX10_10 one_10 lay_10_0 dX10_batch_35 38 rfl ?_
  refine z_iload_n C 1 rfl 1 rfl dX10_batch_38 39 rfl ?_
  refine y_callVv C hR (tX3_make (mL X) G F σ 1 x1 lay_10_0.2) ⟨mwX3_make, mvX3_make, lkX10_314⟩ lay_10_5.2 rfl rfl (Nat.le_of_ble_eq_true rfl) (by unfold rmOK; decide) dX10_batch_39 42 rfl (fun r1 _ => ?_)
  refine z_iload_n C 2 rfl 2 rfl dX10_batch_42 43 rfl ?_
  refine z_if_ne C dX10_batch_43 56 (by decide) 46 rfl rfl (fun _ => ?_) (fun _ => ?_)
  · refine z_aload_n C 0 rfl 0 rfl dX10_batch_56 57 rfl ?_
    refine y_getR C fX10_37 one_10 lay_10_5 dX10_batch_57 60 rfl ?_
    refine y_getR C fX10_232 lay_10_5.2 lay_3_0 dX10_batch_60 63 rfl ?_
    refine z_iload_n C 2 rfl 2 rfl dX10_batch_63 64 rfl ?_
    refine z_bipush C (by decide) dX10_batch_64 66 rfl ?_
    refine z_isub C dX10_batch_66 67 rfl ?_
    refine y_iald C lay_3_0.2 rfl dX10_batch_67 68 rfl rfl (fun _ => ?_)
    exact z_iret C R rfl rfl dX10_batch_68
  · refine z_aload_n C 0 rfl 0 rfl dX10_batch_46 47 rfl ?_
    refine y_getR C fX10_37 one_10 lay_10_5 dX10_batch_47 50 rfl ?_
    refine y_getI C fX10_229 lay_10_5.2 dX10_batch_50 53 rfl ?_
    refine z_goto C dX10_batch_53 68 (by decide) ?_
    exact z_iret C R rfl rfl dX10_batch_68
set_option maxRecDepth 100000 in
set_option maxHeartbeats 4000000 in
theorem tX10_batch (l : Launch) (G : GG) (F : Nat) (σ : St) (x1 : Int) (x2 : Int) : Ctr l G yX10_batch cX10_batch 3 (some .int) rmX10_batch [vr G 0, vi x1, vi x2] (w0 σ) vzIw wzW (gX10_batch F σ x1 x2) := by
  refine ctr_of (by decide) (Nat.le_of_ble_eq_true rfl) mwX10_batch.1 (fun X hl hR C R hnm => ?_)
  subst hl
  refine z_lv (lv' := [(0, vr G 0), (1, vi x1), (2, vi x2)]) [0, 1, 2] rfl ?_
  show ZZ X G 3 (QM X G vzIw wzW (0, 0)) (0, 0) ((gX10_isIn σ x1 1 9).bind fun r1 => if w32 r1 = 0 then some ((-1), σ) else if w32 x2 = 0 then gX10_batch_L30 F x1 x2 σ else (gX10_isEach σ x2 (σ 1 6)).bind fun r2 => if w32 r2 ≠ 0 then gX10_batch_L30 F x1 x2 σ else some ((-1), σ)) (w0 σ) 0 [(0, vr G 0), (1, vi x1), (2, vi x2)] []
  refine z_iload_n C 1 rfl 1 rfl dX10_batch_0 1 rfl ?_
  refine z_iconst C dX10_batch_1 2 rfl ?_
  refine z_bipush C (by decide) dX10_batch_2 4 rfl ?_
  refine y_callSI C hR (tX10_isIn (mL X) G σ x1 1 9) ⟨mwX10_isIn, msX10_isIn, lkX10_76⟩ rfl rfl (Nat.le_of_ble_eq_true rfl) (by unfold rmOK; decide) dX10_batch_4 7 rfl (fun r1 _ => ?_)
  refine z_if_eq C dX10_batch_7 28 (by decide) 10 rfl rfl (fun _ => ?_) (fun _ => ?_)
  · refine z_iconst C dX10_batch_28 29 rfl ?_
    exact z_iret C R rfl rfl dX10_batch_29
  · refine z_iload_n C 2 rfl 2 rfl dX10_batch_10 11 rfl ?_
    refine z_if_eq C dX10_batch_11 30 (by decide) 14 rfl rfl (fun _ => ?_) (fun _ => ?_)
    · exact pX10_batch_L30 C R hR F x1 x2 σ
    · refine z_iload_n C 2 rfl 2 rfl dX10_batch_14 15 rfl ?_
      refine z_aload_n C 0 rfl 0 rfl dX10_batch_15 16 rfl ?_
      refine y_getR C fX10_10 one_10 lay_10_0 dX10_batch_16 19 rfl ?_
      refine y_getI C fX10_95 lay_10_0.2 dX10_batch_19 22 rfl ?_
      refine y_callSI C hR (tX10_isEach (mL X) G σ x2 (σ 1 6)) ⟨mwX10_isEach, msX10_isEach, lkX10_180⟩ rfl rfl (Nat.le_of_ble_eq_true rfl) (by unfold rmOK; decide) dX10_batch_22 25 rfl (fun r2 _ => ?_)
      refine z_if_ne C dX10_batch_25 30 (by decide) 28 rfl rfl (fun _ => ?_) (fun _ => ?_)
      · exact pX10_batch_L30 C R hR F x1 x2 σ
      · refine z_iconst C dX10_batch_28 29 rfl ?_
        exact z_iret C R rfl rfl dX10_batch_29
-- searchNets
def gX10_searchNets_L18 (F : Nat) (x1 : Int) (x2 : Int) (x3 : Int) : Nat → Int → Int → St → Option (St)
  | 0, _, _, _ => none
  | n + 1, x4, x5, σ => if w32 x5 ≥ w32 x4 then some σ else (gX0_linkByBits F σ 27 x5).bind fun r1 => (gX7_runByNumbers F r1 33 x1).bind fun r2 => (gX7_value F r2 33).bind fun r3 => (gX3_greatest F r2 27 ((-4))).bind fun r4 => (gX9_add r4.2 x3 r3 r4.1 x5).bind fun r5 => gX10_searchNets_L18 F x1 x2 x3 n x4 (x5 + 1) r5
def gX10_searchNets (F : Nat) (σ : St) (x1 : Int) (x2 : Int) (x3 : Int) : Option (St) := (gX0_becomeSquare F σ 27 x2).bind fun r1 => gX10_searchNets_L18 F x1 x2 x3 F (ishl 1 (x2 * x2)) 1 r1
def rmX10_searchNets : Room := { frames := 6, cells := 0, slots := 0, locals := 142 }
set_option maxRecDepth 100000 in
set_option maxHeartbeats 4000000 in
theorem pX10_searchNets_L18 {X : MX} {G : GG} (C : CX X G 6 cX10_searchNets RX10) (R : RT X none) (hR : mR X = rmX10_searchNets) (F : Nat) (x1 : Int) (h1 : isK x1 (0, 5)) (x2 : Int) (x3 : Int) (h3 : isK x3 (0, 9))  : ∀ (n : Nat) (x4 : Int) (x5 : Int) (σ : St), ZZ X G 6 (QM X G vzV wzV (0, 0)) (0, 0) (gX10_searchNets_L18 F x1 x2 x3 n x4 x5 σ) (w0 σ) 18 [(0, vr G 0), (1, vr G x1), (3, vr G x3), (4, vi x4), (5, vi x5)] [] := by
  intro n
  induction n with
  | zero =>
    intro _ _ _
    exact z_none
  | succ n ih =>
    intro x4 x5 σ
    show ZZ X G 6 (QM X G vzV wzV (0, 0)) (0, 0) (if w32 x5 ≥ w32 x4 then some σ else (gX0_linkByBits F σ 27 x5).bind fun r1 => (gX7_runByNumbers F r1 33 x1).bind fun r2 => (gX7_value F r2 33).bind fun r3 => (gX3_greatest F r2 27 ((-4))).bind fun r4 => (gX9_add r4.2 x3 r3 r4.1 x5).bind fun r5 => gX10_searchNets_L18 F x1 x2 x3 n x4 (x5 + 1) r5) (w0 σ) 18 [(0, vr G 0), (1, vr G x1), (3, vr G x3), (4, vi x4), (5, vi x5)] []
    refine z_iload C 4 rfl dX10_searchNets_18 20 rfl ?_
    refine z_iload C 3 rfl dX10_searchNets_20 22 rfl ?_
    refine z_icmp_ge C dX10_searchNets_22 74 (by decide) 25 rfl rfl rfl (fun _ => ?_) (fun _ => ?_)
    · exact z_vret C R rfl rfl dX10_searchNets_74
    · refine z_aload_n C 0 rfl 0 rfl dX10_searchNets_25 26 rfl ?_
      refine y_getR C fX10_28 one_10 lay_10_3 dX10_searchNets_26 29 rfl ?_
      refine z_iload C 4 rfl dX10_searchNets_29 31 rfl ?_
      refine y_callVv C hR (tX0_linkByBits (mL X) G F σ 27 x5 lay_10_3.2) ⟨mwX0_linkByBits, mvX0_linkByBits, lkX10_406⟩ lay_10_3.2 rfl rfl (Nat.le_of_ble_eq_true rfl) (by unfold rmOK; decide) dX10_searchNets_31 34 rfl (fun r1 _ => ?_)
      refine z_aload_n C 0 rfl 0 rfl dX10_searchNets_34 35 rfl ?_
      refine y_getR C fX10_31 one_10 lay_10_4 dX10_searchNets_35 38 rfl ?_
      refine z_aload_n C 1 rfl 1 rfl dX10_searchNets_38 39 rfl ?_
      refine y_callVv C hR (tX7_runByNumbers (mL X) G F r1 33 x1 lay_10_4.2 h1) ⟨mwX7_runByNumbers, mvX7_runByNumbers, lkX10_198⟩ lay_10_4.2 rfl rfl (Nat.le_of_ble_eq_true rfl) (by unfold rmOK; decide) dX10_searchNets_39 42 rfl (fun r2 _ => ?_)
      refine z_aload_n C 3 rfl 2 rfl dX10_searchNets_42 43 rfl ?_
      refine z_aload_n C 0 rfl 0 rfl dX10_searchNets_43 44 rfl ?_
      refine y_getR C fX10_31 one_10 lay_10_4 dX10_searchNets_44 47 rfl ?_
      refine y_callVI C hR (tX7_value (mL X) G F r2 33 lay_10_4.2) ⟨mwX7_value, mvX7_value, lkX10_201⟩ lay_10_4.2 rfl rfl (Nat.le_of_ble_eq_true rfl) (by unfold rmOK; decide) dX10_searchNets_47 50 rfl (fun r3 _ => ?_)
      refine z_aload_n C 0 rfl 0 rfl dX10_searchNets_50 51 rfl ?_
      refine y_getR C fX10_37 one_10 lay_10_5 dX10_searchNets_51 54 rfl ?_
      refine z_aload_n C 0 rfl 0 rfl dX10_searchNets_54 55 rfl ?_
      refine y_getR C fX10_28 one_10 lay_10_3 dX10_searchNets_55 58 rfl ?_
      refine z_bipush C (by decide) dX10_searchNets_58 60 rfl ?_
      refine y_callVIw C hR (tX3_greatest (mL X) G F r2 27 ((-4)) lay_10_3.2) ⟨mwX3_greatest, mvX3_greatest, lkX10_235⟩ lay_10_5.2 rfl rfl (Nat.le_of_ble_eq_true rfl) (by unfold rmOK; decide) dX10_searchNets_60 63 rfl (fun r4 _ => ?_)
      refine z_iload C 4 rfl dX10_searchNets_63 65 rfl ?_
      refine y_callVv C hR (tX9_add (mL X) G r4.2 x3 r3 r4.1 x5 h3) ⟨mwX9_add, mvX9_add, lkX10_409⟩ h3 rfl rfl (Nat.le_of_ble_eq_true rfl) (by unfold rmOK; decide) dX10_searchNets_65 68 rfl (fun r5 _ => ?_)
      refine z_iinc (lv' := [(5, vi (x5 + 1)), (0, vr G 0), (1, vr G x1), (3, vr G x3), (4, vi x4)]) C (by decide) 4 rfl dX10_searchNets_68 71 rfl rfl ?_
      refine z_goto C dX10_searchNets_71 18 (by decide) ?_
      refine z_lv (lv' := [(0, vr G 0), (1, vr G x1), (3, vr G x3), (4, vi x4), (5, vi (x5 + 1))]) [1, 2, 3, 4, 0] rfl ?_
      exact ih x4 (x5 + 1) r5
set_option maxRecDepth 100000 in
set_option maxHeartbeats 4000000 in
theorem tX10_searchNets (l : Launch) (G : GG) (F : Nat) (σ : St) (x1 : Int) (x2 : Int) (x3 : Int) (h1 : isK x1 (0, 5)) (h3 : isK x3 (0, 9)) : Ctr l G yX10_searchNets cX10_searchNets 6 none rmX10_searchNets [vr G 0, vr G x1, vi x2, vr G x3] (w0 σ) vzV wzV (gX10_searchNets F σ x1 x2 x3) := by
  refine ctr_of (by decide) (Nat.le_of_ble_eq_true rfl) mwX10_searchNets.1 (fun X hl hR C R hnm => ?_)
  subst hl
  refine z_lv (lv' := [(0, vr G 0), (1, vr G x1), (2, vi x2), (3, vr G x3)]) [0, 1, 2, 3] rfl ?_
  show ZZ X G 6 (QM X G vzV wzV (0, 0)) (0, 0) ((gX0_becomeSquare F σ 27 x2).bind fun r1 => gX10_searchNets_L18 F x1 x2 x3 F (ishl 1 (x2 * x2)) 1 r1) (w0 σ) 0 [(0, vr G 0), (1, vr G x1), (2, vi x2), (3, vr G x3)] []
  refine z_aload_n C 0 rfl 0 rfl dX10_searchNets_0 1 rfl ?_
  refine y_getR C fX10_28 one_10 lay_10_3 dX10_searchNets_1 4 rfl ?_
  refine z_iload_n C 2 rfl 2 rfl dX10_searchNets_4 5 rfl ?_
  refine y_callVv C hR (tX0_becomeSquare (mL X) G F σ 27 x2 lay_10_3.2) ⟨mwX0_becomeSquare, mvX0_becomeSquare, lkX10_403⟩ lay_10_3.2 rfl rfl (Nat.le_of_ble_eq_true rfl) (by unfold rmOK; decide) dX10_searchNets_5 8 rfl (fun r1 _ => ?_)
  refine z_iconst C dX10_searchNets_8 9 rfl ?_
  refine z_iload_n C 2 rfl 2 rfl dX10_searchNets_9 10 rfl ?_
  refine z_iload_n C 2 rfl 2 rfl dX10_searchNets_10 11 rfl ?_
  refine z_imul C dX10_searchNets_11 12 rfl ?_
  refine z_ishl C dX10_searchNets_12 13 rfl ?_
  refine z_istore (lv' := [(4, vi (ishl 1 (x2 * x2))), (0, vr G 0), (1, vr G x1), (2, vi x2), (3, vr G x3)]) C (by decide) dX10_searchNets_13 15 rfl rfl ?_
  refine z_iconst C dX10_searchNets_15 16 rfl ?_
  refine z_istore (lv' := [(5, vi 1), (4, vi (ishl 1 (x2 * x2))), (0, vr G 0), (1, vr G x1), (2, vi x2), (3, vr G x3)]) C (by decide) dX10_searchNets_16 18 rfl rfl ?_
  refine z_lv (lv' := [(0, vr G 0), (1, vr G x1), (3, vr G x3), (4, vi (ishl 1 (x2 * x2))), (5, vi 1)]) [2, 3, 5, 1, 0] rfl ?_
  exact pX10_searchNets_L18 C R hR F x1 h1 x2 x3 h3 F (ishl 1 (x2 * x2)) 1 r1
-- worst
def gX10_worst_L64 (F : Nat) (x1 : Int) (x2 : Int) (x3 : Int) (x4 : Int) (σ : St) : Option (Int × St) := if w32 x3 = 0 then (gX10_inLowestTerms F σ (w32 (σ x4 0)) (w32 (σ x4 1)) 0).bind fun r1 => some (l2i_ r1, σ) else if w32 x3 = 1 then (gX10_inLowestTerms F σ (w32 (σ x4 0)) (w32 (σ x4 1)) 1).bind fun r2 => some (l2i_ r2, σ) else if w32 x3 = 2 then some (σ x4 2, σ) else some (σ x4 3, σ)
def gX10_worst (F : Nat) (σ : St) (x1 : Int) (x2 : Int) (x3 : Int) : Option (Int × St) := (gX10_isRule σ x1).bind fun r1 => if w32 r1 = 0 then some ((-1), σ) else (gX10_isIn σ x2 1 3).bind fun r2 => if w32 r2 = 0 then some ((-1), σ) else (gX10_isIn σ x3 0 3).bind fun r3 => if w32 r3 ≠ 0 then gd (0 ≤ w32 x1 ∧ w32 x1 < 6) (gd (0 ≤ w32 (x2 - 1) ∧ w32 (x2 - 1) < 3) ((gX9_isKnown σ (((63 + 12 * (w32 x1)) + 8) + 1 + (w32 (x2 - 1)))).bind fun r6 => if w32 r6 ≠ 0 then gX10_worst_L64 F x1 x2 x3 (((63 + 12 * (w32 x1)) + 8) + 1 + (w32 (x2 - 1))) σ else gd (0 ≤ w32 x1 ∧ w32 x1 < 6) ((gX10_searchNets F σ (63 + 12 * (w32 x1)) x2 (((63 + 12 * (w32 x1)) + 8) + 1 + (w32 (x2 - 1)))).bind fun r8 => gX10_worst_L64 F x1 x2 x3 (((63 + 12 * (w32 x1)) + 8) + 1 + (w32 (x2 - 1))) r8))) else some ((-1), σ)
def rmX10_worst : Room := { frames := 7, cells := 0, slots := 0, locals := 167 }
set_option maxRecDepth 100000 in
set_option maxHeartbeats 4000000 in
theorem pX10_worst_L64 {X : MX} {G : GG} (C : CX X G 5 cX10_worst RX10) (R : RT X (some .int)) (hR : mR X = rmX10_worst) (F : Nat) (x1 : Int) (x2 : Int) (x3 : Int)  : ∀ (x4 : Int) (σ : St) (h4 : isK x4 (0, 9)), ZZ X G 5 (QM X G vzIw wzW (0, 0)) (0, 0) (gX10_worst_L64 F x1 x2 x3 x4 σ) (w0 σ) 64 [(3, vi x3), (4, vr G x4)] [] := by
  intro x4 σ h4
  show ZZ X G 5 (QM X G vzIw wzW (0, 0)) (0, 0) (if w32 x3 = 0 then (gX10_inLowestTerms F σ (w32 (σ x4 0)) (w32 (σ x4 1)) 0).bind fun r1 => some (l2i_ r1, σ) else if w32 x3 = 1 then (gX10_inLowestTerms F σ (w32 (σ x4 0)) (w32 (σ x4 1)) 1).bind fun r2 => some (l2i_ r2, σ) else if w32 x3 = 2 then some (σ x4 2, σ) else some (σ x4 3, σ)) (w0 σ) 64 [(3, vi x3), (4, vr G x4)] []
  refine z_iload_n C 3 rfl 0 rfl dX10_worst_64 65 rfl ?_
  refine z_ite (fun hq0 => ?_) (fun hn0 => ?_)
  · refine z_tin C dX10_worst_65 (v := 0) (hq0) (by decide) rfl 92 (by decide) ?_
    refine z_aload C 1 rfl dX10_worst_92 94 rfl ?_
    refine y_getI C fX10_331 h4 dX10_worst_94 97 rfl ?_
    refine z_i2l C dX10_worst_97 98 rfl ?_
    refine z_aload C 1 rfl dX10_worst_98 100 rfl ?_
    refine y_getI C fX10_333 h4 dX10_worst_100 103 rfl ?_
    refine z_i2l C dX10_worst_103 104 rfl ?_
    refine z_iconst C dX10_worst_104 105 rfl ?_
    refine y_callSJ C hR (tX10_inLowestTerms (mL X) G F σ (w32 (σ x4 0)) (w32 (σ x4 1)) 0) ⟨mwX10_inLowestTerms, msX10_inLowestTerms, lkX10_263⟩ rfl rfl (Nat.le_of_ble_eq_true rfl) (by unfold rmOK; decide) dX10_worst_105 108 rfl (fun r1 _ => ?_)
    refine z_l2i C dX10_worst_108 109 rfl ?_
    exact z_iret C R rfl rfl dX10_worst_109
  refine z_ite (fun hq1 => ?_) (fun hn1 => ?_)
  · refine z_tin C dX10_worst_65 (v := 1) (hq1) (by decide) rfl 110 (by decide) ?_
    refine z_aload C 1 rfl dX10_worst_110 112 rfl ?_
    refine y_getI C fX10_331 h4 dX10_worst_112 115 rfl ?_
    refine z_i2l C dX10_worst_115 116 rfl ?_
    refine z_aload C 1 rfl dX10_worst_116 118 rfl ?_
    refine y_getI C fX10_333 h4 dX10_worst_118 121 rfl ?_
    refine z_i2l C dX10_worst_121 122 rfl ?_
    refine z_iconst C dX10_worst_122 123 rfl ?_
    refine y_callSJ C hR (tX10_inLowestTerms (mL X) G F σ (w32 (σ x4 0)) (w32 (σ x4 1)) 1) ⟨mwX10_inLowestTerms, msX10_inLowestTerms, lkX10_263⟩ rfl rfl (Nat.le_of_ble_eq_true rfl) (by unfold rmOK; decide) dX10_worst_123 126 rfl (fun r2 _ => ?_)
    refine z_l2i C dX10_worst_126 127 rfl ?_
    exact z_iret C R rfl rfl dX10_worst_127
  refine z_ite (fun hq2 => ?_) (fun hn2 => ?_)
  · refine z_tin C dX10_worst_65 (v := 2) (hq2) (by decide) rfl 128 (by decide) ?_
    refine z_aload C 1 rfl dX10_worst_128 130 rfl ?_
    refine y_getI C fX10_336 h4 dX10_worst_130 133 rfl ?_
    exact z_iret C R rfl rfl dX10_worst_133
  refine z_tout C dX10_worst_65 (by omega) 134 (by decide) ?_
  refine z_aload C 1 rfl dX10_worst_134 136 rfl ?_
  refine y_getI C fX10_339 h4 dX10_worst_136 139 rfl ?_
  exact z_iret C R rfl rfl dX10_worst_139
set_option maxRecDepth 100000 in
set_option maxHeartbeats 4000000 in
theorem tX10_worst (l : Launch) (G : GG) (F : Nat) (σ : St) (x1 : Int) (x2 : Int) (x3 : Int) : Ctr l G yX10_worst cX10_worst 5 (some .int) rmX10_worst [vr G 0, vi x1, vi x2, vi x3] (w0 σ) vzIw wzW (gX10_worst F σ x1 x2 x3) := by
  refine ctr_of (by decide) (Nat.le_of_ble_eq_true rfl) mwX10_worst.1 (fun X hl hR C R hnm => ?_)
  subst hl
  refine z_lv (lv' := [(0, vr G 0), (1, vi x1), (2, vi x2), (3, vi x3)]) [0, 1, 2, 3] rfl ?_
  show ZZ X G 5 (QM X G vzIw wzW (0, 0)) (0, 0) ((gX10_isRule σ x1).bind fun r1 => if w32 r1 = 0 then some ((-1), σ) else (gX10_isIn σ x2 1 3).bind fun r2 => if w32 r2 = 0 then some ((-1), σ) else (gX10_isIn σ x3 0 3).bind fun r3 => if w32 r3 ≠ 0 then gd (0 ≤ w32 x1 ∧ w32 x1 < 6) (gd (0 ≤ w32 (x2 - 1) ∧ w32 (x2 - 1) < 3) ((gX9_isKnown σ (((63 + 12 * (w32 x1)) + 8) + 1 + (w32 (x2 - 1)))).bind fun r6 => if w32 r6 ≠ 0 then gX10_worst_L64 F x1 x2 x3 (((63 + 12 * (w32 x1)) + 8) + 1 + (w32 (x2 - 1))) σ else gd (0 ≤ w32 x1 ∧ w32 x1 < 6) ((gX10_searchNets F σ (63 + 12 * (w32 x1)) x2 (((63 + 12 * (w32 x1)) + 8) + 1 + (w32 (x2 - 1)))).bind fun r8 => gX10_worst_L64 F x1 x2 x3 (((63 + 12 * (w32 x1)) + 8) + 1 + (w32 (x2 - 1))) r8))) else some ((-1), σ)) (w0 σ) 0 [(0, vr G 0), (1, vi x1), (2, vi x2), (3, vi x3)] []
  refine z_aload_n C 0 rfl 0 rfl dX10_worst_0 1 rfl ?_
  refine z_iload_n C 1 rfl 1 rfl dX10_worst_1 2 rfl ?_
  refine y_callVI C hR (tX10_isRule (mL X) G σ x1) ⟨mwX10_isRule, mvX10_isRule, lkX10_174⟩ one_10 rfl rfl (Nat.le_of_ble_eq_true rfl) (by unfold rmOK; decide) dX10_worst_2 5 rfl (fun r1 _ => ?_)
  refine z_if_eq C dX10_worst_5 26 (by decide) 8 rfl rfl (fun _ => ?_) (fun _ => ?_)
  · refine z_iconst C dX10_worst_26 27 rfl ?_
    exact z_iret C R rfl rfl dX10_worst_27
  · refine z_iload_n C 2 rfl 2 rfl dX10_worst_8 9 rfl ?_
    refine z_iconst C dX10_worst_9 10 rfl ?_
    refine z_iconst C dX10_worst_10 11 rfl ?_
    refine y_callSI C hR (tX10_isIn (mL X) G σ x2 1 3) ⟨mwX10_isIn, msX10_isIn, lkX10_76⟩ rfl rfl (Nat.le_of_ble_eq_true rfl) (by unfold rmOK; decide) dX10_worst_11 14 rfl (fun r2 _ => ?_)
    refine z_if_eq C dX10_worst_14 26 (by decide) 17 rfl rfl (fun _ => ?_) (fun _ => ?_)
    · refine z_iconst C dX10_worst_26 27 rfl ?_
      exact z_iret C R rfl rfl dX10_worst_27
    · refine z_iload_n C 3 rfl 3 rfl dX10_worst_17 18 rfl ?_
      refine z_iconst C dX10_worst_18 19 rfl ?_
      refine z_iconst C dX10_worst_19 20 rfl ?_
      refine y_callSI C hR (tX10_isIn (mL X) G σ x3 0 3) ⟨mwX10_isIn, msX10_isIn, lkX10_76⟩ rfl rfl (Nat.le_of_ble_eq_true rfl) (by unfold rmOK; decide) dX10_worst_20 23 rfl (fun r3 _ => ?_)
      refine z_if_ne C dX10_worst_23 28 (by decide) 26 rfl rfl (fun _ => ?_) (fun _ => ?_)
      · refine z_aload_n C 0 rfl 0 rfl dX10_worst_28 29 rfl ?_
        refine y_getR C fX10_57 one_10 lay_10_8 dX10_worst_29 32 rfl ?_
        refine z_iload_n C 1 rfl 1 rfl dX10_worst_32 33 rfl ?_
        refine y_aald (t := 0) C lay_10_8.2 (by decide) rfl dX10_worst_33 34 rfl rfl (fun r => 63 + 12 * r) (fun h => lay_rules h) (fun hb4 => ?_)
        refine y_getR C fX10_318 ((lay_rules hb4).2) (lay_5_7 ((lay_rules hb4).2)) dX10_worst_34 37 rfl ?_
        refine z_iload_n C 2 rfl 2 rfl dX10_worst_37 38 rfl ?_
        refine z_iconst C dX10_worst_38 39 rfl ?_
        refine z_isub C dX10_worst_39 40 rfl ?_
        refine y_aald (t := 2) C ((lay_5_7 ((lay_rules hb4).2)).2) (by decide) rfl dX10_worst_40 41 rfl rfl (fun r => ((63 + 12 * (w32 x1)) + 8) + 1 + r) (fun h => lay_worst ((lay_5_7 ((lay_rules hb4).2)).2) h) (fun hb5 => ?_)
        refine z_astore (lv' := [(4, vr G (((63 + 12 * (w32 x1)) + 8) + 1 + (w32 (x2 - 1)))), (0, vr G 0), (1, vi x1), (2, vi x2), (3, vi x3)]) C (by decide) dX10_worst_41 43 rfl rfl ?_
        refine z_aload C 0 rfl dX10_worst_43 45 rfl ?_
        refine y_callVI C hR (tX9_isKnown (mL X) G σ (((63 + 12 * (w32 x1)) + 8) + 1 + (w32 (x2 - 1))) ((lay_worst ((lay_5_7 ((lay_rules hb4).2)).2) hb5).2)) ⟨mwX9_isKnown, mvX9_isKnown, lkX10_322⟩ ((lay_worst ((lay_5_7 ((lay_rules hb4).2)).2) hb5).2) rfl rfl (Nat.le_of_ble_eq_true rfl) (by unfold rmOK; decide) dX10_worst_45 48 rfl (fun r6 _ => ?_)
        refine z_if_ne C dX10_worst_48 64 (by decide) 51 rfl rfl (fun _ => ?_) (fun _ => ?_)
        · refine z_lv (lv' := [(3, vi x3), (4, vr G (((63 + 12 * (w32 x1)) + 8) + 1 + (w32 (x2 - 1))))]) [4, 0] rfl ?_
          exact pX10_worst_L64 C R hR F x1 x2 x3 (((63 + 12 * (w32 x1)) + 8) + 1 + (w32 (x2 - 1))) σ ((lay_worst ((lay_5_7 ((lay_rules hb4).2)).2) hb5).2)
        · refine z_aload_n C 0 rfl 1 rfl dX10_worst_51 52 rfl ?_
          refine z_aload_n C 0 rfl 1 rfl dX10_worst_52 53 rfl ?_
          refine y_getR C fX10_57 one_10 lay_10_8 dX10_worst_53 56 rfl ?_
          refine z_iload_n C 1 rfl 2 rfl dX10_worst_56 57 rfl ?_
          refine y_aald (t := 0) C lay_10_8.2 (by decide) rfl dX10_worst_57 58 rfl rfl (fun r => 63 + 12 * r) (fun h => lay_rules h) (fun hb7 => ?_)
          refine z_iload_n C 2 rfl 3 rfl dX10_worst_58 59 rfl ?_
          refine z_aload C 0 rfl dX10_worst_59 61 rfl ?_
          refine y_callVv C hR (tX10_searchNets (mL X) G F σ (63 + 12 * (w32 x1)) x2 (((63 + 12 * (w32 x1)) + 8) + 1 + (w32 (x2 - 1))) ((lay_rules hb7).2) ((lay_worst ((lay_5_7 ((lay_rules hb4).2)).2) hb5).2)) ⟨mwX10_searchNets, mvX10_searchNets, lkX10_327⟩ one_10 rfl rfl (Nat.le_of_ble_eq_true rfl) (by unfold rmOK; decide) dX10_worst_61 64 rfl (fun r8 _ => ?_)
          refine z_lv (lv' := [(3, vi x3), (4, vr G (((63 + 12 * (w32 x1)) + 8) + 1 + (w32 (x2 - 1))))]) [4, 0] rfl ?_
          exact pX10_worst_L64 C R hR F x1 x2 x3 (((63 + 12 * (w32 x1)) + 8) + 1 + (w32 (x2 - 1))) r8 ((lay_worst ((lay_5_7 ((lay_rules hb4).2)).2) hb5).2)
      · refine z_iconst C dX10_worst_26 27 rfl ?_
        exact z_iret C R rfl rfl dX10_worst_27
-- come
def gX10_come (F : Nat) (σ : St) (x1 : Int) (x2 : Int) : Option (Int × St) := (gX10_isGuest σ x1).bind fun r1 => if w32 r1 = 0 then some ((-1), σ) else (gX10_isRule σ x2).bind fun r2 => if w32 r2 ≠ 0 then (gX7_hasCome σ 7 x1).bind fun r3 => if w32 r3 = 0 then gd (0 ≤ w32 x2 ∧ w32 x2 < 6) ((gX7_comeBy F σ 7 x1 (63 + 12 * (w32 x2))).bind fun r5 => some (r5.1, r5.2)) else some ((-2), σ) else some ((-1), σ)
def rmX10_come : Room := { frames := 5, cells := 0, slots := 0, locals := 120 }
set_option maxRecDepth 100000 in
set_option maxHeartbeats 4000000 in
theorem tX10_come (l : Launch) (G : GG) (F : Nat) (σ : St) (x1 : Int) (x2 : Int) : Ctr l G yX10_come cX10_come 3 (some .int) rmX10_come [vr G 0, vi x1, vi x2] (w0 σ) vzIw wzW (gX10_come F σ x1 x2) := by
  refine ctr_of (by decide) (Nat.le_of_ble_eq_true rfl) mwX10_come.1 (fun X hl hR C R hnm => ?_)
  subst hl
  refine z_lv (lv' := [(0, vr G 0), (1, vi x1), (2, vi x2)]) [0, 1, 2] rfl ?_
  show ZZ X G 3 (QM X G vzIw wzW (0, 0)) (0, 0) ((gX10_isGuest σ x1).bind fun r1 => if w32 r1 = 0 then some ((-1), σ) else (gX10_isRule σ x2).bind fun r2 => if w32 r2 ≠ 0 then (gX7_hasCome σ 7 x1).bind fun r3 => if w32 r3 = 0 then gd (0 ≤ w32 x2 ∧ w32 x2 < 6) ((gX7_comeBy F σ 7 x1 (63 + 12 * (w32 x2))).bind fun r5 => some (r5.1, r5.2)) else some ((-2), σ) else some ((-1), σ)) (w0 σ) 0 [(0, vr G 0), (1, vi x1), (2, vi x2)] []
  refine z_aload_n C 0 rfl 0 rfl dX10_come_0 1 rfl ?_
  refine z_iload_n C 1 rfl 1 rfl dX10_come_1 2 rfl ?_
  refine y_callVI C hR (tX10_isGuest (mL X) G σ x1) ⟨mwX10_isGuest, mvX10_isGuest, lkX10_101⟩ one_10 rfl rfl (Nat.le_of_ble_eq_true rfl) (by unfold rmOK; decide) dX10_come_2 5 rfl (fun r1 _ => ?_)
  refine z_if_eq C dX10_come_5 16 (by decide) 8 rfl rfl (fun _ => ?_) (fun _ => ?_)
  · refine z_iconst C dX10_come_16 17 rfl ?_
    exact z_iret C R rfl rfl dX10_come_17
  · refine z_aload_n C 0 rfl 0 rfl dX10_come_8 9 rfl ?_
    refine z_iload_n C 2 rfl 2 rfl dX10_come_9 10 rfl ?_
    refine y_callVI C hR (tX10_isRule (mL X) G σ x2) ⟨mwX10_isRule, mvX10_isRule, lkX10_174⟩ one_10 rfl rfl (Nat.le_of_ble_eq_true rfl) (by unfold rmOK; decide) dX10_come_10 13 rfl (fun r2 _ => ?_)
    refine z_if_ne C dX10_come_13 18 (by decide) 16 rfl rfl (fun _ => ?_) (fun _ => ?_)
    · refine z_aload_n C 0 rfl 0 rfl dX10_come_18 19 rfl ?_
      refine y_getR C fX10_21 one_10 lay_10_1 dX10_come_19 22 rfl ?_
      refine z_iload_n C 1 rfl 1 rfl dX10_come_22 23 rfl ?_
      refine y_callVI C hR (tX7_hasCome (mL X) G σ 7 x1 lay_10_1.2) ⟨mwX7_hasCome, mvX7_hasCome, lkX10_108⟩ lay_10_1.2 rfl rfl (Nat.le_of_ble_eq_true rfl) (by unfold rmOK; decide) dX10_come_23 26 rfl (fun r3 _ => ?_)
      refine z_if_eq C dX10_come_26 34 (by decide) 29 rfl rfl (fun _ => ?_) (fun _ => ?_)
      · refine z_aload_n C 0 rfl 0 rfl dX10_come_34 35 rfl ?_
        refine y_getR C fX10_21 one_10 lay_10_1 dX10_come_35 38 rfl ?_
        refine z_iload_n C 1 rfl 1 rfl dX10_come_38 39 rfl ?_
        refine z_aload_n C 0 rfl 0 rfl dX10_come_39 40 rfl ?_
        refine y_getR C fX10_57 one_10 lay_10_8 dX10_come_40 43 rfl ?_
        refine z_iload_n C 2 rfl 2 rfl dX10_come_43 44 rfl ?_
        refine y_aald (t := 0) C lay_10_8.2 (by decide) rfl dX10_come_44 45 rfl rfl (fun r => 63 + 12 * r) (fun h => lay_rules h) (fun hb4 => ?_)
        refine y_callVIw C hR (tX7_comeBy (mL X) G F σ 7 x1 (63 + 12 * (w32 x2)) lay_10_1.2 ((lay_rules hb4).2)) ⟨mwX7_comeBy, mvX7_comeBy, lkX10_222⟩ lay_10_1.2 rfl rfl (Nat.le_of_ble_eq_true rfl) (by unfold rmOK; decide) dX10_come_45 48 rfl (fun r5 _ => ?_)
        exact z_iret C R rfl rfl dX10_come_48
      · refine z_bipush C (by decide) dX10_come_29 31 rfl ?_
        refine z_goto C dX10_come_31 48 (by decide) ?_
        exact z_iret C R rfl rfl dX10_come_48
    · refine z_iconst C dX10_come_16 17 rfl ?_
      exact z_iret C R rfl rfl dX10_come_17
-- let
def gX10_let (F : Nat) (σ : St) (x1 : Int) (x2 : Int) : Option (Int × St) := (gX10_isGuest σ x1).bind fun r1 => if w32 r1 = 0 then some ((-1), σ) else (gX10_isPost σ x2).bind fun r2 => if w32 r2 ≠ 0 then (gX7_hasCome σ 7 x1).bind fun r3 => if w32 r3 ≠ 0 then some ((-2), σ) else (gX7_canTake σ 7 x1 x2).bind fun r4 => if w32 r4 ≠ 0 then (gX7_enter F σ 7 x1 x2).bind fun r5 => some (r5.1, r5.2) else some ((-2), σ) else some ((-1), σ)
def rmX10_let : Room := { frames := 3, cells := 0, slots := 0, locals := 71 }
set_option maxRecDepth 100000 in
set_option maxHeartbeats 4000000 in
theorem tX10_let (l : Launch) (G : GG) (F : Nat) (σ : St) (x1 : Int) (x2 : Int) : Ctr l G yX10_let cX10_let 3 (some .int) rmX10_let [vr G 0, vi x1, vi x2] (w0 σ) vzIw wzW (gX10_let F σ x1 x2) := by
  refine ctr_of (by decide) (Nat.le_of_ble_eq_true rfl) mwX10_let.1 (fun X hl hR C R hnm => ?_)
  subst hl
  refine z_lv (lv' := [(0, vr G 0), (1, vi x1), (2, vi x2)]) [0, 1, 2] rfl ?_
  show ZZ X G 3 (QM X G vzIw wzW (0, 0)) (0, 0) ((gX10_isGuest σ x1).bind fun r1 => if w32 r1 = 0 then some ((-1), σ) else (gX10_isPost σ x2).bind fun r2 => if w32 r2 ≠ 0 then (gX7_hasCome σ 7 x1).bind fun r3 => if w32 r3 ≠ 0 then some ((-2), σ) else (gX7_canTake σ 7 x1 x2).bind fun r4 => if w32 r4 ≠ 0 then (gX7_enter F σ 7 x1 x2).bind fun r5 => some (r5.1, r5.2) else some ((-2), σ) else some ((-1), σ)) (w0 σ) 0 [(0, vr G 0), (1, vi x1), (2, vi x2)] []
  refine z_aload_n C 0 rfl 0 rfl dX10_let_0 1 rfl ?_
  refine z_iload_n C 1 rfl 1 rfl dX10_let_1 2 rfl ?_
  refine y_callVI C hR (tX10_isGuest (mL X) G σ x1) ⟨mwX10_isGuest, mvX10_isGuest, lkX10_101⟩ one_10 rfl rfl (Nat.le_of_ble_eq_true rfl) (by unfold rmOK; decide) dX10_let_2 5 rfl (fun r1 _ => ?_)
  refine z_if_eq C dX10_let_5 16 (by decide) 8 rfl rfl (fun _ => ?_) (fun _ => ?_)
  · refine z_iconst C dX10_let_16 17 rfl ?_
    exact z_iret C R rfl rfl dX10_let_17
  · refine z_aload_n C 0 rfl 0 rfl dX10_let_8 9 rfl ?_
    refine z_iload_n C 2 rfl 2 rfl dX10_let_9 10 rfl ?_
    refine y_callVI C hR (tX10_isPost (mL X) G σ x2) ⟨mwX10_isPost, mvX10_isPost, lkX10_105⟩ one_10 rfl rfl (Nat.le_of_ble_eq_true rfl) (by unfold rmOK; decide) dX10_let_10 13 rfl (fun r2 _ => ?_)
    refine z_if_ne C dX10_let_13 18 (by decide) 16 rfl rfl (fun _ => ?_) (fun _ => ?_)
    · refine z_aload_n C 0 rfl 0 rfl dX10_let_18 19 rfl ?_
      refine y_getR C fX10_21 one_10 lay_10_1 dX10_let_19 22 rfl ?_
      refine z_iload_n C 1 rfl 1 rfl dX10_let_22 23 rfl ?_
      refine y_callVI C hR (tX7_hasCome (mL X) G σ 7 x1 lay_10_1.2) ⟨mwX7_hasCome, mvX7_hasCome, lkX10_108⟩ lay_10_1.2 rfl rfl (Nat.le_of_ble_eq_true rfl) (by unfold rmOK; decide) dX10_let_23 26 rfl (fun r3 _ => ?_)
      refine z_if_ne C dX10_let_26 41 (by decide) 29 rfl rfl (fun _ => ?_) (fun _ => ?_)
      · refine z_bipush C (by decide) dX10_let_41 43 rfl ?_
        exact z_iret C R rfl rfl dX10_let_43
      · refine z_aload_n C 0 rfl 0 rfl dX10_let_29 30 rfl ?_
        refine y_getR C fX10_21 one_10 lay_10_1 dX10_let_30 33 rfl ?_
        refine z_iload_n C 1 rfl 1 rfl dX10_let_33 34 rfl ?_
        refine z_iload_n C 2 rfl 2 rfl dX10_let_34 35 rfl ?_
        refine y_callVI C hR (tX7_canTake (mL X) G σ 7 x1 x2 lay_10_1.2) ⟨mwX7_canTake, mvX7_canTake, lkX10_342⟩ lay_10_1.2 rfl rfl (Nat.le_of_ble_eq_true rfl) (by unfold rmOK; decide) dX10_let_35 38 rfl (fun r4 _ => ?_)
        refine z_if_ne C dX10_let_38 44 (by decide) 41 rfl rfl (fun _ => ?_) (fun _ => ?_)
        · refine z_aload_n C 0 rfl 0 rfl dX10_let_44 45 rfl ?_
          refine y_getR C fX10_21 one_10 lay_10_1 dX10_let_45 48 rfl ?_
          refine z_iload_n C 1 rfl 1 rfl dX10_let_48 49 rfl ?_
          refine z_iload_n C 2 rfl 2 rfl dX10_let_49 50 rfl ?_
          refine y_callVIw C hR (tX7_enter (mL X) G F σ 7 x1 x2 lay_10_1.2) ⟨mwX7_enter, mvX7_enter, lkX10_345⟩ lay_10_1.2 rfl rfl (Nat.le_of_ble_eq_true rfl) (by unfold rmOK; decide) dX10_let_50 53 rfl (fun r5 _ => ?_)
          exact z_iret C R rfl rfl dX10_let_53
        · refine z_bipush C (by decide) dX10_let_41 43 rfl ?_
          exact z_iret C R rfl rfl dX10_let_43
    · refine z_iconst C dX10_let_16 17 rfl ?_
      exact z_iret C R rfl rfl dX10_let_17
-- leave
def gX10_leave (σ : St) (x1 : Int) : Option (Int × St) := (gX10_isGuest σ x1).bind fun r1 => if w32 r1 ≠ 0 then gd (0 ≤ w32 x1 ∧ w32 x1 < 9) (if w32 (σ (7 + 3) (w32 x1)) ≠ (-4) then (gX7_goAway σ 7 x1).bind fun r2 => some (r2.1, r2.2) else some ((-2), σ)) else some ((-1), σ)
def rmX10_leave : Room := { frames := 2, cells := 0, slots := 0, locals := 47 }
set_option maxRecDepth 100000 in
set_option maxHeartbeats 4000000 in
theorem tX10_leave (l : Launch) (G : GG) (σ : St) (x1 : Int) : Ctr l G yX10_leave cX10_leave 2 (some .int) rmX10_leave [vr G 0, vi x1] (w0 σ) vzIw wzW (gX10_leave σ x1) := by
  refine ctr_of (by decide) (Nat.le_of_ble_eq_true rfl) mwX10_leave.1 (fun X hl hR C R hnm => ?_)
  subst hl
  refine z_lv (lv' := [(0, vr G 0), (1, vi x1)]) [0, 1] rfl ?_
  show ZZ X G 2 (QM X G vzIw wzW (0, 0)) (0, 0) ((gX10_isGuest σ x1).bind fun r1 => if w32 r1 ≠ 0 then gd (0 ≤ w32 x1 ∧ w32 x1 < 9) (if w32 (σ (7 + 3) (w32 x1)) ≠ (-4) then (gX7_goAway σ 7 x1).bind fun r2 => some (r2.1, r2.2) else some ((-2), σ)) else some ((-1), σ)) (w0 σ) 0 [(0, vr G 0), (1, vi x1)] []
  refine z_aload_n C 0 rfl 0 rfl dX10_leave_0 1 rfl ?_
  refine z_iload_n C 1 rfl 1 rfl dX10_leave_1 2 rfl ?_
  refine y_callVI C hR (tX10_isGuest (mL X) G σ x1) ⟨mwX10_isGuest, mvX10_isGuest, lkX10_101⟩ one_10 rfl rfl (Nat.le_of_ble_eq_true rfl) (by unfold rmOK; decide) dX10_leave_2 5 rfl (fun r1 _ => ?_)
  refine z_if_ne C dX10_leave_5 10 (by decide) 8 rfl rfl (fun _ => ?_) (fun _ => ?_)
  · refine z_aload_n C 0 rfl 0 rfl dX10_leave_10 11 rfl ?_
    refine y_getR C fX10_21 one_10 lay_10_1 dX10_leave_11 14 rfl ?_
    refine y_getR C fX10_213 lay_10_1.2 (lay_7_3 lay_10_1.2) dX10_leave_14 17 rfl ?_
    refine z_iload_n C 1 rfl 1 rfl dX10_leave_17 18 rfl ?_
    refine y_iald C ((lay_7_3 lay_10_1.2).2) rfl dX10_leave_18 19 rfl rfl (fun _ => ?_)
    refine z_bipush C (by decide) dX10_leave_19 21 rfl ?_
    refine z_icmp_ne C dX10_leave_21 29 (by decide) 24 rfl rfl (w32_id (a := (-4)) (by decide)) (fun _ => ?_) (fun _ => ?_)
    · refine z_aload_n C 0 rfl 0 rfl dX10_leave_29 30 rfl ?_
      refine y_getR C fX10_21 one_10 lay_10_1 dX10_leave_30 33 rfl ?_
      refine z_iload_n C 1 rfl 1 rfl dX10_leave_33 34 rfl ?_
      refine y_callVIw C hR (tX7_goAway (mL X) G σ 7 x1 lay_10_1.2) ⟨mwX7_goAway, mvX7_goAway, lkX10_348⟩ lay_10_1.2 rfl rfl (Nat.le_of_ble_eq_true rfl) (by unfold rmOK; decide) dX10_leave_34 37 rfl (fun r2 _ => ?_)
      exact z_iret C R rfl rfl dX10_leave_37
    · refine z_bipush C (by decide) dX10_leave_24 26 rfl ?_
      refine z_goto C dX10_leave_26 37 (by decide) ?_
      exact z_iret C R rfl rfl dX10_leave_37
  · refine z_iconst C dX10_leave_8 9 rfl ?_
    exact z_iret C R rfl rfl dX10_leave_9
-- undo
def gX10_undo (σ : St) : Option (Int × St) := if w32 (σ 7 12) ≠ 0 then (gX7_takeBack σ 7).bind fun r1 => some (r1 7 12, r1) else some ((-4), σ)
def rmX10_undo : Room := { frames := 2, cells := 0, slots := 0, locals := 44 }
set_option maxRecDepth 100000 in
set_option maxHeartbeats 4000000 in
theorem tX10_undo (l : Launch) (G : GG) (σ : St) : Ctr l G yX10_undo cX10_undo 1 (some .int) rmX10_undo [vr G 0] (w0 σ) vzIw wzW (gX10_undo σ) := by
  refine ctr_of (by decide) (Nat.le_of_ble_eq_true rfl) mwX10_undo.1 (fun X hl hR C R hnm => ?_)
  subst hl
  refine z_lv (lv' := [(0, vr G 0)]) [0] rfl ?_
  show ZZ X G 1 (QM X G vzIw wzW (0, 0)) (0, 0) (if w32 (σ 7 12) ≠ 0 then (gX7_takeBack σ 7).bind fun r1 => some (r1 7 12, r1) else some ((-4), σ)) (w0 σ) 0 [(0, vr G 0)] []
  refine z_aload_n C 0 rfl 0 rfl dX10_undo_0 1 rfl ?_
  refine y_getR C fX10_21 one_10 lay_10_1 dX10_undo_1 4 rfl ?_
  refine y_getI C fX10_351 lay_10_1.2 dX10_undo_4 7 rfl ?_
  refine z_if_ne C dX10_undo_7 13 (by decide) 10 rfl rfl (fun _ => ?_) (fun _ => ?_)
  · refine z_aload_n C 0 rfl 0 rfl dX10_undo_13 14 rfl ?_
    refine y_getR C fX10_21 one_10 lay_10_1 dX10_undo_14 17 rfl ?_
    refine y_callVv C hR (tX7_takeBack (mL X) G σ 7 lay_10_1.2) ⟨mwX7_takeBack, mvX7_takeBack, lkX10_354⟩ lay_10_1.2 rfl rfl (Nat.le_of_ble_eq_true rfl) (by unfold rmOK; decide) dX10_undo_17 20 rfl (fun r1 _ => ?_)
    refine z_aload_n C 0 rfl 0 rfl dX10_undo_20 21 rfl ?_
    refine y_getR C fX10_21 one_10 lay_10_1 dX10_undo_21 24 rfl ?_
    refine y_getI C fX10_351 lay_10_1.2 dX10_undo_24 27 rfl ?_
    exact z_iret C R rfl rfl dX10_undo_27
  · refine z_bipush C (by decide) dX10_undo_10 12 rfl ?_
    exact z_iret C R rfl rfl dX10_undo_12
-- market
def gX10_market (F : Nat) (σ : St) (x1 : Int) : Option (Int) := (gX10_isEach σ x1 (σ 1 6)).bind fun r1 => if w32 r1 = 0 then if w32 x1 = 0 then (gX7_value F σ 7).bind fun r2 => some r2 else if w32 x1 = 1 then (gX7_kept F σ 7).bind fun r3 => some r3 else if w32 x1 = 2 then some (σ 7 10) else if w32 x1 = 3 then (gX7_paired F σ 7).bind fun r4 => some r4 else if w32 x1 = 4 then some (σ 7 12) else some ((-1)) else gd (0 ≤ w32 (x1 - 10) ∧ w32 (x1 - 10) < 9) (some (σ (7 + 3) (w32 (x1 - 10))))
def rmX10_market : Room := { frames := 2, cells := 0, slots := 0, locals := 44 }
set_option maxRecDepth 100000 in
set_option maxHeartbeats 4000000 in
theorem tX10_market (l : Launch) (G : GG) (F : Nat) (σ : St) (x1 : Int) : Ctr l G yX10_market cX10_market 2 (some .int) rmX10_market [vr G 0, vi x1] (w0 σ) vzI (wzR σ) (gX10_market F σ x1) := by
  refine ctr_of (by decide) (Nat.le_of_ble_eq_true rfl) mwX10_market.1 (fun X hl hR C R hnm => ?_)
  subst hl
  refine z_lv (lv' := [(0, vr G 0), (1, vi x1)]) [0, 1] rfl ?_
  show ZZ X G 2 (QM X G vzI (wzR σ) (0, 0)) (0, 0) ((gX10_isEach σ x1 (σ 1 6)).bind fun r1 => if w32 r1 = 0 then if w32 x1 = 0 then (gX7_value F σ 7).bind fun r2 => some r2 else if w32 x1 = 1 then (gX7_kept F σ 7).bind fun r3 => some r3 else if w32 x1 = 2 then some (σ 7 10) else if w32 x1 = 3 then (gX7_paired F σ 7).bind fun r4 => some r4 else if w32 x1 = 4 then some (σ 7 12) else some ((-1)) else gd (0 ≤ w32 (x1 - 10) ∧ w32 (x1 - 10) < 9) (some (σ (7 + 3) (w32 (x1 - 10))))) (w0 σ) 0 [(0, vr G 0), (1, vi x1)] []
  refine z_iload_n C 1 rfl 1 rfl dX10_market_0 1 rfl ?_
  refine z_aload_n C 0 rfl 0 rfl dX10_market_1 2 rfl ?_
  refine y_getR C fX10_10 one_10 lay_10_0 dX10_market_2 5 rfl ?_
  refine y_getI C fX10_95 lay_10_0.2 dX10_market_5 8 rfl ?_
  refine y_callSI C hR (tX10_isEach (mL X) G σ x1 (σ 1 6)) ⟨mwX10_isEach, msX10_isEach, lkX10_180⟩ rfl rfl (Nat.le_of_ble_eq_true rfl) (by unfold rmOK; decide) dX10_market_8 11 rfl (fun r1 _ => ?_)
  refine z_if_eq C dX10_market_11 27 (by decide) 14 rfl rfl (fun _ => ?_) (fun _ => ?_)
  · refine z_iload_n C 1 rfl 1 rfl dX10_market_27 28 rfl ?_
    refine z_ite (fun hq0 => ?_) (fun hn0 => ?_)
    · refine z_tin C dX10_market_28 (v := 0) (hq0) (by decide) rfl 64 (by decide) ?_
      refine z_aload_n C 0 rfl 0 rfl dX10_market_64 65 rfl ?_
      refine y_getR C fX10_21 one_10 lay_10_1 dX10_market_65 68 rfl ?_
      refine y_callVI C hR (tX7_value (mL X) G F σ 7 lay_10_1.2) ⟨mwX7_value, mvX7_value, lkX10_201⟩ lay_10_1.2 rfl rfl (Nat.le_of_ble_eq_true rfl) (by unfold rmOK; decide) dX10_market_68 71 rfl (fun r2 _ => ?_)
      exact z_iret C R rfl rfl dX10_market_71
    refine z_ite (fun hq1 => ?_) (fun hn1 => ?_)
    · refine z_tin C dX10_market_28 (v := 1) (hq1) (by decide) rfl 72 (by decide) ?_
      refine z_aload_n C 0 rfl 0 rfl dX10_market_72 73 rfl ?_
      refine y_getR C fX10_21 one_10 lay_10_1 dX10_market_73 76 rfl ?_
      refine y_callVI C hR (tX7_kept (mL X) G F σ 7 lay_10_1.2) ⟨mwX7_kept, mvX7_kept, lkX10_204⟩ lay_10_1.2 rfl rfl (Nat.le_of_ble_eq_true rfl) (by unfold rmOK; decide) dX10_market_76 79 rfl (fun r3 _ => ?_)
      exact z_iret C R rfl rfl dX10_market_79
    refine z_ite (fun hq2 => ?_) (fun hn2 => ?_)
    · refine z_tin C dX10_market_28 (v := 2) (hq2) (by decide) rfl 80 (by decide) ?_
      refine z_aload_n C 0 rfl 0 rfl dX10_market_80 81 rfl ?_
      refine y_getR C fX10_21 one_10 lay_10_1 dX10_market_81 84 rfl ?_
      refine y_getI C fX10_80 lay_10_1.2 dX10_market_84 87 rfl ?_
      exact z_iret C R rfl rfl dX10_market_87
    refine z_ite (fun hq3 => ?_) (fun hn3 => ?_)
    · refine z_tin C dX10_market_28 (v := 3) (hq3) (by decide) rfl 88 (by decide) ?_
      refine z_aload_n C 0 rfl 0 rfl dX10_market_88 89 rfl ?_
      refine y_getR C fX10_21 one_10 lay_10_1 dX10_market_89 92 rfl ?_
      refine y_callVI C hR (tX7_paired (mL X) G F σ 7 lay_10_1.2) ⟨mwX7_paired, mvX7_paired, lkX10_207⟩ lay_10_1.2 rfl rfl (Nat.le_of_ble_eq_true rfl) (by unfold rmOK; decide) dX10_market_92 95 rfl (fun r4 _ => ?_)
      exact z_iret C R rfl rfl dX10_market_95
    refine z_ite (fun hq4 => ?_) (fun hn4 => ?_)
    · refine z_tin C dX10_market_28 (v := 4) (hq4) (by decide) rfl 96 (by decide) ?_
      refine z_aload_n C 0 rfl 0 rfl dX10_market_96 97 rfl ?_
      refine y_getR C fX10_21 one_10 lay_10_1 dX10_market_97 100 rfl ?_
      refine y_getI C fX10_351 lay_10_1.2 dX10_market_100 103 rfl ?_
      exact z_iret C R rfl rfl dX10_market_103
    refine z_tout C dX10_market_28 (by omega) 104 (by decide) ?_
    refine z_iconst C dX10_market_104 105 rfl ?_
    exact z_iret C R rfl rfl dX10_market_105
  · refine z_aload_n C 0 rfl 0 rfl dX10_market_14 15 rfl ?_
    refine y_getR C fX10_21 one_10 lay_10_1 dX10_market_15 18 rfl ?_
    refine y_getR C fX10_213 lay_10_1.2 (lay_7_3 lay_10_1.2) dX10_market_18 21 rfl ?_
    refine z_iload_n C 1 rfl 1 rfl dX10_market_21 22 rfl ?_
    refine z_bipush C (by decide) dX10_market_22 24 rfl ?_
    refine z_isub C dX10_market_24 25 rfl ?_
    refine y_iald C ((lay_7_3 lay_10_1.2).2) rfl dX10_market_25 26 rfl rfl (fun _ => ?_)
    exact z_iret C R rfl rfl dX10_market_26
-- isSheet
def gX10_isSheet (σ : St) (x0 : Int) : Option (Int) := if w32 x0 < 0 then some 0 else if w32 x0 ≥ 4 then some 0 else some 1
def rmX10_isSheet : Room := { frames := 0, cells := 0, slots := 0, locals := 0 }
set_option maxRecDepth 100000 in
set_option maxHeartbeats 4000000 in
theorem tX10_isSheet (l : Launch) (G : GG) (σ : St) (x0 : Int) : Ctr l G yX10_isSheet cX10_isSheet 1 (some .boolean) rmX10_isSheet [vi x0] (w0 σ) vzI (wzR σ) (gX10_isSheet σ x0) := by
  refine ctr_of (by decide) (Nat.le_of_ble_eq_true rfl) mwX10_isSheet.1 (fun X hl hR C R hnm => ?_)
  subst hl
  refine z_lv (lv' := [(0, vi x0)]) [0] rfl ?_
  show ZZ X G 1 (QM X G vzI (wzR σ) (0, 0)) (0, 0) (if w32 x0 < 0 then some 0 else if w32 x0 ≥ 4 then some 0 else some 1) (w0 σ) 0 [(0, vi x0)] []
  refine z_iload_n C 0 rfl 0 rfl dX10_isSheet_0 1 rfl ?_
  refine z_if_lt C dX10_isSheet_1 13 (by decide) 4 rfl rfl (fun _ => ?_) (fun _ => ?_)
  · refine z_iconst C dX10_isSheet_13 14 rfl ?_
    exact z_zret C R nz0 rfl rfl dX10_isSheet_14
  · refine z_iload_n C 0 rfl 0 rfl dX10_isSheet_4 5 rfl ?_
    refine z_iconst C dX10_isSheet_5 6 rfl ?_
    refine z_icmp_ge C dX10_isSheet_6 13 (by decide) 9 rfl rfl (w32_id (a := 4) (by decide)) (fun _ => ?_) (fun _ => ?_)
    · refine z_iconst C dX10_isSheet_13 14 rfl ?_
      exact z_zret C R nz0 rfl rfl dX10_isSheet_14
    · refine z_iconst C dX10_isSheet_9 10 rfl ?_
      refine z_goto C dX10_isSheet_10 14 (by decide) ?_
      exact z_zret C R nz1 rfl rfl dX10_isSheet_14
-- sheet
def gX10_sheet (σ : St) (x1 : Int) (x2 : Int) (x3 : Int) : Option (Int × St) := (gX10_isSheet σ x1).bind fun r1 => if w32 r1 = 0 then some ((-1), σ) else (gX10_isIn σ x2 0 2).bind fun r2 => if w32 r2 = 0 then some ((-1), σ) else if w32 x3 ≤ 64 then if w32 x3 ≥ 0 then gd (0 ≤ w32 x1 ∧ w32 x1 < 4) ((gX6_renew σ (135 + 2 * (w32 x1)) x2 x3).bind fun r4 => some (1, r4)) else some ((-14), σ) else some ((-1), σ)
def rmX10_sheet : Room := { frames := 2, cells := 0, slots := 0, locals := 46 }
set_option maxRecDepth 100000 in
set_option maxHeartbeats 4000000 in
theorem tX10_sheet (l : Launch) (G : GG) (σ : St) (x1 : Int) (x2 : Int) (x3 : Int) : Ctr l G yX10_sheet cX10_sheet 4 (some .int) rmX10_sheet [vr G 0, vi x1, vi x2, vi x3] (w0 σ) vzIw wzW (gX10_sheet σ x1 x2 x3) := by
  refine ctr_of (by decide) (Nat.le_of_ble_eq_true rfl) mwX10_sheet.1 (fun X hl hR C R hnm => ?_)
  subst hl
  refine z_lv (lv' := [(0, vr G 0), (1, vi x1), (2, vi x2), (3, vi x3)]) [0, 1, 2, 3] rfl ?_
  show ZZ X G 4 (QM X G vzIw wzW (0, 0)) (0, 0) ((gX10_isSheet σ x1).bind fun r1 => if w32 r1 = 0 then some ((-1), σ) else (gX10_isIn σ x2 0 2).bind fun r2 => if w32 r2 = 0 then some ((-1), σ) else if w32 x3 ≤ 64 then if w32 x3 ≥ 0 then gd (0 ≤ w32 x1 ∧ w32 x1 < 4) ((gX6_renew σ (135 + 2 * (w32 x1)) x2 x3).bind fun r4 => some (1, r4)) else some ((-14), σ) else some ((-1), σ)) (w0 σ) 0 [(0, vr G 0), (1, vi x1), (2, vi x2), (3, vi x3)] []
  refine z_iload_n C 1 rfl 1 rfl dX10_sheet_0 1 rfl ?_
  refine y_callSI C hR (tX10_isSheet (mL X) G σ x1) ⟨mwX10_isSheet, msX10_isSheet, lkX10_357⟩ rfl rfl (Nat.le_of_ble_eq_true rfl) (by unfold rmOK; decide) dX10_sheet_1 4 rfl (fun r1 _ => ?_)
  refine z_if_eq C dX10_sheet_4 22 (by decide) 7 rfl rfl (fun _ => ?_) (fun _ => ?_)
  · refine z_iconst C dX10_sheet_22 23 rfl ?_
    exact z_iret C R rfl rfl dX10_sheet_23
  · refine z_iload_n C 2 rfl 2 rfl dX10_sheet_7 8 rfl ?_
    refine z_iconst C dX10_sheet_8 9 rfl ?_
    refine z_iconst C dX10_sheet_9 10 rfl ?_
    refine y_callSI C hR (tX10_isIn (mL X) G σ x2 0 2) ⟨mwX10_isIn, msX10_isIn, lkX10_76⟩ rfl rfl (Nat.le_of_ble_eq_true rfl) (by unfold rmOK; decide) dX10_sheet_10 13 rfl (fun r2 _ => ?_)
    refine z_if_eq C dX10_sheet_13 22 (by decide) 16 rfl rfl (fun _ => ?_) (fun _ => ?_)
    · refine z_iconst C dX10_sheet_22 23 rfl ?_
      exact z_iret C R rfl rfl dX10_sheet_23
    · refine z_iload_n C 3 rfl 3 rfl dX10_sheet_16 17 rfl ?_
      refine z_bipush C (by decide) dX10_sheet_17 19 rfl ?_
      refine z_icmp_le C dX10_sheet_19 24 (by decide) 22 rfl rfl (w32_id (a := 64) (by decide)) (fun _ => ?_) (fun _ => ?_)
      · refine z_iload_n C 3 rfl 3 rfl dX10_sheet_24 25 rfl ?_
        refine z_if_ge C dX10_sheet_25 31 (by decide) 28 rfl rfl (fun _ => ?_) (fun _ => ?_)
        · refine z_aload_n C 0 rfl 0 rfl dX10_sheet_31 32 rfl ?_
          refine y_getR C fX10_63 one_10 lay_10_9 dX10_sheet_32 35 rfl ?_
          refine z_iload_n C 1 rfl 1 rfl dX10_sheet_35 36 rfl ?_
          refine y_aald (t := 1) C lay_10_9.2 (by decide) rfl dX10_sheet_36 37 rfl rfl (fun r => 135 + 2 * r) (fun h => lay_sheets h) (fun hb3 => ?_)
          refine z_iload_n C 2 rfl 2 rfl dX10_sheet_37 38 rfl ?_
          refine z_iload_n C 3 rfl 3 rfl dX10_sheet_38 39 rfl ?_
          refine y_callVv C hR (tX6_renew (mL X) G σ (135 + 2 * (w32 x1)) x2 x3 ((lay_sheets hb3).2)) ⟨mwX6_renew, mvX6_renew, lkX10_360⟩ ((lay_sheets hb3).2) rfl rfl (Nat.le_of_ble_eq_true rfl) (by unfold rmOK; decide) dX10_sheet_39 42 rfl (fun r4 _ => ?_)
          refine z_iconst C dX10_sheet_42 43 rfl ?_
          exact z_iret C R rfl rfl dX10_sheet_43
        · refine z_bipush C (by decide) dX10_sheet_28 30 rfl ?_
          exact z_iret C R rfl rfl dX10_sheet_30
      · refine z_iconst C dX10_sheet_22 23 rfl ?_
        exact z_iret C R rfl rfl dX10_sheet_23
-- lay
def gX10_lay (σ : St) (x1 : Int) (x2 : Int) (x3 : Int) : Option (Int × St) := (gX10_isSheet σ x1).bind fun r1 => if w32 r1 ≠ 0 then gd (0 ≤ w32 x1 ∧ w32 x1 < 4) ((gX6_isNothing σ (135 + 2 * (w32 x1))).bind fun r3 => if w32 r3 = 0 then (gX6_hasCell σ (135 + 2 * (w32 x1)) x2).bind fun r4 => if w32 r4 ≠ 0 then (gX6_put σ (135 + 2 * (w32 x1)) x2 x3).bind fun r5 => some (1, r5) else some ((-12), σ) else some ((-11), σ)) else some ((-1), σ)
def rmX10_lay : Room := { frames := 1, cells := 0, slots := 0, locals := 22 }
set_option maxRecDepth 100000 in
set_option maxHeartbeats 4000000 in
theorem tX10_lay (l : Launch) (G : GG) (σ : St) (x1 : Int) (x2 : Int) (x3 : Int) : Ctr l G yX10_lay cX10_lay 5 (some .int) rmX10_lay [vr G 0, vi x1, vi x2, vi x3] (w0 σ) vzIw wzW (gX10_lay σ x1 x2 x3) := by
  refine ctr_of (by decide) (Nat.le_of_ble_eq_true rfl) mwX10_lay.1 (fun X hl hR C R hnm => ?_)
  subst hl
  refine z_lv (lv' := [(0, vr G 0), (1, vi x1), (2, vi x2), (3, vi x3)]) [0, 1, 2, 3] rfl ?_
  show ZZ X G 5 (QM X G vzIw wzW (0, 0)) (0, 0) ((gX10_isSheet σ x1).bind fun r1 => if w32 r1 ≠ 0 then gd (0 ≤ w32 x1 ∧ w32 x1 < 4) ((gX6_isNothing σ (135 + 2 * (w32 x1))).bind fun r3 => if w32 r3 = 0 then (gX6_hasCell σ (135 + 2 * (w32 x1)) x2).bind fun r4 => if w32 r4 ≠ 0 then (gX6_put σ (135 + 2 * (w32 x1)) x2 x3).bind fun r5 => some (1, r5) else some ((-12), σ) else some ((-11), σ)) else some ((-1), σ)) (w0 σ) 0 [(0, vr G 0), (1, vi x1), (2, vi x2), (3, vi x3)] []
  refine z_iload_n C 1 rfl 1 rfl dX10_lay_0 1 rfl ?_
  refine y_callSI C hR (tX10_isSheet (mL X) G σ x1) ⟨mwX10_isSheet, msX10_isSheet, lkX10_357⟩ rfl rfl (Nat.le_of_ble_eq_true rfl) (by unfold rmOK; decide) dX10_lay_1 4 rfl (fun r1 _ => ?_)
  refine z_if_ne C dX10_lay_4 9 (by decide) 7 rfl rfl (fun _ => ?_) (fun _ => ?_)
  · refine z_aload_n C 0 rfl 0 rfl dX10_lay_9 10 rfl ?_
    refine y_getR C fX10_63 one_10 lay_10_9 dX10_lay_10 13 rfl ?_
    refine z_iload_n C 1 rfl 1 rfl dX10_lay_13 14 rfl ?_
    refine y_aald (t := 1) C lay_10_9.2 (by decide) rfl dX10_lay_14 15 rfl rfl (fun r => 135 + 2 * r) (fun h => lay_sheets h) (fun hb2 => ?_)
    refine z_astore (lv' := [(4, vr G (135 + 2 * (w32 x1))), (0, vr G 0), (1, vi x1), (2, vi x2), (3, vi x3)]) C (by decide) dX10_lay_15 17 rfl rfl ?_
    refine z_aload C 0 rfl dX10_lay_17 19 rfl ?_
    refine y_callVI C hR (tX6_isNothing (mL X) G σ (135 + 2 * (w32 x1)) ((lay_sheets hb2).2)) ⟨mwX6_isNothing, mvX6_isNothing, lkX10_363⟩ ((lay_sheets hb2).2) rfl rfl (Nat.le_of_ble_eq_true rfl) (by unfold rmOK; decide) dX10_lay_19 22 rfl (fun r3 _ => ?_)
    refine z_if_eq C dX10_lay_22 28 (by decide) 25 rfl rfl (fun _ => ?_) (fun _ => ?_)
    · refine z_aload C 0 rfl dX10_lay_28 30 rfl ?_
      refine z_iload_n C 2 rfl 3 rfl dX10_lay_30 31 rfl ?_
      refine y_callVI C hR (tX6_hasCell (mL X) G σ (135 + 2 * (w32 x1)) x2 ((lay_sheets hb2).2)) ⟨mwX6_hasCell, mvX6_hasCell, lkX10_366⟩ ((lay_sheets hb2).2) rfl rfl (Nat.le_of_ble_eq_true rfl) (by unfold rmOK; decide) dX10_lay_31 34 rfl (fun r4 _ => ?_)
      refine z_if_ne C dX10_lay_34 40 (by decide) 37 rfl rfl (fun _ => ?_) (fun _ => ?_)
      · refine z_aload C 0 rfl dX10_lay_40 42 rfl ?_
        refine z_iload_n C 2 rfl 3 rfl dX10_lay_42 43 rfl ?_
        refine z_iload_n C 3 rfl 4 rfl dX10_lay_43 44 rfl ?_
        refine y_callVv C hR (tX6_put (mL X) G σ (135 + 2 * (w32 x1)) x2 x3 ((lay_sheets hb2).2)) ⟨mwX6_put, mvX6_put, lkX10_369⟩ ((lay_sheets hb2).2) rfl rfl (Nat.le_of_ble_eq_true rfl) (by unfold rmOK; decide) dX10_lay_44 47 rfl (fun r5 _ => ?_)
        refine z_iconst C dX10_lay_47 48 rfl ?_
        exact z_iret C R rfl rfl dX10_lay_48
      · refine z_bipush C (by decide) dX10_lay_37 39 rfl ?_
        exact z_iret C R rfl rfl dX10_lay_39
    · refine z_bipush C (by decide) dX10_lay_25 27 rfl ?_
      exact z_iret C R rfl rfl dX10_lay_27
  · refine z_iconst C dX10_lay_7 8 rfl ?_
    exact z_iret C R rfl rfl dX10_lay_8
-- readWorths
def gX10_readWorths_L77 (F : Nat) (x1 : Int) (x2 : Int) (c8 : Int → Int → Int → St → Option (Int × St)) (c23 : Int → Int → Int → Int → St → Option (Int × St)) (x3 : Int) (x4 : Int) (x5 : Int) (x6 : Int) (σ : St) : Option (Int × St) := c23 x3 (x4 + 1) x5 (x6 + 1) σ
def gX10_readWorths_L23 (F : Nat) (x1 : Int) (x2 : Int) (c8 : Int → Int → Int → St → Option (Int × St)) : Nat → Int → Int → Int → Int → St → Option (Int × St)
  | 0, _, _, _, _, _ => none
  | n + 1, x3, x4, x5, x6, σ => if w32 x6 ≥ w32 (σ 1 5) then c8 x3 x4 (x5 + 1) σ else (gX0_worthAt σ 1 x5 x6).bind fun r1 => gd (0 ≤ w32 x4 ∧ w32 x4 < 64) (if w32 r1 = w32 (σ (x1 + 1) (w32 x4)) then gX10_readWorths_L77 F x1 x2 c8 (gX10_readWorths_L23 F x1 x2 c8 n) x3 x4 x5 x6 σ else gd (0 ≤ w32 x4 ∧ w32 x4 < 64) ((gX0_putWorth σ 1 x5 x6 (σ (x1 + 1) (w32 x4))).bind fun r2 => gX10_readWorths_L77 F x1 x2 c8 (gX10_readWorths_L23 F x1 x2 c8 n) (x3 + 1) x4 x5 x6 r2))
def gX10_readWorths_L8 (F : Nat) (x1 : Int) (x2 : Int) : Nat → Int → Int → Int → St → Option (Int × St)
  | 0, _, _, _, _ => none
  | n + 1, x3, x4, x5, σ => if w32 x5 ≥ w32 (σ 1 6) then some (x3, σ) else gX10_readWorths_L23 F x1 x2 (gX10_readWorths_L8 F x1 x2 n) F x3 x4 x5 0 σ
def gX10_readWorths (F : Nat) (σ : St) (x1 : Int) (x2 : Int) : Option (Int × St) := gX10_readWorths_L8 F x1 x2 F 0 x2 0 σ
def rmX10_readWorths : Room := { frames := 1, cells := 0, slots := 0, locals := 23 }
set_option maxRecDepth 100000 in
set_option maxHeartbeats 4000000 in
theorem pX10_readWorths_L77 {X : MX} {G : GG} (C : CX X G 7 cX10_readWorths RX10) (R : RT X (some .int)) (hR : mR X = rmX10_readWorths) (F : Nat) (x1 : Int) (h1 : isK x1 (0, 6)) (x2 : Int) (c8 : Int → Int → Int → St → Option (Int × St)) (hc8 : ∀ (x3 : Int) (x4 : Int) (x5 : Int) (σ : St), ZZ X G 7 (QM X G vzIw wzW (0, 0)) (0, 0) (c8 x3 x4 x5 σ) (w0 σ) 8 [(0, vr G 0), (1, vr G x1), (3, vi x3), (4, vi x4), (5, vi x5)] []) (c23 : Int → Int → Int → Int → St → Option (Int × St)) (hc23 : ∀ (x3 : Int) (x4 : Int) (x5 : Int) (x6 : Int) (σ : St), ZZ X G 7 (QM X G vzIw wzW (0, 0)) (0, 0) (c23 x3 x4 x5 x6 σ) (w0 σ) 23 [(0, vr G 0), (1, vr G x1), (3, vi x3), (4, vi x4), (5, vi x5), (6, vi x6)] []) : ∀ (x3 : Int) (x4 : Int) (x5 : Int) (x6 : Int) (σ : St), ZZ X G 7 (QM X G vzIw wzW (0, 0)) (0, 0) (gX10_readWorths_L77 F x1 x2 c8 c23 x3 x4 x5 x6 σ) (w0 σ) 77 [(0, vr G 0), (1, vr G x1), (3, vi x3), (4, vi x4), (5, vi x5), (6, vi x6)] [] := by
  intro x3 x4 x5 x6 σ
  show ZZ X G 7 (QM X G vzIw wzW (0, 0)) (0, 0) (c23 x3 (x4 + 1) x5 (x6 + 1) σ) (w0 σ) 77 [(0, vr G 0), (1, vr G x1), (3, vi x3), (4, vi x4), (5, vi x5), (6, vi x6)] []
  refine z_iinc (lv' := [(4, vi (x4 + 1)), (0, vr G 0), (1, vr G x1), (3, vi x3), (5, vi x5), (6, vi x6)]) C (by decide) 3 rfl dX10_readWorths_77 80 rfl rfl ?_
  refine z_iinc (lv' := [(6, vi (x6 + 1)), (4, vi (x4 + 1)), (0, vr G 0), (1, vr G x1), (3, vi x3), (5, vi x5)]) C (by decide) 5 rfl dX10_readWorths_80 83 rfl rfl ?_
  refine z_goto C dX10_readWorths_83 23 (by decide) ?_
  refine z_lv (lv' := [(0, vr G 0), (1, vr G x1), (3, vi x3), (4, vi (x4 + 1)), (5, vi x5), (6, vi (x6 + 1))]) [2, 3, 4, 1, 5, 0] rfl ?_
  exact hc23 x3 (x4 + 1) x5 (x6 + 1) σ
set_option maxRecDepth 100000 in
set_option maxHeartbeats 4000000 in
theorem pX10_readWorths_L23 {X : MX} {G : GG} (C : CX X G 7 cX10_readWorths RX10) (R : RT X (some .int)) (hR : mR X = rmX10_readWorths) (F : Nat) (x1 : Int) (h1 : isK x1 (0, 6)) (x2 : Int) (c8 : Int → Int → Int → St → Option (Int × St)) (hc8 : ∀ (x3 : Int) (x4 : Int) (x5 : Int) (σ : St), ZZ X G 7 (QM X G vzIw wzW (0, 0)) (0, 0) (c8 x3 x4 x5 σ) (w0 σ) 8 [(0, vr G 0), (1, vr G x1), (3, vi x3), (4, vi x4), (5, vi x5)] []) : ∀ (n : Nat) (x3 : Int) (x4 : Int) (x5 : Int) (x6 : Int) (σ : St), ZZ X G 7 (QM X G vzIw wzW (0, 0)) (0, 0) (gX10_readWorths_L23 F x1 x2 c8 n x3 x4 x5 x6 σ) (w0 σ) 23 [(0, vr G 0), (1, vr G x1), (3, vi x3), (4, vi x4), (5, vi x5), (6, vi x6)] [] := by
  intro n
  induction n with
  | zero =>
    intro _ _ _ _ _
    exact z_none
  | succ n ih =>
    intro x3 x4 x5 x6 σ
    show ZZ X G 7 (QM X G vzIw wzW (0, 0)) (0, 0) (if w32 x6 ≥ w32 (σ 1 5) then c8 x3 x4 (x5 + 1) σ else (gX0_worthAt σ 1 x5 x6).bind fun r1 => gd (0 ≤ w32 x4 ∧ w32 x4 < 64) (if w32 r1 = w32 (σ (x1 + 1) (w32 x4)) then gX10_readWorths_L77 F x1 x2 c8 (gX10_readWorths_L23 F x1 x2 c8 n) x3 x4 x5 x6 σ else gd (0 ≤ w32 x4 ∧ w32 x4 < 64) ((gX0_putWorth σ 1 x5 x6 (σ (x1 + 1) (w32 x4))).bind fun r2 => gX10_readWorths_L77 F x1 x2 c8 (gX10_readWorths_L23 F x1 x2 c8 n) (x3 + 1) x4 x5 x6 r2))) (w0 σ) 23 [(0, vr G 0), (1, vr G x1), (3, vi x3), (4, vi x4), (5, vi x5), (6, vi x6)] []
    refine z_iload C 5 rfl dX10_readWorths_23 25 rfl ?_
    refine z_aload_n C 0 rfl 0 rfl dX10_readWorths_25 26 rfl ?_
    refine y_getR C fX10_10 one_10 lay_10_0 dX10_readWorths_26 29 rfl ?_
    refine y_getI C fX10_84 lay_10_0.2 dX10_readWorths_29 32 rfl ?_
    refine z_icmp_ge C dX10_readWorths_32 86 (by decide) 35 rfl rfl rfl (fun _ => ?_) (fun _ => ?_)
    · refine z_iinc (lv' := [(5, vi (x5 + 1)), (0, vr G 0), (1, vr G x1), (3, vi x3), (4, vi x4), (6, vi x6)]) C (by decide) 4 rfl dX10_readWorths_86 89 rfl rfl ?_
      refine z_goto C dX10_readWorths_89 8 (by decide) ?_
      refine z_lv (lv' := [(0, vr G 0), (1, vr G x1), (3, vi x3), (4, vi x4), (5, vi (x5 + 1))]) [1, 2, 3, 4, 0] rfl ?_
      exact hc8 x3 x4 (x5 + 1) σ
    · refine z_aload_n C 0 rfl 0 rfl dX10_readWorths_35 36 rfl ?_
      refine y_getR C fX10_10 one_10 lay_10_0 dX10_readWorths_36 39 rfl ?_
      refine z_iload C 4 rfl dX10_readWorths_39 41 rfl ?_
      refine z_iload C 5 rfl dX10_readWorths_41 43 rfl ?_
      refine y_callVI C hR (tX0_worthAt (mL X) G σ 1 x5 x6 lay_10_0.2) ⟨mwX0_worthAt, mvX0_worthAt, lkX10_111⟩ lay_10_0.2 rfl rfl (Nat.le_of_ble_eq_true rfl) (by unfold rmOK; decide) dX10_readWorths_43 46 rfl (fun r1 _ => ?_)
      refine z_aload_n C 1 rfl 1 rfl dX10_readWorths_46 47 rfl ?_
      refine y_getR C fX10_375 h1 (lay_6_0 h1) dX10_readWorths_47 50 rfl ?_
      refine z_iload C 3 rfl dX10_readWorths_50 52 rfl ?_
      refine y_iald C ((lay_6_0 h1).2) rfl dX10_readWorths_52 53 rfl rfl (fun _ => ?_)
      refine z_icmp_eq C dX10_readWorths_53 77 (by decide) 56 rfl rfl rfl (fun _ => ?_) (fun _ => ?_)
      · exact pX10_readWorths_L77 C R hR F x1 h1 x2 c8 hc8 (gX10_readWorths_L23 F x1 x2 c8 n) ih x3 x4 x5 x6 σ
      · refine z_aload_n C 0 rfl 0 rfl dX10_readWorths_56 57 rfl ?_
        refine y_getR C fX10_10 one_10 lay_10_0 dX10_readWorths_57 60 rfl ?_
        refine z_iload C 4 rfl dX10_readWorths_60 62 rfl ?_
        refine z_iload C 5 rfl dX10_readWorths_62 64 rfl ?_
        refine z_aload_n C 1 rfl 1 rfl dX10_readWorths_64 65 rfl ?_
        refine y_getR C fX10_375 h1 (lay_6_0 h1) dX10_readWorths_65 68 rfl ?_
        refine z_iload C 3 rfl dX10_readWorths_68 70 rfl ?_
        refine y_iald C ((lay_6_0 h1).2) rfl dX10_readWorths_70 71 rfl rfl (fun _ => ?_)
        refine y_callVv C hR (tX0_putWorth (mL X) G σ 1 x5 x6 (σ (x1 + 1) (w32 x4)) lay_10_0.2) ⟨mwX0_putWorth, mvX0_putWorth, lkX10_115⟩ lay_10_0.2 rfl rfl (Nat.le_of_ble_eq_true rfl) (by unfold rmOK; decide) dX10_readWorths_71 74 rfl (fun r2 _ => ?_)
        refine z_iinc (lv' := [(3, vi (x3 + 1)), (0, vr G 0), (1, vr G x1), (4, vi x4), (5, vi x5), (6, vi x6)]) C (by decide) 2 rfl dX10_readWorths_74 77 rfl rfl ?_
        refine z_lv (lv' := [(0, vr G 0), (1, vr G x1), (3, vi (x3 + 1)), (4, vi x4), (5, vi x5), (6, vi x6)]) [1, 2, 0, 3, 4, 5] rfl ?_
        exact pX10_readWorths_L77 C R hR F x1 h1 x2 c8 hc8 (gX10_readWorths_L23 F x1 x2 c8 n) ih (x3 + 1) x4 x5 x6 r2
set_option maxRecDepth 100000 in
set_option maxHeartbeats 4000000 in
theorem pX10_readWorths_L8 {X : MX} {G : GG} (C : CX X G 7 cX10_readWorths RX10) (R : RT X (some .int)) (hR : mR X = rmX10_readWorths) (F : Nat) (x1 : Int) (h1 : isK x1 (0, 6)) (x2 : Int)  : ∀ (n : Nat) (x3 : Int) (x4 : Int) (x5 : Int) (σ : St), ZZ X G 7 (QM X G vzIw wzW (0, 0)) (0, 0) (gX10_readWorths_L8 F x1 x2 n x3 x4 x5 σ) (w0 σ) 8 [(0, vr G 0), (1, vr G x1), (3, vi x3), (4, vi x4), (5, vi x5)] [] := by
  intro n
  induction n with
  | zero =>
    intro _ _ _ _
    exact z_none
  | succ n ih =>
    intro x3 x4 x5 σ
    show ZZ X G 7 (QM X G vzIw wzW (0, 0)) (0, 0) (if w32 x5 ≥ w32 (σ 1 6) then some (x3, σ) else gX10_readWorths_L23 F x1 x2 (gX10_readWorths_L8 F x1 x2 n) F x3 x4 x5 0 σ) (w0 σ) 8 [(0, vr G 0), (1, vr G x1), (3, vi x3), (4, vi x4), (5, vi x5)] []
    refine z_iload C 4 rfl dX10_readWorths_8 10 rfl ?_
    refine z_aload_n C 0 rfl 0 rfl dX10_readWorths_10 11 rfl ?_
    refine y_getR C fX10_10 one_10 lay_10_0 dX10_readWorths_11 14 rfl ?_
    refine y_getI C fX10_95 lay_10_0.2 dX10_readWorths_14 17 rfl ?_
    refine z_icmp_ge C dX10_readWorths_17 92 (by decide) 20 rfl rfl rfl (fun _ => ?_) (fun _ => ?_)
    · refine z_iload_n C 3 rfl 2 rfl dX10_readWorths_92 93 rfl ?_
      exact z_iret C R rfl rfl dX10_readWorths_93
    · refine z_iconst C dX10_readWorths_20 21 rfl ?_
      refine z_istore (lv' := [(6, vi 0), (0, vr G 0), (1, vr G x1), (3, vi x3), (4, vi x4), (5, vi x5)]) C (by decide) dX10_readWorths_21 23 rfl rfl ?_
      refine z_lv (lv' := [(0, vr G 0), (1, vr G x1), (3, vi x3), (4, vi x4), (5, vi x5), (6, vi 0)]) [1, 2, 3, 4, 5, 0] rfl ?_
      exact pX10_readWorths_L23 C R hR F x1 h1 x2 (gX10_readWorths_L8 F x1 x2 n) ih F x3 x4 x5 0 σ
set_option maxRecDepth 100000 in
set_option maxHeartbeats 4000000 in
theorem tX10_readWorths (l : Launch) (G : GG) (F : Nat) (σ : St) (x1 : Int) (x2 : Int) (h1 : isK x1 (0, 6)) : Ctr l G yX10_readWorths cX10_readWorths 7 (some .int) rmX10_readWorths [vr G 0, vr G x1, vi x2] (w0 σ) vzIw wzW (gX10_readWorths F σ x1 x2) := by
  refine ctr_of (by decide) (Nat.le_of_ble_eq_true rfl) mwX10_readWorths.1 (fun X hl hR C R hnm => ?_)
  subst hl
  refine z_lv (lv' := [(0, vr G 0), (1, vr G x1), (2, vi x2)]) [0, 1, 2] rfl ?_
  show ZZ X G 7 (QM X G vzIw wzW (0, 0)) (0, 0) (gX10_readWorths_L8 F x1 x2 F 0 x2 0 σ) (w0 σ) 0 [(0, vr G 0), (1, vr G x1), (2, vi x2)] []
  refine z_iconst C dX10_readWorths_0 1 rfl ?_
  refine z_istore_n (lv' := [(3, vi 0), (0, vr G 0), (1, vr G x1), (2, vi x2)]) C 3 rfl (by decide) dX10_readWorths_1 2 rfl rfl ?_
  refine z_iload_n C 2 rfl 3 rfl dX10_readWorths_2 3 rfl ?_
  refine z_istore (lv' := [(4, vi x2), (3, vi 0), (0, vr G 0), (1, vr G x1), (2, vi x2)]) C (by decide) dX10_readWorths_3 5 rfl rfl ?_
  refine z_iconst C dX10_readWorths_5 6 rfl ?_
  refine z_istore (lv' := [(5, vi 0), (4, vi x2), (3, vi 0), (0, vr G 0), (1, vr G x1), (2, vi x2)]) C (by decide) dX10_readWorths_6 8 rfl rfl ?_
  refine z_lv (lv' := [(0, vr G 0), (1, vr G x1), (3, vi 0), (4, vi x2), (5, vi 0)]) [3, 4, 2, 1, 0] rfl ?_
  exact pX10_readWorths_L8 C R hR F x1 h1 x2 F 0 x2 0 σ
-- net
def gX10_net_L69 (F : Nat) (x1 : Int) (x2 : Int) (x3 : Int) : Nat → Int → Int → Int → St → Option (Int × St)
  | 0, _, _, _, _ => none
  | n + 1, x4, x5, x6, σ => if w32 x6 ≥ w32 x5 then if w32 (σ 7 10) ≤ 0 then (gX10_readWorths F σ x4 x3).bind fun r1 => some (r1.1, r1.2) else some ((-2), σ) else (gX6_hasCell σ x4 (x3 + x6)).bind fun r2 => if w32 r2 ≠ 0 then gd (0 ≤ w32 (x3 + x6) ∧ w32 (x3 + x6) < 64) ((gX10_isIn σ (σ (x4 + 1) (w32 (x3 + x6))) 0 99).bind fun r3 => if w32 r3 ≠ 0 then gX10_net_L69 F x1 x2 x3 n x4 x5 (x6 + 1) σ else some (((-100)) - x6, σ)) else some ((-12), σ)
def gX10_net (F : Nat) (σ : St) (x1 : Int) (x2 : Int) (x3 : Int) : Option (Int × St) := (gX10_isSheet σ x1).bind fun r1 => if w32 r1 = 0 then some ((-1), σ) else (gX10_isIn σ x2 0 2).bind fun r2 => if w32 r2 ≠ 0 then gd (0 ≤ w32 x1 ∧ w32 x1 < 4) ((gX6_isNothing σ (135 + 2 * (w32 x1))).bind fun r4 => if w32 r4 = 0 then if w32 (σ (135 + 2 * (w32 x1)) 1) = w32 x2 then gX10_net_L69 F x1 x2 x3 F (135 + 2 * (w32 x1)) ((σ 1 6) * (σ 1 5)) 0 σ else some ((-13), σ) else some ((-11), σ)) else some ((-1), σ)
def rmX10_net : Room := { frames := 2, cells := 0, slots := 0, locals := 49 }
set_option maxRecDepth 100000 in
set_option maxHeartbeats 4000000 in
theorem pX10_net_L69 {X : MX} {G : GG} (C : CX X G 7 cX10_net RX10) (R : RT X (some .int)) (hR : mR X = rmX10_net) (F : Nat) (x1 : Int) (x2 : Int) (x3 : Int)  : ∀ (n : Nat) (x4 : Int) (x5 : Int) (x6 : Int) (σ : St) (h4 : isK x4 (0, 6)), ZZ X G 7 (QM X G vzIw wzW (0, 0)) (0, 0) (gX10_net_L69 F x1 x2 x3 n x4 x5 x6 σ) (w0 σ) 69 [(0, vr G 0), (3, vi x3), (4, vr G x4), (5, vi x5), (6, vi x6)] [] := by
  intro n
  induction n with
  | zero =>
    intro _ _ _ _ _
    exact z_none
  | succ n ih =>
    intro x4 x5 x6 σ h4
    show ZZ X G 7 (QM X G vzIw wzW (0, 0)) (0, 0) (if w32 x6 ≥ w32 x5 then if w32 (σ 7 10) ≤ 0 then (gX10_readWorths F σ x4 x3).bind fun r1 => some (r1.1, r1.2) else some ((-2), σ) else (gX6_hasCell σ x4 (x3 + x6)).bind fun r2 => if w32 r2 ≠ 0 then gd (0 ≤ w32 (x3 + x6) ∧ w32 (x3 + x6) < 64) ((gX10_isIn σ (σ (x4 + 1) (w32 (x3 + x6))) 0 99).bind fun r3 => if w32 r3 ≠ 0 then gX10_net_L69 F x1 x2 x3 n x4 x5 (x6 + 1) σ else some (((-100)) - x6, σ)) else some ((-12), σ)) (w0 σ) 69 [(0, vr G 0), (3, vi x3), (4, vr G x4), (5, vi x5), (6, vi x6)] []
    refine z_iload C 4 rfl dX10_net_69 71 rfl ?_
    refine z_iload C 3 rfl dX10_net_71 73 rfl ?_
    refine z_icmp_ge C dX10_net_73 122 (by decide) 76 rfl rfl rfl (fun _ => ?_) (fun _ => ?_)
    · refine z_aload_n C 0 rfl 0 rfl dX10_net_122 123 rfl ?_
      refine y_getR C fX10_21 one_10 lay_10_1 dX10_net_123 126 rfl ?_
      refine y_getI C fX10_80 lay_10_1.2 dX10_net_126 129 rfl ?_
      refine z_if_le C dX10_net_129 137 (by decide) 132 rfl rfl (fun _ => ?_) (fun _ => ?_)
      · refine z_aload_n C 0 rfl 0 rfl dX10_net_137 138 rfl ?_
        refine z_aload C 2 rfl dX10_net_138 140 rfl ?_
        refine z_iload_n C 3 rfl 1 rfl dX10_net_140 141 rfl ?_
        refine y_callVIw C hR (tX10_readWorths (mL X) G F σ x4 x3 h4) ⟨mwX10_readWorths, mvX10_readWorths, lkX10_378⟩ one_10 rfl rfl (Nat.le_of_ble_eq_true rfl) (by unfold rmOK; decide) dX10_net_141 144 rfl (fun r1 _ => ?_)
        exact z_iret C R rfl rfl dX10_net_144
      · refine z_bipush C (by decide) dX10_net_132 134 rfl ?_
        refine z_goto C dX10_net_134 144 (by decide) ?_
        exact z_iret C R rfl rfl dX10_net_144
    · refine z_aload C 2 rfl dX10_net_76 78 rfl ?_
      refine z_iload_n C 3 rfl 1 rfl dX10_net_78 79 rfl ?_
      refine z_iload C 4 rfl dX10_net_79 81 rfl ?_
      refine z_iadd C dX10_net_81 82 rfl ?_
      refine y_callVI C hR (tX6_hasCell (mL X) G σ x4 (x3 + x6) h4) ⟨mwX6_hasCell, mvX6_hasCell, lkX10_366⟩ h4 rfl rfl (Nat.le_of_ble_eq_true rfl) (by unfold rmOK; decide) dX10_net_82 85 rfl (fun r2 _ => ?_)
      refine z_if_ne C dX10_net_85 91 (by decide) 88 rfl rfl (fun _ => ?_) (fun _ => ?_)
      · refine z_aload C 2 rfl dX10_net_91 93 rfl ?_
        refine y_getR C fX10_375 h4 (lay_6_0 h4) dX10_net_93 96 rfl ?_
        refine z_iload_n C 3 rfl 1 rfl dX10_net_96 97 rfl ?_
        refine z_iload C 4 rfl dX10_net_97 99 rfl ?_
        refine z_iadd C dX10_net_99 100 rfl ?_
        refine y_iald C ((lay_6_0 h4).2) rfl dX10_net_100 101 rfl rfl (fun _ => ?_)
        refine z_iconst C dX10_net_101 102 rfl ?_
        refine z_bipush C (by decide) dX10_net_102 104 rfl ?_
        refine y_callSI C hR (tX10_isIn (mL X) G σ (σ (x4 + 1) (w32 (x3 + x6))) 0 99) ⟨mwX10_isIn, msX10_isIn, lkX10_76⟩ rfl rfl (Nat.le_of_ble_eq_true rfl) (by unfold rmOK; decide) dX10_net_104 107 rfl (fun r3 _ => ?_)
        refine z_if_ne C dX10_net_107 116 (by decide) 110 rfl rfl (fun _ => ?_) (fun _ => ?_)
        · refine z_iinc (lv' := [(6, vi (x6 + 1)), (0, vr G 0), (3, vi x3), (4, vr G x4), (5, vi x5)]) C (by decide) 4 rfl dX10_net_116 119 rfl rfl ?_
          refine z_goto C dX10_net_119 69 (by decide) ?_
          refine z_lv (lv' := [(0, vr G 0), (3, vi x3), (4, vr G x4), (5, vi x5), (6, vi (x6 + 1))]) [1, 2, 3, 4, 0] rfl ?_
          exact ih x4 x5 (x6 + 1) σ h4
        · refine z_bipush C (by decide) dX10_net_110 112 rfl ?_
          refine z_iload C 4 rfl dX10_net_112 114 rfl ?_
          refine z_isub C dX10_net_114 115 rfl ?_
          exact z_iret C R rfl rfl dX10_net_115
      · refine z_bipush C (by decide) dX10_net_88 90 rfl ?_
        exact z_iret C R rfl rfl dX10_net_90
set_option maxRecDepth 100000 in
set_option maxHeartbeats 4000000 in
theorem tX10_net (l : Launch) (G : GG) (F : Nat) (σ : St) (x1 : Int) (x2 : Int) (x3 : Int) : Ctr l G yX10_net cX10_net 7 (some .int) rmX10_net [vr G 0, vi x1, vi x2, vi x3] (w0 σ) vzIw wzW (gX10_net F σ x1 x2 x3) := by
  refine ctr_of (by decide) (Nat.le_of_ble_eq_true rfl) mwX10_net.1 (fun X hl hR C R hnm => ?_)
  subst hl
  refine z_lv (lv' := [(0, vr G 0), (1, vi x1), (2, vi x2), (3, vi x3)]) [0, 1, 2, 3] rfl ?_
  show ZZ X G 7 (QM X G vzIw wzW (0, 0)) (0, 0) ((gX10_isSheet σ x1).bind fun r1 => if w32 r1 = 0 then some ((-1), σ) else (gX10_isIn σ x2 0 2).bind fun r2 => if w32 r2 ≠ 0 then gd (0 ≤ w32 x1 ∧ w32 x1 < 4) ((gX6_isNothing σ (135 + 2 * (w32 x1))).bind fun r4 => if w32 r4 = 0 then if w32 (σ (135 + 2 * (w32 x1)) 1) = w32 x2 then gX10_net_L69 F x1 x2 x3 F (135 + 2 * (w32 x1)) ((σ 1 6) * (σ 1 5)) 0 σ else some ((-13), σ) else some ((-11), σ)) else some ((-1), σ)) (w0 σ) 0 [(0, vr G 0), (1, vi x1), (2, vi x2), (3, vi x3)] []
  refine z_iload_n C 1 rfl 1 rfl dX10_net_0 1 rfl ?_
  refine y_callSI C hR (tX10_isSheet (mL X) G σ x1) ⟨mwX10_isSheet, msX10_isSheet, lkX10_357⟩ rfl rfl (Nat.le_of_ble_eq_true rfl) (by unfold rmOK; decide) dX10_net_1 4 rfl (fun r1 _ => ?_)
  refine z_if_eq C dX10_net_4 16 (by decide) 7 rfl rfl (fun _ => ?_) (fun _ => ?_)
  · refine z_iconst C dX10_net_16 17 rfl ?_
    exact z_iret C R rfl rfl dX10_net_17
  · refine z_iload_n C 2 rfl 2 rfl dX10_net_7 8 rfl ?_
    refine z_iconst C dX10_net_8 9 rfl ?_
    refine z_iconst C dX10_net_9 10 rfl ?_
    refine y_callSI C hR (tX10_isIn (mL X) G σ x2 0 2) ⟨mwX10_isIn, msX10_isIn, lkX10_76⟩ rfl rfl (Nat.le_of_ble_eq_true rfl) (by unfold rmOK; decide) dX10_net_10 13 rfl (fun r2 _ => ?_)
    refine z_if_ne C dX10_net_13 18 (by decide) 16 rfl rfl (fun _ => ?_) (fun _ => ?_)
    · refine z_aload_n C 0 rfl 0 rfl dX10_net_18 19 rfl ?_
      refine y_getR C fX10_63 one_10 lay_10_9 dX10_net_19 22 rfl ?_
      refine z_iload_n C 1 rfl 1 rfl dX10_net_22 23 rfl ?_
      refine y_aald (t := 1) C lay_10_9.2 (by decide) rfl dX10_net_23 24 rfl rfl (fun r => 135 + 2 * r) (fun h => lay_sheets h) (fun hb3 => ?_)
      refine z_astore (lv' := [(4, vr G (135 + 2 * (w32 x1))), (0, vr G 0), (1, vi x1), (2, vi x2), (3, vi x3)]) C (by decide) dX10_net_24 26 rfl rfl ?_
      refine z_aload C 0 rfl dX10_net_26 28 rfl ?_
      refine y_callVI C hR (tX6_isNothing (mL X) G σ (135 + 2 * (w32 x1)) ((lay_sheets hb3).2)) ⟨mwX6_isNothing, mvX6_isNothing, lkX10_363⟩ ((lay_sheets hb3).2) rfl rfl (Nat.le_of_ble_eq_true rfl) (by unfold rmOK; decide) dX10_net_28 31 rfl (fun r4 _ => ?_)
      refine z_if_eq C dX10_net_31 37 (by decide) 34 rfl rfl (fun _ => ?_) (fun _ => ?_)
      · refine z_aload C 0 rfl dX10_net_37 39 rfl ?_
        refine y_getI C fX10_372 ((lay_sheets hb3).2) dX10_net_39 42 rfl ?_
        refine z_iload_n C 2 rfl 3 rfl dX10_net_42 43 rfl ?_
        refine z_icmp_eq C dX10_net_43 49 (by decide) 46 rfl rfl rfl (fun _ => ?_) (fun _ => ?_)
        · refine z_aload_n C 0 rfl 1 rfl dX10_net_49 50 rfl ?_
          refine y_getR C fX10_10 one_10 lay_10_0 dX10_net_50 53 rfl ?_
          refine y_getI C fX10_95 lay_10_0.2 dX10_net_53 56 rfl ?_
          refine z_aload_n C 0 rfl 1 rfl dX10_net_56 57 rfl ?_
          refine y_getR C fX10_10 one_10 lay_10_0 dX10_net_57 60 rfl ?_
          refine y_getI C fX10_84 lay_10_0.2 dX10_net_60 63 rfl ?_
          refine z_imul C dX10_net_63 64 rfl ?_
          refine z_istore (lv' := [(5, vi ((σ 1 6) * (σ 1 5))), (4, vr G (135 + 2 * (w32 x1))), (0, vr G 0), (1, vi x1), (2, vi x2), (3, vi x3)]) C (by decide) dX10_net_64 66 rfl rfl ?_
          refine z_iconst C dX10_net_66 67 rfl ?_
          refine z_istore (lv' := [(6, vi 0), (5, vi ((σ 1 6) * (σ 1 5))), (4, vr G (135 + 2 * (w32 x1))), (0, vr G 0), (1, vi x1), (2, vi x2), (3, vi x3)]) C (by decide) dX10_net_67 69 rfl rfl ?_
          refine z_lv (lv' := [(0, vr G 0), (3, vi x3), (4, vr G (135 + 2 * (w32 x1))), (5, vi ((σ 1 6) * (σ 1 5))), (6, vi 0)]) [3, 6, 2, 1, 0] rfl ?_
          exact pX10_net_L69 C R hR F x1 x2 x3 F (135 + 2 * (w32 x1)) ((σ 1 6) * (σ 1 5)) 0 σ ((lay_sheets hb3).2)
        · refine z_bipush C (by decide) dX10_net_46 48 rfl ?_
          exact z_iret C R rfl rfl dX10_net_48
      · refine z_bipush C (by decide) dX10_net_34 36 rfl ?_
        exact z_iret C R rfl rfl dX10_net_36
    · refine z_iconst C dX10_net_16 17 rfl ?_
      exact z_iret C R rfl rfl dX10_net_17
-- count
def gX10_count (F : Nat) (σ : St) (x1 : Int) : Option (Int) := if w32 x1 = 0 then some (σ 1 5) else if w32 x1 = 1 then some (σ 1 6) else if w32 x1 = 2 then some (σ 0 12) else if w32 x1 = 3 then (gX0_allLinks F σ 1).bind fun r1 => some r1 else if w32 x1 = 4 then (gX0_allRooms F σ 1).bind fun r2 => some r2 else if w32 x1 = 5 then some (σ 57 0) else if w32 x1 = 6 then gd (0 ≤ 0 ∧ 0 < 4) ((gX6_isNothing σ (135 + 2 * 0)).bind fun r4 => if w32 r4 = 0 then gd (0 ≤ 0 ∧ 0 < 4) (some (σ (135 + 2 * 0) 2)) else some ((-4))) else some ((-1))
def rmX10_count : Room := { frames := 3, cells := 0, slots := 0, locals := 67 }
set_option maxRecDepth 100000 in
set_option maxHeartbeats 4000000 in
theorem tX10_count (l : Launch) (G : GG) (F : Nat) (σ : St) (x1 : Int) : Ctr l G yX10_count cX10_count 2 (some .int) rmX10_count [vr G 0, vi x1] (w0 σ) vzI (wzR σ) (gX10_count F σ x1) := by
  refine ctr_of (by decide) (Nat.le_of_ble_eq_true rfl) mwX10_count.1 (fun X hl hR C R hnm => ?_)
  subst hl
  refine z_lv (lv' := [(0, vr G 0), (1, vi x1)]) [0, 1] rfl ?_
  show ZZ X G 2 (QM X G vzI (wzR σ) (0, 0)) (0, 0) (if w32 x1 = 0 then some (σ 1 5) else if w32 x1 = 1 then some (σ 1 6) else if w32 x1 = 2 then some (σ 0 12) else if w32 x1 = 3 then (gX0_allLinks F σ 1).bind fun r1 => some r1 else if w32 x1 = 4 then (gX0_allRooms F σ 1).bind fun r2 => some r2 else if w32 x1 = 5 then some (σ 57 0) else if w32 x1 = 6 then gd (0 ≤ 0 ∧ 0 < 4) ((gX6_isNothing σ (135 + 2 * 0)).bind fun r4 => if w32 r4 = 0 then gd (0 ≤ 0 ∧ 0 < 4) (some (σ (135 + 2 * 0) 2)) else some ((-4))) else some ((-1))) (w0 σ) 0 [(0, vr G 0), (1, vi x1)] []
  refine z_iload_n C 1 rfl 1 rfl dX10_count_0 1 rfl ?_
  refine z_ite (fun hq0 => ?_) (fun hn0 => ?_)
  · refine z_tin C dX10_count_1 (v := 0) (hq0) (by decide) rfl 44 (by decide) ?_
    refine z_aload_n C 0 rfl 0 rfl dX10_count_44 45 rfl ?_
    refine y_getR C fX10_10 one_10 lay_10_0 dX10_count_45 48 rfl ?_
    refine y_getI C fX10_84 lay_10_0.2 dX10_count_48 51 rfl ?_
    exact z_iret C R rfl rfl dX10_count_51
  refine z_ite (fun hq1 => ?_) (fun hn1 => ?_)
  · refine z_tin C dX10_count_1 (v := 1) (hq1) (by decide) rfl 52 (by decide) ?_
    refine z_aload_n C 0 rfl 0 rfl dX10_count_52 53 rfl ?_
    refine y_getR C fX10_10 one_10 lay_10_0 dX10_count_53 56 rfl ?_
    refine y_getI C fX10_95 lay_10_0.2 dX10_count_56 59 rfl ?_
    exact z_iret C R rfl rfl dX10_count_59
  refine z_ite (fun hq2 => ?_) (fun hn2 => ?_)
  · refine z_tin C dX10_count_1 (v := 2) (hq2) (by decide) rfl 60 (by decide) ?_
    refine z_aload_n C 0 rfl 0 rfl dX10_count_60 61 rfl ?_
    refine y_getI C fX10_158 one_10 dX10_count_61 64 rfl ?_
    exact z_iret C R rfl rfl dX10_count_64
  refine z_ite (fun hq3 => ?_) (fun hn3 => ?_)
  · refine z_tin C dX10_count_1 (v := 3) (hq3) (by decide) rfl 65 (by decide) ?_
    refine z_aload_n C 0 rfl 0 rfl dX10_count_65 66 rfl ?_
    refine y_getR C fX10_10 one_10 lay_10_0 dX10_count_66 69 rfl ?_
    refine y_callVI C hR (tX0_allLinks (mL X) G F σ 1 lay_10_0.2) ⟨mwX0_allLinks, mvX0_allLinks, lkX10_382⟩ lay_10_0.2 rfl rfl (Nat.le_of_ble_eq_true rfl) (by unfold rmOK; decide) dX10_count_69 72 rfl (fun r1 _ => ?_)
    exact z_iret C R rfl rfl dX10_count_72
  refine z_ite (fun hq4 => ?_) (fun hn4 => ?_)
  · refine z_tin C dX10_count_1 (v := 4) (hq4) (by decide) rfl 73 (by decide) ?_
    refine z_aload_n C 0 rfl 0 rfl dX10_count_73 74 rfl ?_
    refine y_getR C fX10_10 one_10 lay_10_0 dX10_count_74 77 rfl ?_
    refine y_callVI C hR (tX0_allRooms (mL X) G F σ 1 lay_10_0.2) ⟨mwX0_allRooms, mvX0_allRooms, lkX10_87⟩ lay_10_0.2 rfl rfl (Nat.le_of_ble_eq_true rfl) (by unfold rmOK; decide) dX10_count_77 80 rfl (fun r2 _ => ?_)
    exact z_iret C R rfl rfl dX10_count_80
  refine z_ite (fun hq5 => ?_) (fun hn5 => ?_)
  · refine z_tin C dX10_count_1 (v := 5) (hq5) (by decide) rfl 81 (by decide) ?_
    refine z_aload_n C 0 rfl 0 rfl dX10_count_81 82 rfl ?_
    refine y_getR C fX10_51 one_10 lay_10_7 dX10_count_82 85 rfl ?_
    refine y_getI C fX10_151 lay_10_7.2 dX10_count_85 88 rfl ?_
    exact z_iret C R rfl rfl dX10_count_88
  refine z_ite (fun hq6 => ?_) (fun hn6 => ?_)
  · refine z_tin C dX10_count_1 (v := 6) (hq6) (by decide) rfl 89 (by decide) ?_
    refine z_aload_n C 0 rfl 0 rfl dX10_count_89 90 rfl ?_
    refine y_getR C fX10_63 one_10 lay_10_9 dX10_count_90 93 rfl ?_
    refine z_iconst C dX10_count_93 94 rfl ?_
    refine y_aald (t := 1) C lay_10_9.2 (by decide) rfl dX10_count_94 95 rfl (w32_id (a := 0) (by decide)) (fun r => 135 + 2 * r) (fun h => lay_sheets h) (fun hb3 => ?_)
    refine y_callVI C hR (tX6_isNothing (mL X) G σ (135 + 2 * 0) ((lay_sheets hb3).2)) ⟨mwX6_isNothing, mvX6_isNothing, lkX10_363⟩ ((lay_sheets hb3).2) rfl rfl (Nat.le_of_ble_eq_true rfl) (by unfold rmOK; decide) dX10_count_95 98 rfl (fun r4 _ => ?_)
    refine z_if_eq C dX10_count_98 106 (by decide) 101 rfl rfl (fun _ => ?_) (fun _ => ?_)
    · refine z_aload_n C 0 rfl 0 rfl dX10_count_106 107 rfl ?_
      refine y_getR C fX10_63 one_10 lay_10_9 dX10_count_107 110 rfl ?_
      refine z_iconst C dX10_count_110 111 rfl ?_
      refine y_aald (t := 1) C lay_10_9.2 (by decide) rfl dX10_count_111 112 rfl (w32_id (a := 0) (by decide)) (fun r => 135 + 2 * r) (fun h => lay_sheets h) (fun hb5 => ?_)
      refine y_getI C fX10_385 ((lay_sheets hb5).2) dX10_count_112 115 rfl ?_
      exact z_iret C R rfl rfl dX10_count_115
    · refine z_bipush C (by decide) dX10_count_101 103 rfl ?_
      refine z_goto C dX10_count_103 115 (by decide) ?_
      exact z_iret C R rfl rfl dX10_count_115
  refine z_tout C dX10_count_1 (by omega) 116 (by decide) ?_
  refine z_iconst C dX10_count_116 117 rfl ?_
  exact z_iret C R rfl rfl dX10_count_117
