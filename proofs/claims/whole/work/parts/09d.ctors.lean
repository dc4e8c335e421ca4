-- THE CONSTRUCTORS, by program (wip/gen/ctor.py)
theorem zn {X : MX} {G : GG} {nL : Nat} {T : Type} {Qz : T → State → Prop} {o : Option T} {pc : Nat} {lv : List (Nat × Value)} {st : List Value} {l1 l2 : List (Int × Int × Int)} {cn : Nat × Nat} (cn' : Nat × Nat) (h1 : cn = cn') {n : Nat} (n' : Nat) (h2 : n = n') (m : ZZ X G nL Qz cn' o (wl n' l1 l2) pc lv st) : ZZ X G nL Qz cn o (wl n l1 l2) pc lv st := by subst h1; subst h2; exact m
theorem loX10 : Cond.methodLink RX10 1 Lib.objectInit ∈ UW := uw_in tb_26 rfl
theorem loX0 : Cond.methodLink RX0 3 Lib.objectInit ∈ UW := uw_in tb_34 rfl
theorem fFX0_9 : FLF RX0 9 0 0 ∧ isRefTy (tyOf 0 0) = true ∧ ((0 : Nat) : Int) = 0 := ⟨⟨RX0, TX0, 8, cf0, by decide, uw_in tb_35 rfl, rfl, rfl⟩, rfl, rfl⟩
theorem fFX0_15 : FLF RX0 15 0 1 ∧ isRefTy (tyOf 0 1) = true ∧ ((1 : Nat) : Int) = 1 := ⟨⟨RX0, TX0, 8, cf0, by decide, uw_in tb_39 rfl, rfl, rfl⟩, rfl, rfl⟩
theorem fFX0_18 : FLF RX0 18 0 2 ∧ isRefTy (tyOf 0 2) = true ∧ ((2 : Nat) : Int) = 2 := ⟨⟨RX0, TX0, 8, cf0, by decide, uw_in tb_42 rfl, rfl, rfl⟩, rfl, rfl⟩
theorem fFX0_21 : FLF RX0 21 0 3 ∧ isRefTy (tyOf 0 3) = true ∧ ((3 : Nat) : Int) = 3 := ⟨⟨RX0, TX0, 8, cf0, by decide, uw_in tb_45 rfl, rfl, rfl⟩, rfl, rfl⟩
theorem fFX0_24 : FLF RX0 24 0 4 ∧ isRefTy (tyOf 0 4) = true ∧ ((4 : Nat) : Int) = 4 := ⟨⟨RX0, TX0, 8, cf0, by decide, uw_in tb_48 rfl, rfl, rfl⟩, rfl, rfl⟩
def rmI1 : Room := { frames := 1, cells := 5, slots := 81, locals := 30 }
set_option maxRecDepth 100000 in
set_option maxHeartbeats 4000000 in
theorem ti_1 (l : Launch) (G : GG) (l1 l2 : List (Int × Int × Int)) (f1 : frs 2 l1) (f2 : frs 2 l2) : Ctr l G yX0_init cX0_init 1 none rmI1 [vr G 1] (wl 2 l1 l2) (fun _ : Unit => none) (fun _ : Unit => wl 7 ((1, 4, 6) :: (1, 3, 5) :: (1, 2, 4) :: (1, 1, 3) :: (1, 0, 2) :: l1) (l2)) (some ()) := by
  refine ctr_of (by decide) (Nat.le_of_ble_eq_true rfl) mwX0_init.1 (fun X hl hR C R hnm => ?_)
  subst hl
  refine z_lv (lv' := [(0, vr G 1)]) [0] rfl ?_
  refine z_aload_n C 0 rfl 0 rfl dX0_init_0 1 rfl ?_
  refine c_obj C hR loX0 (Nat.le_of_ble_eq_true rfl) (by decide) dX0_init_1 4 rfl ?_
  refine z_aload_n C 0 rfl 0 rfl dX0_init_4 5 rfl ?_
  refine z_bipush C (by decide) dX0_init_5 7 rfl ?_
  refine c_newa (t := 1) (N := 6) C hR (uw_in tb_82 rfl) (Or.inl ⟨rfl, rfl⟩) rfl f2 ⟨w32_id (a := 6) (by decide), by decide⟩ (by decide) dX0_init_7 9 rfl (k := 2) rfl ?_
  refine zn (1, 6) rfl 3 rfl ?_
  have f1 := frs_m f1 (show 2 ≤ 3 by decide)
  have f2 := frs_m f2 (show 2 ≤ 3 by decide)
  refine c_putF C hnm fFX0_9 ⟨rfl, by decide, by decide⟩ (by decide) dX0_init_9 12 rfl ?_
  have f1 := frs_c (e := (1, 0, 2)) (show (1 : Int) < ((3 : Nat) : Int) by decide) f1
  refine z_aload_n C 0 rfl 0 rfl dX0_init_12 13 rfl ?_
  refine z_bipush C (by decide) dX0_init_13 15 rfl ?_
  refine c_newa (t := 1) (N := 6) C hR (uw_in tb_82 rfl) (Or.inl ⟨rfl, rfl⟩) rfl f2 ⟨w32_id (a := 6) (by decide), by decide⟩ (by decide) dX0_init_15 17 rfl (k := 3) rfl ?_
  refine zn (2, 12) rfl 4 rfl ?_
  have f1 := frs_m f1 (show 3 ≤ 4 by decide)
  have f2 := frs_m f2 (show 3 ≤ 4 by decide)
  refine c_putF C hnm fFX0_15 ⟨rfl, by decide, by decide⟩ (by decide) dX0_init_17 20 rfl ?_
  have f1 := frs_c (e := (1, 1, 3)) (show (1 : Int) < ((4 : Nat) : Int) by decide) f1
  refine z_aload_n C 0 rfl 0 rfl dX0_init_20 21 rfl ?_
  refine z_bipush C (by decide) dX0_init_21 23 rfl ?_
  refine c_newa (t := 1) (N := 6) C hR (uw_in tb_82 rfl) (Or.inl ⟨rfl, rfl⟩) rfl f2 ⟨w32_id (a := 6) (by decide), by decide⟩ (by decide) dX0_init_23 25 rfl (k := 4) rfl ?_
  refine zn (3, 18) rfl 5 rfl ?_
  have f1 := frs_m f1 (show 4 ≤ 5 by decide)
  have f2 := frs_m f2 (show 4 ≤ 5 by decide)
  refine c_putF C hnm fFX0_18 ⟨rfl, by decide, by decide⟩ (by decide) dX0_init_25 28 rfl ?_
  have f1 := frs_c (e := (1, 2, 4)) (show (1 : Int) < ((5 : Nat) : Int) by decide) f1
  refine z_aload_n C 0 rfl 0 rfl dX0_init_28 29 rfl ?_
  refine z_bipush C (by decide) dX0_init_29 31 rfl ?_
  refine c_newa (t := 1) (N := 9) C hR (uw_in tb_82 rfl) (Or.inl ⟨rfl, rfl⟩) rfl f2 ⟨w32_id (a := 9) (by decide), by decide⟩ (by decide) dX0_init_31 33 rfl (k := 5) rfl ?_
  refine zn (4, 27) rfl 6 rfl ?_
  have f1 := frs_m f1 (show 5 ≤ 6 by decide)
  have f2 := frs_m f2 (show 5 ≤ 6 by decide)
  refine c_putF C hnm fFX0_21 ⟨rfl, by decide, by decide⟩ (by decide) dX0_init_33 36 rfl ?_
  have f1 := frs_c (e := (1, 3, 5)) (show (1 : Int) < ((6 : Nat) : Int) by decide) f1
  refine z_aload_n C 0 rfl 0 rfl dX0_init_36 37 rfl ?_
  refine z_bipush C (by decide) dX0_init_37 39 rfl ?_
  refine c_newa (t := 1) (N := 54) C hR (uw_in tb_82 rfl) (Or.inl ⟨rfl, rfl⟩) rfl f2 ⟨w32_id (a := 54) (by decide), by decide⟩ (by decide) dX0_init_39 41 rfl (k := 6) rfl ?_
  refine zn (5, 81) rfl 7 rfl ?_
  have f1 := frs_m f1 (show 6 ≤ 7 by decide)
  have f2 := frs_m f2 (show 6 ≤ 7 by decide)
  refine c_putF C hnm fFX0_24 ⟨rfl, by decide, by decide⟩ (by decide) dX0_init_41 44 rfl ?_
  have f1 := frs_c (e := (1, 4, 6)) (show (1 : Int) < ((7 : Nat) : Int) by decide) f1
  exact z_vret C R rfl rfl dX0_init_44
theorem fFX10_10 : FLF RX10 10 10 0 ∧ isRefTy (tyOf 10 0) = true ∧ ((0 : Nat) : Int) = 0 := ⟨⟨RX10, TX10, 14, cf10, by decide, uw_in tb_383 rfl, rfl, rfl⟩, rfl, rfl⟩
theorem loX7 : Cond.methodLink RX7 3 Lib.objectInit ∈ UW := uw_in tb_88 rfl
theorem fFX7_9 : FLF RX7 9 7 1 ∧ isRefTy (tyOf 7 1) = true ∧ ((1 : Nat) : Int) = 1 := ⟨⟨RX7, TX7, 13, cf7, by decide, uw_in tb_94 rfl, rfl, rfl⟩, rfl, rfl⟩
theorem fFX7_15 : FLF RX7 15 7 2 ∧ isRefTy (tyOf 7 2) = true ∧ ((2 : Nat) : Int) = 2 := ⟨⟨RX7, TX7, 13, cf7, by decide, uw_in tb_95 rfl, rfl, rfl⟩, rfl, rfl⟩
theorem fFX7_18 : FLF RX7 18 7 3 ∧ isRefTy (tyOf 7 3) = true ∧ ((3 : Nat) : Int) = 3 := ⟨⟨RX7, TX7, 13, cf7, by decide, uw_in tb_97 rfl, rfl, rfl⟩, rfl, rfl⟩
theorem fFX7_21 : FLF RX7 21 7 4 ∧ isRefTy (tyOf 7 4) = true ∧ ((4 : Nat) : Int) = 4 := ⟨⟨RX7, TX7, 13, cf7, by decide, uw_in tb_99 rfl, rfl, rfl⟩, rfl, rfl⟩
theorem fFX7_24 : FLF RX7 24 7 5 ∧ isRefTy (tyOf 7 5) = true ∧ ((5 : Nat) : Int) = 5 := ⟨⟨RX7, TX7, 13, cf7, by decide, uw_in tb_100 rfl, rfl, rfl⟩, rfl, rfl⟩
theorem fFX7_27 : FLF RX7 27 7 6 ∧ isRefTy (tyOf 7 6) = true ∧ ((6 : Nat) : Int) = 6 := ⟨⟨RX7, TX7, 13, cf7, by decide, uw_in tb_101 rfl, rfl, rfl⟩, rfl, rfl⟩
theorem fFX7_30 : FLF RX7 30 7 7 ∧ isRefTy (tyOf 7 7) = true ∧ ((7 : Nat) : Int) = 7 := ⟨⟨RX7, TX7, 13, cf7, by decide, uw_in tb_102 rfl, rfl, rfl⟩, rfl, rfl⟩
theorem fFX7_33 : FLF RX7 33 7 8 ∧ isRefTy (tyOf 7 8) = true ∧ ((8 : Nat) : Int) = 8 := ⟨⟨RX7, TX7, 13, cf7, by decide, uw_in tb_103 rfl, rfl, rfl⟩, rfl, rfl⟩
theorem fFX7_36 : FLF RX7 36 7 9 ∧ isRefTy (tyOf 7 9) = true ∧ ((9 : Nat) : Int) = 9 := ⟨⟨RX7, TX7, 13, cf7, by decide, uw_in tb_104 rfl, rfl, rfl⟩, rfl, rfl⟩
theorem fFX7_40 : FLF RX7 40 7 0 ∧ isRefTy (tyOf 7 0) = true ∧ ((0 : Nat) : Int) = 0 := ⟨⟨RX7, TX7, 13, cf7, by decide, uw_in tb_92 rfl, rfl, rfl⟩, rfl, rfl⟩
def rmI7 : Room := { frames := 1, cells := 9, slots := 120, locals := 30 }
set_option maxRecDepth 100000 in
set_option maxHeartbeats 4000000 in
theorem ti_7 (l : Launch) (G : GG) (l1 l2 : List (Int × Int × Int)) (f1 : frs 8 l1) (f2 : frs 8 l2) : Ctr l G yX7_init cX7_init 2 none rmI7 [vr G 7, vr G 1] (wl 8 l1 l2) (fun _ : Unit => none) (fun _ : Unit => wl 17 ((7, 0, 1) :: (7, 9, 16) :: (7, 8, 15) :: (7, 7, 14) :: (7, 6, 13) :: (7, 5, 12) :: (7, 4, 11) :: (7, 3, 10) :: (7, 2, 9) :: (7, 1, 8) :: l1) ((10, 0, -4) :: (10, 1, -4) :: (10, 2, -4) :: (10, 3, -4) :: (10, 4, -4) :: (10, 5, -4) :: (10, 6, -4) :: (10, 7, -4) :: (10, 8, -4) :: l2)) (some ()) := by
  refine ctr_of (by decide) (Nat.le_of_ble_eq_true rfl) mwX7_init.1 (fun X hl hR C R hnm => ?_)
  subst hl
  refine z_lv (lv' := [(0, vr G 7), (1, vr G 1)]) [0, 1] rfl ?_
  refine z_aload_n C 0 rfl 0 rfl dX7_init_0 1 rfl ?_
  refine c_obj C hR loX7 (Nat.le_of_ble_eq_true rfl) (by decide) dX7_init_1 4 rfl ?_
  refine z_aload_n C 0 rfl 0 rfl dX7_init_4 5 rfl ?_
  refine z_bipush C (by decide) dX7_init_5 7 rfl ?_
  refine c_newa (t := 1) (N := 6) C hR (uw_in tb_82 rfl) (Or.inl ⟨rfl, rfl⟩) rfl f2 ⟨w32_id (a := 6) (by decide), by decide⟩ (by decide) dX7_init_7 9 rfl (k := 8) rfl ?_
  refine zn (1, 6) rfl 9 rfl ?_
  have f1 := frs_m f1 (show 8 ≤ 9 by decide)
  have f2 := frs_m f2 (show 8 ≤ 9 by decide)
  refine c_putF C hnm fFX7_9 ⟨rfl, by decide, by decide⟩ (by decide) dX7_init_9 12 rfl ?_
  have f1 := frs_c (e := (7, 1, 8)) (show (7 : Int) < ((9 : Nat) : Int) by decide) f1
  refine z_aload_n C 0 rfl 0 rfl dX7_init_12 13 rfl ?_
  refine z_bipush C (by decide) dX7_init_13 15 rfl ?_
  refine c_newa (t := 1) (N := 6) C hR (uw_in tb_82 rfl) (Or.inl ⟨rfl, rfl⟩) rfl f2 ⟨w32_id (a := 6) (by decide), by decide⟩ (by decide) dX7_init_15 17 rfl (k := 9) rfl ?_
  refine zn (2, 12) rfl 10 rfl ?_
  have f1 := frs_m f1 (show 9 ≤ 10 by decide)
  have f2 := frs_m f2 (show 9 ≤ 10 by decide)
  refine c_putF C hnm fFX7_15 ⟨rfl, by decide, by decide⟩ (by decide) dX7_init_17 20 rfl ?_
  have f1 := frs_c (e := (7, 2, 9)) (show (7 : Int) < ((10 : Nat) : Int) by decide) f1
  refine z_aload_n C 0 rfl 0 rfl dX7_init_20 21 rfl ?_
  refine z_bipush C (by decide) dX7_init_21 23 rfl ?_
  refine c_newa (t := 1) (N := 9) C hR (uw_in tb_82 rfl) (Or.inl ⟨rfl, rfl⟩) rfl f2 ⟨w32_id (a := 9) (by decide), by decide⟩ (by decide) dX7_init_23 25 rfl (k := 10) rfl ?_
  refine zn (3, 21) rfl 11 rfl ?_
  have f1 := frs_m f1 (show 10 ≤ 11 by decide)
  have f2 := frs_m f2 (show 10 ≤ 11 by decide)
  refine c_putF C hnm fFX7_18 ⟨rfl, by decide, by decide⟩ (by decide) dX7_init_25 28 rfl ?_
  have f1 := frs_c (e := (7, 3, 10)) (show (7 : Int) < ((11 : Nat) : Int) by decide) f1
  refine z_aload_n C 0 rfl 0 rfl dX7_init_28 29 rfl ?_
  refine z_bipush C (by decide) dX7_init_29 31 rfl ?_
  refine c_newa (t := 1) (N := 9) C hR (uw_in tb_82 rfl) (Or.inl ⟨rfl, rfl⟩) rfl f2 ⟨w32_id (a := 9) (by decide), by decide⟩ (by decide) dX7_init_31 33 rfl (k := 11) rfl ?_
  refine zn (4, 30) rfl 12 rfl ?_
  have f1 := frs_m f1 (show 11 ≤ 12 by decide)
  have f2 := frs_m f2 (show 11 ≤ 12 by decide)
  refine c_putF C hnm fFX7_21 ⟨rfl, by decide, by decide⟩ (by decide) dX7_init_33 36 rfl ?_
  have f1 := frs_c (e := (7, 4, 11)) (show (7 : Int) < ((12 : Nat) : Int) by decide) f1
  refine z_aload_n C 0 rfl 0 rfl dX7_init_36 37 rfl ?_
  refine z_bipush C (by decide) dX7_init_37 39 rfl ?_
  refine c_newa (t := 1) (N := 18) C hR (uw_in tb_82 rfl) (Or.inl ⟨rfl, rfl⟩) rfl f2 ⟨w32_id (a := 18) (by decide), by decide⟩ (by decide) dX7_init_39 41 rfl (k := 12) rfl ?_
  refine zn (5, 48) rfl 13 rfl ?_
  have f1 := frs_m f1 (show 12 ≤ 13 by decide)
  have f2 := frs_m f2 (show 12 ≤ 13 by decide)
  refine c_putF C hnm fFX7_24 ⟨rfl, by decide, by decide⟩ (by decide) dX7_init_41 44 rfl ?_
  have f1 := frs_c (e := (7, 5, 12)) (show (7 : Int) < ((13 : Nat) : Int) by decide) f1
  refine z_aload_n C 0 rfl 0 rfl dX7_init_44 45 rfl ?_
  refine z_bipush C (by decide) dX7_init_45 47 rfl ?_
  refine c_newa (t := 1) (N := 18) C hR (uw_in tb_82 rfl) (Or.inl ⟨rfl, rfl⟩) rfl f2 ⟨w32_id (a := 18) (by decide), by decide⟩ (by decide) dX7_init_47 49 rfl (k := 13) rfl ?_
  refine zn (6, 66) rfl 14 rfl ?_
  have f1 := frs_m f1 (show 13 ≤ 14 by decide)
  have f2 := frs_m f2 (show 13 ≤ 14 by decide)
  refine c_putF C hnm fFX7_27 ⟨rfl, by decide, by decide⟩ (by decide) dX7_init_49 52 rfl ?_
  have f1 := frs_c (e := (7, 6, 13)) (show (7 : Int) < ((14 : Nat) : Int) by decide) f1
  refine z_aload_n C 0 rfl 0 rfl dX7_init_52 53 rfl ?_
  refine z_bipush C (by decide) dX7_init_53 55 rfl ?_
  refine c_newa (t := 1) (N := 18) C hR (uw_in tb_82 rfl) (Or.inl ⟨rfl, rfl⟩) rfl f2 ⟨w32_id (a := 18) (by decide), by decide⟩ (by decide) dX7_init_55 57 rfl (k := 14) rfl ?_
  refine zn (7, 84) rfl 15 rfl ?_
  have f1 := frs_m f1 (show 14 ≤ 15 by decide)
  have f2 := frs_m f2 (show 14 ≤ 15 by decide)
  refine c_putF C hnm fFX7_30 ⟨rfl, by decide, by decide⟩ (by decide) dX7_init_57 60 rfl ?_
  have f1 := frs_c (e := (7, 7, 14)) (show (7 : Int) < ((15 : Nat) : Int) by decide) f1
  refine z_aload_n C 0 rfl 0 rfl dX7_init_60 61 rfl ?_
  refine z_bipush C (by decide) dX7_init_61 63 rfl ?_
  refine c_newa (t := 1) (N := 18) C hR (uw_in tb_82 rfl) (Or.inl ⟨rfl, rfl⟩) rfl f2 ⟨w32_id (a := 18) (by decide), by decide⟩ (by decide) dX7_init_63 65 rfl (k := 15) rfl ?_
  refine zn (8, 102) rfl 16 rfl ?_
  have f1 := frs_m f1 (show 15 ≤ 16 by decide)
  have f2 := frs_m f2 (show 15 ≤ 16 by decide)
  refine c_putF C hnm fFX7_33 ⟨rfl, by decide, by decide⟩ (by decide) dX7_init_65 68 rfl ?_
  have f1 := frs_c (e := (7, 8, 15)) (show (7 : Int) < ((16 : Nat) : Int) by decide) f1
  refine z_aload_n C 0 rfl 0 rfl dX7_init_68 69 rfl ?_
  refine z_bipush C (by decide) dX7_init_69 71 rfl ?_
  refine c_newa (t := 3) (N := 18) C hR (uw_in tb_138 rfl) (Or.inr (Or.inr ⟨rfl, rfl⟩)) rfl f2 ⟨w32_id (a := 18) (by decide), by decide⟩ (by decide) dX7_init_71 73 rfl (k := 16) rfl ?_
  refine zn (9, 120) rfl 17 rfl ?_
  have f1 := frs_m f1 (show 16 ≤ 17 by decide)
  have f2 := frs_m f2 (show 16 ≤ 17 by decide)
  refine c_putF C hnm fFX7_36 ⟨rfl, by decide, by decide⟩ (by decide) dX7_init_73 76 rfl ?_
  have f1 := frs_c (e := (7, 9, 16)) (show (7 : Int) < ((17 : Nat) : Int) by decide) f1
  refine z_aload_n C 0 rfl 0 rfl dX7_init_76 77 rfl ?_
  refine z_aload_n C 1 rfl 1 rfl dX7_init_77 78 rfl ?_
  refine c_putF C hnm fFX7_40 ⟨rfl, by decide, by decide⟩ (by decide) dX7_init_78 81 rfl ?_
  have f1 := frs_c (e := (7, 0, 1)) (show (7 : Int) < ((17 : Nat) : Int) by decide) f1
  refine z_aload_n C 0 rfl 0 rfl dX7_init_81 82 rfl ?_
  refine c_getR (k2 := 10) C fX7_18 ⟨rfl, by decide, by decide⟩ (by simp [LL]) dX7_init_82 85 rfl ?_
  refine z_bipush C (by decide) dX7_init_85 87 rfl ?_
  refine c_fill C hR lkX7_44 (N := 9) (by decide) ⟨rfl, by decide, by decide⟩ (Nat.le_of_ble_eq_true rfl) (by decide) (by decide) (l2' := (10, 0, -4) :: (10, 1, -4) :: (10, 2, -4) :: (10, 3, -4) :: (10, 4, -4) :: (10, 5, -4) :: (10, 6, -4) :: (10, 7, -4) :: (10, 8, -4) :: l2) rfl dX7_init_87 90 rfl ?_
  have f2 := frs_c (e := (10, 8, -4)) (show (10 : Int) < ((17 : Nat) : Int) by decide) f2
  have f2 := frs_c (e := (10, 7, -4)) (show (10 : Int) < ((17 : Nat) : Int) by decide) f2
  have f2 := frs_c (e := (10, 6, -4)) (show (10 : Int) < ((17 : Nat) : Int) by decide) f2
  have f2 := frs_c (e := (10, 5, -4)) (show (10 : Int) < ((17 : Nat) : Int) by decide) f2
  have f2 := frs_c (e := (10, 4, -4)) (show (10 : Int) < ((17 : Nat) : Int) by decide) f2
  have f2 := frs_c (e := (10, 3, -4)) (show (10 : Int) < ((17 : Nat) : Int) by decide) f2
  have f2 := frs_c (e := (10, 2, -4)) (show (10 : Int) < ((17 : Nat) : Int) by decide) f2
  have f2 := frs_c (e := (10, 1, -4)) (show (10 : Int) < ((17 : Nat) : Int) by decide) f2
  have f2 := frs_c (e := (10, 0, -4)) (show (10 : Int) < ((17 : Nat) : Int) by decide) f2
  exact z_vret C R rfl rfl dX7_init_90
theorem fFX10_21 : FLF RX10 21 10 1 ∧ isRefTy (tyOf 10 1) = true ∧ ((1 : Nat) : Int) = 1 := ⟨⟨RX10, TX10, 14, cf10, by decide, uw_in tb_384 rfl, rfl, rfl⟩, rfl, rfl⟩
def rmI17 : Room := { frames := 1, cells := 9, slots := 120, locals := 30 }
set_option maxRecDepth 100000 in
set_option maxHeartbeats 4000000 in
theorem ti_17 (l : Launch) (G : GG) (l1 l2 : List (Int × Int × Int)) (f1 : frs 18 l1) (f2 : frs 18 l2) : Ctr l G yX7_init cX7_init 2 none rmI17 [vr G 17, vr G 1] (wl 18 l1 l2) (fun _ : Unit => none) (fun _ : Unit => wl 27 ((17, 0, 1) :: (17, 9, 26) :: (17, 8, 25) :: (17, 7, 24) :: (17, 6, 23) :: (17, 5, 22) :: (17, 4, 21) :: (17, 3, 20) :: (17, 2, 19) :: (17, 1, 18) :: l1) ((20, 0, -4) :: (20, 1, -4) :: (20, 2, -4) :: (20, 3, -4) :: (20, 4, -4) :: (20, 5, -4) :: (20, 6, -4) :: (20, 7, -4) :: (20, 8, -4) :: l2)) (some ()) := by
  refine ctr_of (by decide) (Nat.le_of_ble_eq_true rfl) mwX7_init.1 (fun X hl hR C R hnm => ?_)
  subst hl
  refine z_lv (lv' := [(0, vr G 17), (1, vr G 1)]) [0, 1] rfl ?_
  refine z_aload_n C 0 rfl 0 rfl dX7_init_0 1 rfl ?_
  refine c_obj C hR loX7 (Nat.le_of_ble_eq_true rfl) (by decide) dX7_init_1 4 rfl ?_
  refine z_aload_n C 0 rfl 0 rfl dX7_init_4 5 rfl ?_
  refine z_bipush C (by decide) dX7_init_5 7 rfl ?_
  refine c_newa (t := 1) (N := 6) C hR (uw_in tb_82 rfl) (Or.inl ⟨rfl, rfl⟩) rfl f2 ⟨w32_id (a := 6) (by decide), by decide⟩ (by decide) dX7_init_7 9 rfl (k := 18) rfl ?_
  refine zn (1, 6) rfl 19 rfl ?_
  have f1 := frs_m f1 (show 18 ≤ 19 by decide)
  have f2 := frs_m f2 (show 18 ≤ 19 by decide)
  refine c_putF C hnm fFX7_9 ⟨rfl, by decide, by decide⟩ (by decide) dX7_init_9 12 rfl ?_
  have f1 := frs_c (e := (17, 1, 18)) (show (17 : Int) < ((19 : Nat) : Int) by decide) f1
  refine z_aload_n C 0 rfl 0 rfl dX7_init_12 13 rfl ?_
  refine z_bipush C (by decide) dX7_init_13 15 rfl ?_
  refine c_newa (t := 1) (N := 6) C hR (uw_in tb_82 rfl) (Or.inl ⟨rfl, rfl⟩) rfl f2 ⟨w32_id (a := 6) (by decide), by decide⟩ (by decide) dX7_init_15 17 rfl (k := 19) rfl ?_
  refine zn (2, 12) rfl 20 rfl ?_
  have f1 := frs_m f1 (show 19 ≤ 20 by decide)
  have f2 := frs_m f2 (show 19 ≤ 20 by decide)
  refine c_putF C hnm fFX7_15 ⟨rfl, by decide, by decide⟩ (by decide) dX7_init_17 20 rfl ?_
  have f1 := frs_c (e := (17, 2, 19)) (show (17 : Int) < ((20 : Nat) : Int) by decide) f1
  refine z_aload_n C 0 rfl 0 rfl dX7_init_20 21 rfl ?_
  refine z_bipush C (by decide) dX7_init_21 23 rfl ?_
  refine c_newa (t := 1) (N := 9) C hR (uw_in tb_82 rfl) (Or.inl ⟨rfl, rfl⟩) rfl f2 ⟨w32_id (a := 9) (by decide), by decide⟩ (by decide) dX7_init_23 25 rfl (k := 20) rfl ?_
  refine zn (3, 21) rfl 21 rfl ?_
  have f1 := frs_m f1 (show 20 ≤ 21 by decide)
  have f2 := frs_m f2 (show 20 ≤ 21 by decide)
  refine c_putF C hnm fFX7_18 ⟨rfl, by decide, by decide⟩ (by decide) dX7_init_25 28 rfl ?_
  have f1 := frs_c (e := (17, 3, 20)) (show (17 : Int) < ((21 : Nat) : Int) by decide) f1
  refine z_aload_n C 0 rfl 0 rfl dX7_init_28 29 rfl ?_
  refine z_bipush C (by decide) dX7_init_29 31 rfl ?_
  refine c_newa (t := 1) (N := 9) C hR (uw_in tb_82 rfl) (Or.inl ⟨rfl, rfl⟩) rfl f2 ⟨w32_id (a := 9) (by decide), by decide⟩ (by decide) dX7_init_31 33 rfl (k := 21) rfl ?_
  refine zn (4, 30) rfl 22 rfl ?_
  have f1 := frs_m f1 (show 21 ≤ 22 by decide)
  have f2 := frs_m f2 (show 21 ≤ 22 by decide)
  refine c_putF C hnm fFX7_21 ⟨rfl, by decide, by decide⟩ (by decide) dX7_init_33 36 rfl ?_
  have f1 := frs_c (e := (17, 4, 21)) (show (17 : Int) < ((22 : Nat) : Int) by decide) f1
  refine z_aload_n C 0 rfl 0 rfl dX7_init_36 37 rfl ?_
  refine z_bipush C (by decide) dX7_init_37 39 rfl ?_
  refine c_newa (t := 1) (N := 18) C hR (uw_in tb_82 rfl) (Or.inl ⟨rfl, rfl⟩) rfl f2 ⟨w32_id (a := 18) (by decide), by decide⟩ (by decide) dX7_init_39 41 rfl (k := 22) rfl ?_
  refine zn (5, 48) rfl 23 rfl ?_
  have f1 := frs_m f1 (show 22 ≤ 23 by decide)
  have f2 := frs_m f2 (show 22 ≤ 23 by decide)
  refine c_putF C hnm fFX7_24 ⟨rfl, by decide, by decide⟩ (by decide) dX7_init_41 44 rfl ?_
  have f1 := frs_c (e := (17, 5, 22)) (show (17 : Int) < ((23 : Nat) : Int) by decide) f1
  refine z_aload_n C 0 rfl 0 rfl dX7_init_44 45 rfl ?_
  refine z_bipush C (by decide) dX7_init_45 47 rfl ?_
  refine c_newa (t := 1) (N := 18) C hR (uw_in tb_82 rfl) (Or.inl ⟨rfl, rfl⟩) rfl f2 ⟨w32_id (a := 18) (by decide), by decide⟩ (by decide) dX7_init_47 49 rfl (k := 23) rfl ?_
  refine zn (6, 66) rfl 24 rfl ?_
  have f1 := frs_m f1 (show 23 ≤ 24 by decide)
  have f2 := frs_m f2 (show 23 ≤ 24 by decide)
  refine c_putF C hnm fFX7_27 ⟨rfl, by decide, by decide⟩ (by decide) dX7_init_49 52 rfl ?_
  have f1 := frs_c (e := (17, 6, 23)) (show (17 : Int) < ((24 : Nat) : Int) by decide) f1
  refine z_aload_n C 0 rfl 0 rfl dX7_init_52 53 rfl ?_
  refine z_bipush C (by decide) dX7_init_53 55 rfl ?_
  refine c_newa (t := 1) (N := 18) C hR (uw_in tb_82 rfl) (Or.inl ⟨rfl, rfl⟩) rfl f2 ⟨w32_id (a := 18) (by decide), by decide⟩ (by decide) dX7_init_55 57 rfl (k := 24) rfl ?_
  refine zn (7, 84) rfl 25 rfl ?_
  have f1 := frs_m f1 (show 24 ≤ 25 by decide)
  have f2 := frs_m f2 (show 24 ≤ 25 by decide)
  refine c_putF C hnm fFX7_30 ⟨rfl, by decide, by decide⟩ (by decide) dX7_init_57 60 rfl ?_
  have f1 := frs_c (e := (17, 7, 24)) (show (17 : Int) < ((25 : Nat) : Int) by decide) f1
  refine z_aload_n C 0 rfl 0 rfl dX7_init_60 61 rfl ?_
  refine z_bipush C (by decide) dX7_init_61 63 rfl ?_
  refine c_newa (t := 1) (N := 18) C hR (uw_in tb_82 rfl) (Or.inl ⟨rfl, rfl⟩) rfl f2 ⟨w32_id (a := 18) (by decide), by decide⟩ (by decide) dX7_init_63 65 rfl (k := 25) rfl ?_
  refine zn (8, 102) rfl 26 rfl ?_
  have f1 := frs_m f1 (show 25 ≤ 26 by decide)
  have f2 := frs_m f2 (show 25 ≤ 26 by decide)
  refine c_putF C hnm fFX7_33 ⟨rfl, by decide, by decide⟩ (by decide) dX7_init_65 68 rfl ?_
  have f1 := frs_c (e := (17, 8, 25)) (show (17 : Int) < ((26 : Nat) : Int) by decide) f1
  refine z_aload_n C 0 rfl 0 rfl dX7_init_68 69 rfl ?_
  refine z_bipush C (by decide) dX7_init_69 71 rfl ?_
  refine c_newa (t := 3) (N := 18) C hR (uw_in tb_138 rfl) (Or.inr (Or.inr ⟨rfl, rfl⟩)) rfl f2 ⟨w32_id (a := 18) (by decide), by decide⟩ (by decide) dX7_init_71 73 rfl (k := 26) rfl ?_
  refine zn (9, 120) rfl 27 rfl ?_
  have f1 := frs_m f1 (show 26 ≤ 27 by decide)
  have f2 := frs_m f2 (show 26 ≤ 27 by decide)
  refine c_putF C hnm fFX7_36 ⟨rfl, by decide, by decide⟩ (by decide) dX7_init_73 76 rfl ?_
  have f1 := frs_c (e := (17, 9, 26)) (show (17 : Int) < ((27 : Nat) : Int) by decide) f1
  refine z_aload_n C 0 rfl 0 rfl dX7_init_76 77 rfl ?_
  refine z_aload_n C 1 rfl 1 rfl dX7_init_77 78 rfl ?_
  refine c_putF C hnm fFX7_40 ⟨rfl, by decide, by decide⟩ (by decide) dX7_init_78 81 rfl ?_
  have f1 := frs_c (e := (17, 0, 1)) (show (17 : Int) < ((27 : Nat) : Int) by decide) f1
  refine z_aload_n C 0 rfl 0 rfl dX7_init_81 82 rfl ?_
  refine c_getR (k2 := 20) C fX7_18 ⟨rfl, by decide, by decide⟩ (by simp [LL]) dX7_init_82 85 rfl ?_
  refine z_bipush C (by decide) dX7_init_85 87 rfl ?_
  refine c_fill C hR lkX7_44 (N := 9) (by decide) ⟨rfl, by decide, by decide⟩ (Nat.le_of_ble_eq_true rfl) (by decide) (by decide) (l2' := (20, 0, -4) :: (20, 1, -4) :: (20, 2, -4) :: (20, 3, -4) :: (20, 4, -4) :: (20, 5, -4) :: (20, 6, -4) :: (20, 7, -4) :: (20, 8, -4) :: l2) rfl dX7_init_87 90 rfl ?_
  have f2 := frs_c (e := (20, 8, -4)) (show (20 : Int) < ((27 : Nat) : Int) by decide) f2
  have f2 := frs_c (e := (20, 7, -4)) (show (20 : Int) < ((27 : Nat) : Int) by decide) f2
  have f2 := frs_c (e := (20, 6, -4)) (show (20 : Int) < ((27 : Nat) : Int) by decide) f2
  have f2 := frs_c (e := (20, 5, -4)) (show (20 : Int) < ((27 : Nat) : Int) by decide) f2
  have f2 := frs_c (e := (20, 4, -4)) (show (20 : Int) < ((27 : Nat) : Int) by decide) f2
  have f2 := frs_c (e := (20, 3, -4)) (show (20 : Int) < ((27 : Nat) : Int) by decide) f2
  have f2 := frs_c (e := (20, 2, -4)) (show (20 : Int) < ((27 : Nat) : Int) by decide) f2
  have f2 := frs_c (e := (20, 1, -4)) (show (20 : Int) < ((27 : Nat) : Int) by decide) f2
  have f2 := frs_c (e := (20, 0, -4)) (show (20 : Int) < ((27 : Nat) : Int) by decide) f2
  exact z_vret C R rfl rfl dX7_init_90
theorem fFX10_25 : FLF RX10 25 10 2 ∧ isRefTy (tyOf 10 2) = true ∧ ((2 : Nat) : Int) = 2 := ⟨⟨RX10, TX10, 14, cf10, by decide, uw_in tb_385 rfl, rfl, rfl⟩, rfl, rfl⟩
def rmI27 : Room := { frames := 1, cells := 5, slots := 81, locals := 30 }
set_option maxRecDepth 100000 in
set_option maxHeartbeats 4000000 in
theorem ti_27 (l : Launch) (G : GG) (l1 l2 : List (Int × Int × Int)) (f1 : frs 28 l1) (f2 : frs 28 l2) : Ctr l G yX0_init cX0_init 1 none rmI27 [vr G 27] (wl 28 l1 l2) (fun _ : Unit => none) (fun _ : Unit => wl 33 ((27, 4, 32) :: (27, 3, 31) :: (27, 2, 30) :: (27, 1, 29) :: (27, 0, 28) :: l1) (l2)) (some ()) := by
  refine ctr_of (by decide) (Nat.le_of_ble_eq_true rfl) mwX0_init.1 (fun X hl hR C R hnm => ?_)
  subst hl
  refine z_lv (lv' := [(0, vr G 27)]) [0] rfl ?_
  refine z_aload_n C 0 rfl 0 rfl dX0_init_0 1 rfl ?_
  refine c_obj C hR loX0 (Nat.le_of_ble_eq_true rfl) (by decide) dX0_init_1 4 rfl ?_
  refine z_aload_n C 0 rfl 0 rfl dX0_init_4 5 rfl ?_
  refine z_bipush C (by decide) dX0_init_5 7 rfl ?_
  refine c_newa (t := 1) (N := 6) C hR (uw_in tb_82 rfl) (Or.inl ⟨rfl, rfl⟩) rfl f2 ⟨w32_id (a := 6) (by decide), by decide⟩ (by decide) dX0_init_7 9 rfl (k := 28) rfl ?_
  refine zn (1, 6) rfl 29 rfl ?_
  have f1 := frs_m f1 (show 28 ≤ 29 by decide)
  have f2 := frs_m f2 (show 28 ≤ 29 by decide)
  refine c_putF C hnm fFX0_9 ⟨rfl, by decide, by decide⟩ (by decide) dX0_init_9 12 rfl ?_
  have f1 := frs_c (e := (27, 0, 28)) (show (27 : Int) < ((29 : Nat) : Int) by decide) f1
  refine z_aload_n C 0 rfl 0 rfl dX0_init_12 13 rfl ?_
  refine z_bipush C (by decide) dX0_init_13 15 rfl ?_
  refine c_newa (t := 1) (N := 6) C hR (uw_in tb_82 rfl) (Or.inl ⟨rfl, rfl⟩) rfl f2 ⟨w32_id (a := 6) (by decide), by decide⟩ (by decide) dX0_init_15 17 rfl (k := 29) rfl ?_
  refine zn (2, 12) rfl 30 rfl ?_
  have f1 := frs_m f1 (show 29 ≤ 30 by decide)
  have f2 := frs_m f2 (show 29 ≤ 30 by decide)
  refine c_putF C hnm fFX0_15 ⟨rfl, by decide, by decide⟩ (by decide) dX0_init_17 20 rfl ?_
  have f1 := frs_c (e := (27, 1, 29)) (show (27 : Int) < ((30 : Nat) : Int) by decide) f1
  refine z_aload_n C 0 rfl 0 rfl dX0_init_20 21 rfl ?_
  refine z_bipush C (by decide) dX0_init_21 23 rfl ?_
  refine c_newa (t := 1) (N := 6) C hR (uw_in tb_82 rfl) (Or.inl ⟨rfl, rfl⟩) rfl f2 ⟨w32_id (a := 6) (by decide), by decide⟩ (by decide) dX0_init_23 25 rfl (k := 30) rfl ?_
  refine zn (3, 18) rfl 31 rfl ?_
  have f1 := frs_m f1 (show 30 ≤ 31 by decide)
  have f2 := frs_m f2 (show 30 ≤ 31 by decide)
  refine c_putF C hnm fFX0_18 ⟨rfl, by decide, by decide⟩ (by decide) dX0_init_25 28 rfl ?_
  have f1 := frs_c (e := (27, 2, 30)) (show (27 : Int) < ((31 : Nat) : Int) by decide) f1
  refine z_aload_n C 0 rfl 0 rfl dX0_init_28 29 rfl ?_
  refine z_bipush C (by decide) dX0_init_29 31 rfl ?_
  refine c_newa (t := 1) (N := 9) C hR (uw_in tb_82 rfl) (Or.inl ⟨rfl, rfl⟩) rfl f2 ⟨w32_id (a := 9) (by decide), by decide⟩ (by decide) dX0_init_31 33 rfl (k := 31) rfl ?_
  refine zn (4, 27) rfl 32 rfl ?_
  have f1 := frs_m f1 (show 31 ≤ 32 by decide)
  have f2 := frs_m f2 (show 31 ≤ 32 by decide)
  refine c_putF C hnm fFX0_21 ⟨rfl, by decide, by decide⟩ (by decide) dX0_init_33 36 rfl ?_
  have f1 := frs_c (e := (27, 3, 31)) (show (27 : Int) < ((32 : Nat) : Int) by decide) f1
  refine z_aload_n C 0 rfl 0 rfl dX0_init_36 37 rfl ?_
  refine z_bipush C (by decide) dX0_init_37 39 rfl ?_
  refine c_newa (t := 1) (N := 54) C hR (uw_in tb_82 rfl) (Or.inl ⟨rfl, rfl⟩) rfl f2 ⟨w32_id (a := 54) (by decide), by decide⟩ (by decide) dX0_init_39 41 rfl (k := 32) rfl ?_
  refine zn (5, 81) rfl 33 rfl ?_
  have f1 := frs_m f1 (show 32 ≤ 33 by decide)
  have f2 := frs_m f2 (show 32 ≤ 33 by decide)
  refine c_putF C hnm fFX0_24 ⟨rfl, by decide, by decide⟩ (by decide) dX0_init_41 44 rfl ?_
  have f1 := frs_c (e := (27, 4, 32)) (show (27 : Int) < ((33 : Nat) : Int) by decide) f1
  exact z_vret C R rfl rfl dX0_init_44
theorem fFX10_28 : FLF RX10 28 10 3 ∧ isRefTy (tyOf 10 3) = true ∧ ((3 : Nat) : Int) = 3 := ⟨⟨RX10, TX10, 14, cf10, by decide, uw_in tb_386 rfl, rfl, rfl⟩, rfl, rfl⟩
def rmI33 : Room := { frames := 1, cells := 9, slots := 120, locals := 30 }
set_option maxRecDepth 100000 in
set_option maxHeartbeats 4000000 in
theorem ti_33 (l : Launch) (G : GG) (l1 l2 : List (Int × Int × Int)) (f1 : frs 34 l1) (f2 : frs 34 l2) : Ctr l G yX7_init cX7_init 2 none rmI33 [vr G 33, vr G 27] (wl 34 l1 l2) (fun _ : Unit => none) (fun _ : Unit => wl 43 ((33, 0, 27) :: (33, 9, 42) :: (33, 8, 41) :: (33, 7, 40) :: (33, 6, 39) :: (33, 5, 38) :: (33, 4, 37) :: (33, 3, 36) :: (33, 2, 35) :: (33, 1, 34) :: l1) ((36, 0, -4) :: (36, 1, -4) :: (36, 2, -4) :: (36, 3, -4) :: (36, 4, -4) :: (36, 5, -4) :: (36, 6, -4) :: (36, 7, -4) :: (36, 8, -4) :: l2)) (some ()) := by
  refine ctr_of (by decide) (Nat.le_of_ble_eq_true rfl) mwX7_init.1 (fun X hl hR C R hnm => ?_)
  subst hl
  refine z_lv (lv' := [(0, vr G 33), (1, vr G 27)]) [0, 1] rfl ?_
  refine z_aload_n C 0 rfl 0 rfl dX7_init_0 1 rfl ?_
  refine c_obj C hR loX7 (Nat.le_of_ble_eq_true rfl) (by decide) dX7_init_1 4 rfl ?_
  refine z_aload_n C 0 rfl 0 rfl dX7_init_4 5 rfl ?_
  refine z_bipush C (by decide) dX7_init_5 7 rfl ?_
  refine c_newa (t := 1) (N := 6) C hR (uw_in tb_82 rfl) (Or.inl ⟨rfl, rfl⟩) rfl f2 ⟨w32_id (a := 6) (by decide), by decide⟩ (by decide) dX7_init_7 9 rfl (k := 34) rfl ?_
  refine zn (1, 6) rfl 35 rfl ?_
  have f1 := frs_m f1 (show 34 ≤ 35 by decide)
  have f2 := frs_m f2 (show 34 ≤ 35 by decide)
  refine c_putF C hnm fFX7_9 ⟨rfl, by decide, by decide⟩ (by decide) dX7_init_9 12 rfl ?_
  have f1 := frs_c (e := (33, 1, 34)) (show (33 : Int) < ((35 : Nat) : Int) by decide) f1
  refine z_aload_n C 0 rfl 0 rfl dX7_init_12 13 rfl ?_
  refine z_bipush C (by decide) dX7_init_13 15 rfl ?_
  refine c_newa (t := 1) (N := 6) C hR (uw_in tb_82 rfl) (Or.inl ⟨rfl, rfl⟩) rfl f2 ⟨w32_id (a := 6) (by decide), by decide⟩ (by decide) dX7_init_15 17 rfl (k := 35) rfl ?_
  refine zn (2, 12) rfl 36 rfl ?_
  have f1 := frs_m f1 (show 35 ≤ 36 by decide)
  have f2 := frs_m f2 (show 35 ≤ 36 by decide)
  refine c_putF C hnm fFX7_15 ⟨rfl, by decide, by decide⟩ (by decide) dX7_init_17 20 rfl ?_
  have f1 := frs_c (e := (33, 2, 35)) (show (33 : Int) < ((36 : Nat) : Int) by decide) f1
  refine z_aload_n C 0 rfl 0 rfl dX7_init_20 21 rfl ?_
  refine z_bipush C (by decide) dX7_init_21 23 rfl ?_
  refine c_newa (t := 1) (N := 9) C hR (uw_in tb_82 rfl) (Or.inl ⟨rfl, rfl⟩) rfl f2 ⟨w32_id (a := 9) (by decide), by decide⟩ (by decide) dX7_init_23 25 rfl (k := 36) rfl ?_
  refine zn (3, 21) rfl 37 rfl ?_
  have f1 := frs_m f1 (show 36 ≤ 37 by decide)
  have f2 := frs_m f2 (show 36 ≤ 37 by decide)
  refine c_putF C hnm fFX7_18 ⟨rfl, by decide, by decide⟩ (by decide) dX7_init_25 28 rfl ?_
  have f1 := frs_c (e := (33, 3, 36)) (show (33 : Int) < ((37 : Nat) : Int) by decide) f1
  refine z_aload_n C 0 rfl 0 rfl dX7_init_28 29 rfl ?_
  refine z_bipush C (by decide) dX7_init_29 31 rfl ?_
  refine c_newa (t := 1) (N := 9) C hR (uw_in tb_82 rfl) (Or.inl ⟨rfl, rfl⟩) rfl f2 ⟨w32_id (a := 9) (by decide), by decide⟩ (by decide) dX7_init_31 33 rfl (k := 37) rfl ?_
  refine zn (4, 30) rfl 38 rfl ?_
  have f1 := frs_m f1 (show 37 ≤ 38 by decide)
  have f2 := frs_m f2 (show 37 ≤ 38 by decide)
  refine c_putF C hnm fFX7_21 ⟨rfl, by decide, by decide⟩ (by decide) dX7_init_33 36 rfl ?_
  have f1 := frs_c (e := (33, 4, 37)) (show (33 : Int) < ((38 : Nat) : Int) by decide) f1
  refine z_aload_n C 0 rfl 0 rfl dX7_init_36 37 rfl ?_
  refine z_bipush C (by decide) dX7_init_37 39 rfl ?_
  refine c_newa (t := 1) (N := 18) C hR (uw_in tb_82 rfl) (Or.inl ⟨rfl, rfl⟩) rfl f2 ⟨w32_id (a := 18) (by decide), by decide⟩ (by decide) dX7_init_39 41 rfl (k := 38) rfl ?_
  refine zn (5, 48) rfl 39 rfl ?_
  have f1 := frs_m f1 (show 38 ≤ 39 by decide)
  have f2 := frs_m f2 (show 38 ≤ 39 by decide)
  refine c_putF C hnm fFX7_24 ⟨rfl, by decide, by decide⟩ (by decide) dX7_init_41 44 rfl ?_
  have f1 := frs_c (e := (33, 5, 38)) (show (33 : Int) < ((39 : Nat) : Int) by decide) f1
  refine z_aload_n C 0 rfl 0 rfl dX7_init_44 45 rfl ?_
  refine z_bipush C (by decide) dX7_init_45 47 rfl ?_
  refine c_newa (t := 1) (N := 18) C hR (uw_in tb_82 rfl) (Or.inl ⟨rfl, rfl⟩) rfl f2 ⟨w32_id (a := 18) (by decide), by decide⟩ (by decide) dX7_init_47 49 rfl (k := 39) rfl ?_
  refine zn (6, 66) rfl 40 rfl ?_
  have f1 := frs_m f1 (show 39 ≤ 40 by decide)
  have f2 := frs_m f2 (show 39 ≤ 40 by decide)
  refine c_putF C hnm fFX7_27 ⟨rfl, by decide, by decide⟩ (by decide) dX7_init_49 52 rfl ?_
  have f1 := frs_c (e := (33, 6, 39)) (show (33 : Int) < ((40 : Nat) : Int) by decide) f1
  refine z_aload_n C 0 rfl 0 rfl dX7_init_52 53 rfl ?_
  refine z_bipush C (by decide) dX7_init_53 55 rfl ?_
  refine c_newa (t := 1) (N := 18) C hR (uw_in tb_82 rfl) (Or.inl ⟨rfl, rfl⟩) rfl f2 ⟨w32_id (a := 18) (by decide), by decide⟩ (by decide) dX7_init_55 57 rfl (k := 40) rfl ?_
  refine zn (7, 84) rfl 41 rfl ?_
  have f1 := frs_m f1 (show 40 ≤ 41 by decide)
  have f2 := frs_m f2 (show 40 ≤ 41 by decide)
  refine c_putF C hnm fFX7_30 ⟨rfl, by decide, by decide⟩ (by decide) dX7_init_57 60 rfl ?_
  have f1 := frs_c (e := (33, 7, 40)) (show (33 : Int) < ((41 : Nat) : Int) by decide) f1
  refine z_aload_n C 0 rfl 0 rfl dX7_init_60 61 rfl ?_
  refine z_bipush C (by decide) dX7_init_61 63 rfl ?_
  refine c_newa (t := 1) (N := 18) C hR (uw_in tb_82 rfl) (Or.inl ⟨rfl, rfl⟩) rfl f2 ⟨w32_id (a := 18) (by decide), by decide⟩ (by decide) dX7_init_63 65 rfl (k := 41) rfl ?_
  refine zn (8, 102) rfl 42 rfl ?_
  have f1 := frs_m f1 (show 41 ≤ 42 by decide)
  have f2 := frs_m f2 (show 41 ≤ 42 by decide)
  refine c_putF C hnm fFX7_33 ⟨rfl, by decide, by decide⟩ (by decide) dX7_init_65 68 rfl ?_
  have f1 := frs_c (e := (33, 8, 41)) (show (33 : Int) < ((42 : Nat) : Int) by decide) f1
  refine z_aload_n C 0 rfl 0 rfl dX7_init_68 69 rfl ?_
  refine z_bipush C (by decide) dX7_init_69 71 rfl ?_
  refine c_newa (t := 3) (N := 18) C hR (uw_in tb_138 rfl) (Or.inr (Or.inr ⟨rfl, rfl⟩)) rfl f2 ⟨w32_id (a := 18) (by decide), by decide⟩ (by decide) dX7_init_71 73 rfl (k := 42) rfl ?_
  refine zn (9, 120) rfl 43 rfl ?_
  have f1 := frs_m f1 (show 42 ≤ 43 by decide)
  have f2 := frs_m f2 (show 42 ≤ 43 by decide)
  refine c_putF C hnm fFX7_36 ⟨rfl, by decide, by decide⟩ (by decide) dX7_init_73 76 rfl ?_
  have f1 := frs_c (e := (33, 9, 42)) (show (33 : Int) < ((43 : Nat) : Int) by decide) f1
  refine z_aload_n C 0 rfl 0 rfl dX7_init_76 77 rfl ?_
  refine z_aload_n C 1 rfl 1 rfl dX7_init_77 78 rfl ?_
  refine c_putF C hnm fFX7_40 ⟨rfl, by decide, by decide⟩ (by decide) dX7_init_78 81 rfl ?_
  have f1 := frs_c (e := (33, 0, 27)) (show (33 : Int) < ((43 : Nat) : Int) by decide) f1
  refine z_aload_n C 0 rfl 0 rfl dX7_init_81 82 rfl ?_
  refine c_getR (k2 := 36) C fX7_18 ⟨rfl, by decide, by decide⟩ (by simp [LL]) dX7_init_82 85 rfl ?_
  refine z_bipush C (by decide) dX7_init_85 87 rfl ?_
  refine c_fill C hR lkX7_44 (N := 9) (by decide) ⟨rfl, by decide, by decide⟩ (Nat.le_of_ble_eq_true rfl) (by decide) (by decide) (l2' := (36, 0, -4) :: (36, 1, -4) :: (36, 2, -4) :: (36, 3, -4) :: (36, 4, -4) :: (36, 5, -4) :: (36, 6, -4) :: (36, 7, -4) :: (36, 8, -4) :: l2) rfl dX7_init_87 90 rfl ?_
  have f2 := frs_c (e := (36, 8, -4)) (show (36 : Int) < ((43 : Nat) : Int) by decide) f2
  have f2 := frs_c (e := (36, 7, -4)) (show (36 : Int) < ((43 : Nat) : Int) by decide) f2
  have f2 := frs_c (e := (36, 6, -4)) (show (36 : Int) < ((43 : Nat) : Int) by decide) f2
  have f2 := frs_c (e := (36, 5, -4)) (show (36 : Int) < ((43 : Nat) : Int) by decide) f2
  have f2 := frs_c (e := (36, 4, -4)) (show (36 : Int) < ((43 : Nat) : Int) by decide) f2
  have f2 := frs_c (e := (36, 3, -4)) (show (36 : Int) < ((43 : Nat) : Int) by decide) f2
  have f2 := frs_c (e := (36, 2, -4)) (show (36 : Int) < ((43 : Nat) : Int) by decide) f2
  have f2 := frs_c (e := (36, 1, -4)) (show (36 : Int) < ((43 : Nat) : Int) by decide) f2
  have f2 := frs_c (e := (36, 0, -4)) (show (36 : Int) < ((43 : Nat) : Int) by decide) f2
  exact z_vret C R rfl rfl dX7_init_90
theorem fFX10_31 : FLF RX10 31 10 4 ∧ isRefTy (tyOf 10 4) = true ∧ ((4 : Nat) : Int) = 4 := ⟨⟨RX10, TX10, 14, cf10, by decide, uw_in tb_387 rfl, rfl, rfl⟩, rfl, rfl⟩
theorem loX3 : Cond.methodLink RX3 3 Lib.objectInit ∈ UW := uw_in tb_144 rfl
theorem fFX3_9 : FLF RX3 9 3 0 ∧ isRefTy (tyOf 3 0) = true ∧ ((0 : Nat) : Int) = 0 := ⟨⟨RX3, TX3, 6, cf3, by decide, uw_in tb_169 rfl, rfl, rfl⟩, rfl, rfl⟩
theorem loX4 : Cond.methodLink RX4 3 Lib.objectInit ∈ UW := uw_in tb_150 rfl
theorem fFX4_9 : FLF RX4 9 4 0 ∧ isRefTy (tyOf 4 0) = true ∧ ((0 : Nat) : Int) = 0 := ⟨⟨RX4, TX4, 4, cf4, by decide, uw_in tb_151 rfl, rfl, rfl⟩, rfl, rfl⟩
theorem fFX4_15 : FLF RX4 15 4 1 ∧ isRefTy (tyOf 4 1) = true ∧ ((1 : Nat) : Int) = 1 := ⟨⟨RX4, TX4, 4, cf4, by decide, uw_in tb_154 rfl, rfl, rfl⟩, rfl, rfl⟩
theorem fFX4_18 : FLF RX4 18 4 2 ∧ isRefTy (tyOf 4 2) = true ∧ ((2 : Nat) : Int) = 2 := ⟨⟨RX4, TX4, 4, cf4, by decide, uw_in tb_155 rfl, rfl, rfl⟩, rfl, rfl⟩
def rmI45 : Room := { frames := 1, cells := 3, slots := 978, locals := 30 }
set_option maxRecDepth 100000 in
set_option maxHeartbeats 4000000 in
theorem ti_45 (l : Launch) (G : GG) (l1 l2 : List (Int × Int × Int)) (f1 : frs 46 l1) (f2 : frs 46 l2) : Ctr l G yX4_init cX4_init 1 none rmI45 [vr G 45] (wl 46 l1 l2) (fun _ : Unit => none) (fun _ : Unit => wl 49 ((45, 2, 48) :: (45, 1, 47) :: (45, 0, 46) :: l1) (l2)) (some ()) := by
  refine ctr_of (by decide) (Nat.le_of_ble_eq_true rfl) mwX4_init.1 (fun X hl hR C R hnm => ?_)
  subst hl
  refine z_lv (lv' := [(0, vr G 45)]) [0] rfl ?_
  refine z_aload_n C 0 rfl 0 rfl dX4_init_0 1 rfl ?_
  refine c_obj C hR loX4 (Nat.le_of_ble_eq_true rfl) (by decide) dX4_init_1 4 rfl ?_
  refine z_aload_n C 0 rfl 0 rfl dX4_init_4 5 rfl ?_
  refine z_bipush C (by decide) dX4_init_5 7 rfl ?_
  refine c_newa (t := 1) (N := 6) C hR (uw_in tb_82 rfl) (Or.inl ⟨rfl, rfl⟩) rfl f2 ⟨w32_id (a := 6) (by decide), by decide⟩ (by decide) dX4_init_7 9 rfl (k := 46) rfl ?_
  refine zn (1, 6) rfl 47 rfl ?_
  have f1 := frs_m f1 (show 46 ≤ 47 by decide)
  have f2 := frs_m f2 (show 46 ≤ 47 by decide)
  refine c_putF C hnm fFX4_9 ⟨rfl, by decide, by decide⟩ (by decide) dX4_init_9 12 rfl ?_
  have f1 := frs_c (e := (45, 0, 46)) (show (45 : Int) < ((47 : Nat) : Int) by decide) f1
  refine z_aload_n C 0 rfl 0 rfl dX4_init_12 13 rfl ?_
  refine z_sipush C (by decide) dX4_init_13 16 rfl ?_
  refine c_newa (t := 1) (N := 486) C hR (uw_in tb_82 rfl) (Or.inl ⟨rfl, rfl⟩) rfl f2 ⟨w32_id (a := 486) (by decide), by decide⟩ (by decide) dX4_init_16 18 rfl (k := 47) rfl ?_
  refine zn (2, 492) rfl 48 rfl ?_
  have f1 := frs_m f1 (show 47 ≤ 48 by decide)
  have f2 := frs_m f2 (show 47 ≤ 48 by decide)
  refine c_putF C hnm fFX4_15 ⟨rfl, by decide, by decide⟩ (by decide) dX4_init_18 21 rfl ?_
  have f1 := frs_c (e := (45, 1, 47)) (show (45 : Int) < ((48 : Nat) : Int) by decide) f1
  refine z_aload_n C 0 rfl 0 rfl dX4_init_21 22 rfl ?_
  refine z_sipush C (by decide) dX4_init_22 25 rfl ?_
  refine c_newa (t := 1) (N := 486) C hR (uw_in tb_82 rfl) (Or.inl ⟨rfl, rfl⟩) rfl f2 ⟨w32_id (a := 486) (by decide), by decide⟩ (by decide) dX4_init_25 27 rfl (k := 48) rfl ?_
  refine zn (3, 978) rfl 49 rfl ?_
  have f1 := frs_m f1 (show 48 ≤ 49 by decide)
  have f2 := frs_m f2 (show 48 ≤ 49 by decide)
  refine c_putF C hnm fFX4_18 ⟨rfl, by decide, by decide⟩ (by decide) dX4_init_27 30 rfl ?_
  have f1 := frs_c (e := (45, 2, 48)) (show (45 : Int) < ((49 : Nat) : Int) by decide) f1
  exact z_vret C R rfl rfl dX4_init_30
theorem fFX3_18 : FLF RX3 18 3 2 ∧ isRefTy (tyOf 3 2) = true ∧ ((2 : Nat) : Int) = 2 := ⟨⟨RX3, TX3, 6, cf3, by decide, uw_in tb_173 rfl, rfl, rfl⟩, rfl, rfl⟩
theorem fFX3_22 : FLF RX3 22 3 3 ∧ isRefTy (tyOf 3 3) = true ∧ ((3 : Nat) : Int) = 3 := ⟨⟨RX3, TX3, 6, cf3, by decide, uw_in tb_174 rfl, rfl, rfl⟩, rfl, rfl⟩
def rmI43 : Room := { frames := 2, cells := 6, slots := 5851, locals := 50 }
set_option maxRecDepth 100000 in
set_option maxHeartbeats 4000000 in
theorem ti_43 (l : Launch) (G : GG) (l1 l2 : List (Int × Int × Int)) (f1 : frs 44 l1) (f2 : frs 44 l2) : Ctr l G yX3_init cX3_init 1 none rmI43 [vr G 43] (wl 44 l1 l2) (fun _ : Unit => none) (fun _ : Unit => wl 50 ((43, 3, 49) :: (43, 2, 45) :: (45, 2, 48) :: (45, 1, 47) :: (45, 0, 46) :: (43, 0, 44) :: l1) ((43, 4, -1) :: l2)) (some ()) := by
  refine ctr_of (by decide) (Nat.le_of_ble_eq_true rfl) mwX3_init.1 (fun X hl hR C R hnm => ?_)
  subst hl
  refine z_lv (lv' := [(0, vr G 43)]) [0] rfl ?_
  refine z_aload_n C 0 rfl 0 rfl dX3_init_0 1 rfl ?_
  refine c_obj C hR loX3 (Nat.le_of_ble_eq_true rfl) (by decide) dX3_init_1 4 rfl ?_
  refine z_aload_n C 0 rfl 0 rfl dX3_init_4 5 rfl ?_
  refine z_bipush C (by decide) dX3_init_5 7 rfl ?_
  refine c_newa (t := 1) (N := 9) C hR (uw_in tb_82 rfl) (Or.inl ⟨rfl, rfl⟩) rfl f2 ⟨w32_id (a := 9) (by decide), by decide⟩ (by decide) dX3_init_7 9 rfl (k := 44) rfl ?_
  refine zn (1, 9) rfl 45 rfl ?_
  have f1 := frs_m f1 (show 44 ≤ 45 by decide)
  have f2 := frs_m f2 (show 44 ≤ 45 by decide)
  refine c_putF C hnm fFX3_9 ⟨rfl, by decide, by decide⟩ (by decide) dX3_init_9 12 rfl ?_
  have f1 := frs_c (e := (43, 0, 44)) (show (43 : Int) < ((45 : Nat) : Int) by decide) f1
  refine z_aload_n C 0 rfl 0 rfl dX3_init_12 13 rfl ?_
  refine c_new C hR cf4 rfl (uw_in tb_145 rfl) (uw_in tb_146 rfl) (uw_in tb_6 rfl) f1 f2 (by decide) dX3_init_13 16 rfl (k := 45) rfl ?_
  refine zn (2, 13) rfl 46 rfl ?_
  have f1 := frs_m f1 (show 45 ≤ 46 by decide)
  have f2 := frs_m f2 (show 45 ≤ 46 by decide)
  refine z_dup C rfl dX3_init_16 17 rfl ?_
  refine c_callI C hR (ti_45 (mL X) G _ _ f1 f2) mwX4_init miX4_init rfl (Or.inr ⟨RX10, by decide⟩) rfl rfl (Nat.le_of_ble_eq_true rfl) (by decide) (by decide) dX3_init_17 20 rfl ?_
  refine zn (5, 991) rfl 49 rfl ?_
  have f1 := frs_m f1 (show 46 ≤ 49 by decide)
  have f2 := frs_m f2 (show 46 ≤ 49 by decide)
  have f1 := frs_c (e := (45, 0, 46)) (show (45 : Int) < ((49 : Nat) : Int) by decide) f1
  have f1 := frs_c (e := (45, 1, 47)) (show (45 : Int) < ((49 : Nat) : Int) by decide) f1
  have f1 := frs_c (e := (45, 2, 48)) (show (45 : Int) < ((49 : Nat) : Int) by decide) f1
  refine c_putF C hnm fFX3_18 ⟨rfl, by decide, by decide⟩ (by decide) dX3_init_20 23 rfl ?_
  have f1 := frs_c (e := (43, 2, 45)) (show (43 : Int) < ((49 : Nat) : Int) by decide) f1
  refine z_aload_n C 0 rfl 0 rfl dX3_init_23 24 rfl ?_
  refine z_sipush C (by decide) dX3_init_24 27 rfl ?_
  refine c_newa (t := 1) (N := 4860) C hR (uw_in tb_82 rfl) (Or.inl ⟨rfl, rfl⟩) rfl f2 ⟨w32_id (a := 4860) (by decide), by decide⟩ (by decide) dX3_init_27 29 rfl (k := 49) rfl ?_
  refine zn (6, 5851) rfl 50 rfl ?_
  have f1 := frs_m f1 (show 49 ≤ 50 by decide)
  have f2 := frs_m f2 (show 49 ≤ 50 by decide)
  refine c_putF C hnm fFX3_22 ⟨rfl, by decide, by decide⟩ (by decide) dX3_init_29 32 rfl ?_
  have f1 := frs_c (e := (43, 3, 49)) (show (43 : Int) < ((50 : Nat) : Int) by decide) f1
  refine z_aload_n C 0 rfl 0 rfl dX3_init_32 33 rfl ?_
  refine z_iconst C dX3_init_33 34 rfl ?_
  refine c_putI C fX3_25 ⟨rfl, by decide, by decide⟩ dX3_init_34 37 rfl ?_
  have f2 := frs_c (e := (43, 4, -1)) (show (43 : Int) < ((50 : Nat) : Int) by decide) f2
  exact z_vret C R rfl rfl dX3_init_37
theorem fFX10_37 : FLF RX10 37 10 5 ∧ isRefTy (tyOf 10 5) = true ∧ ((5 : Nat) : Int) = 5 := ⟨⟨RX10, TX10, 14, cf10, by decide, uw_in tb_388 rfl, rfl, rfl⟩, rfl, rfl⟩
theorem loX1 : Cond.methodLink RX1 3 Lib.objectInit ∈ UW := uw_in tb_195 rfl
theorem fFX1_9 : FLF RX1 9 1 0 ∧ isRefTy (tyOf 1 0) = true ∧ ((0 : Nat) : Int) = 0 := ⟨⟨RX1, TX1, 6, cf1, by decide, uw_in tb_198 rfl, rfl, rfl⟩, rfl, rfl⟩
def rmI52 : Room := { frames := 1, cells := 3, slots := 978, locals := 30 }
set_option maxRecDepth 100000 in
set_option maxHeartbeats 4000000 in
theorem ti_52 (l : Launch) (G : GG) (l1 l2 : List (Int × Int × Int)) (f1 : frs 53 l1) (f2 : frs 53 l2) : Ctr l G yX4_init cX4_init 1 none rmI52 [vr G 52] (wl 53 l1 l2) (fun _ : Unit => none) (fun _ : Unit => wl 56 ((52, 2, 55) :: (52, 1, 54) :: (52, 0, 53) :: l1) (l2)) (some ()) := by
  refine ctr_of (by decide) (Nat.le_of_ble_eq_true rfl) mwX4_init.1 (fun X hl hR C R hnm => ?_)
  subst hl
  refine z_lv (lv' := [(0, vr G 52)]) [0] rfl ?_
  refine z_aload_n C 0 rfl 0 rfl dX4_init_0 1 rfl ?_
  refine c_obj C hR loX4 (Nat.le_of_ble_eq_true rfl) (by decide) dX4_init_1 4 rfl ?_
  refine z_aload_n C 0 rfl 0 rfl dX4_init_4 5 rfl ?_
  refine z_bipush C (by decide) dX4_init_5 7 rfl ?_
  refine c_newa (t := 1) (N := 6) C hR (uw_in tb_82 rfl) (Or.inl ⟨rfl, rfl⟩) rfl f2 ⟨w32_id (a := 6) (by decide), by decide⟩ (by decide) dX4_init_7 9 rfl (k := 53) rfl ?_
  refine zn (1, 6) rfl 54 rfl ?_
  have f1 := frs_m f1 (show 53 ≤ 54 by decide)
  have f2 := frs_m f2 (show 53 ≤ 54 by decide)
  refine c_putF C hnm fFX4_9 ⟨rfl, by decide, by decide⟩ (by decide) dX4_init_9 12 rfl ?_
  have f1 := frs_c (e := (52, 0, 53)) (show (52 : Int) < ((54 : Nat) : Int) by decide) f1
  refine z_aload_n C 0 rfl 0 rfl dX4_init_12 13 rfl ?_
  refine z_sipush C (by decide) dX4_init_13 16 rfl ?_
  refine c_newa (t := 1) (N := 486) C hR (uw_in tb_82 rfl) (Or.inl ⟨rfl, rfl⟩) rfl f2 ⟨w32_id (a := 486) (by decide), by decide⟩ (by decide) dX4_init_16 18 rfl (k := 54) rfl ?_
  refine zn (2, 492) rfl 55 rfl ?_
  have f1 := frs_m f1 (show 54 ≤ 55 by decide)
  have f2 := frs_m f2 (show 54 ≤ 55 by decide)
  refine c_putF C hnm fFX4_15 ⟨rfl, by decide, by decide⟩ (by decide) dX4_init_18 21 rfl ?_
  have f1 := frs_c (e := (52, 1, 54)) (show (52 : Int) < ((55 : Nat) : Int) by decide) f1
  refine z_aload_n C 0 rfl 0 rfl dX4_init_21 22 rfl ?_
  refine z_sipush C (by decide) dX4_init_22 25 rfl ?_
  refine c_newa (t := 1) (N := 486) C hR (uw_in tb_82 rfl) (Or.inl ⟨rfl, rfl⟩) rfl f2 ⟨w32_id (a := 486) (by decide), by decide⟩ (by decide) dX4_init_25 27 rfl (k := 55) rfl ?_
  refine zn (3, 978) rfl 56 rfl ?_
  have f1 := frs_m f1 (show 55 ≤ 56 by decide)
  have f2 := frs_m f2 (show 55 ≤ 56 by decide)
  refine c_putF C hnm fFX4_18 ⟨rfl, by decide, by decide⟩ (by decide) dX4_init_27 30 rfl ?_
  have f1 := frs_c (e := (52, 2, 55)) (show (52 : Int) < ((56 : Nat) : Int) by decide) f1
  exact z_vret C R rfl rfl dX4_init_30
theorem fFX1_18 : FLF RX1 18 1 3 ∧ isRefTy (tyOf 1 3) = true ∧ ((3 : Nat) : Int) = 3 := ⟨⟨RX1, TX1, 6, cf1, by decide, uw_in tb_203 rfl, rfl, rfl⟩, rfl, rfl⟩
theorem fFX1_22 : FLF RX1 22 1 4 ∧ isRefTy (tyOf 1 4) = true ∧ ((4 : Nat) : Int) = 4 := ⟨⟨RX1, TX1, 6, cf1, by decide, uw_in tb_204 rfl, rfl, rfl⟩, rfl, rfl⟩
theorem fFX1_29 : FLF RX1 29 1 2 ∧ isRefTy (tyOf 1 2) = true ∧ ((2 : Nat) : Int) = 2 := ⟨⟨RX1, TX1, 6, cf1, by decide, uw_in tb_202 rfl, rfl, rfl⟩, rfl, rfl⟩
def rmI50 : Room := { frames := 2, cells := 6, slots := 3257, locals := 50 }
set_option maxRecDepth 100000 in
set_option maxHeartbeats 4000000 in
theorem ti_50 (l : Launch) (G : GG) (l1 l2 : List (Int × Int × Int)) (f1 : frs 51 l1) (f2 : frs 51 l2) : Ctr l G yX1_init cX1_init 2 none rmI50 [vr G 50, vr G 1] (wl 51 l1 l2) (fun _ : Unit => none) (fun _ : Unit => wl 57 ((50, 2, 1) :: (50, 4, 56) :: (50, 3, 52) :: (52, 2, 55) :: (52, 1, 54) :: (52, 0, 53) :: (50, 0, 51) :: l1) ((50, 5, -1) :: l2)) (some ()) := by
  refine ctr_of (by decide) (Nat.le_of_ble_eq_true rfl) mwX1_init.1 (fun X hl hR C R hnm => ?_)
  subst hl
  refine z_lv (lv' := [(0, vr G 50), (1, vr G 1)]) [0, 1] rfl ?_
  refine z_aload_n C 0 rfl 0 rfl dX1_init_0 1 rfl ?_
  refine c_obj C hR loX1 (Nat.le_of_ble_eq_true rfl) (by decide) dX1_init_1 4 rfl ?_
  refine z_aload_n C 0 rfl 0 rfl dX1_init_4 5 rfl ?_
  refine z_bipush C (by decide) dX1_init_5 7 rfl ?_
  refine c_newa (t := 2) (N := 7) C hR (uw_in tb_219 rfl) (Or.inr (Or.inl ⟨rfl, rfl⟩)) rfl f2 ⟨w32_id (a := 7) (by decide), by decide⟩ (by decide) dX1_init_7 9 rfl (k := 51) rfl ?_
  refine zn (1, 7) rfl 52 rfl ?_
  have f1 := frs_m f1 (show 51 ≤ 52 by decide)
  have f2 := frs_m f2 (show 51 ≤ 52 by decide)
  refine c_putF C hnm fFX1_9 ⟨rfl, by decide, by decide⟩ (by decide) dX1_init_9 12 rfl ?_
  have f1 := frs_c (e := (50, 0, 51)) (show (50 : Int) < ((52 : Nat) : Int) by decide) f1
  refine z_aload_n C 0 rfl 0 rfl dX1_init_12 13 rfl ?_
  refine c_new C hR cf4 rfl (uw_in tb_196 rfl) (uw_in tb_146 rfl) (uw_in tb_6 rfl) f1 f2 (by decide) dX1_init_13 16 rfl (k := 52) rfl ?_
  refine zn (2, 11) rfl 53 rfl ?_
  have f1 := frs_m f1 (show 52 ≤ 53 by decide)
  have f2 := frs_m f2 (show 52 ≤ 53 by decide)
  refine z_dup C rfl dX1_init_16 17 rfl ?_
  refine c_callI C hR (ti_52 (mL X) G _ _ f1 f2) mwX4_init miX4_init rfl (Or.inr ⟨RX10, by decide⟩) rfl rfl (Nat.le_of_ble_eq_true rfl) (by decide) (by decide) dX1_init_17 20 rfl ?_
  refine zn (5, 989) rfl 56 rfl ?_
  have f1 := frs_m f1 (show 53 ≤ 56 by decide)
  have f2 := frs_m f2 (show 53 ≤ 56 by decide)
  have f1 := frs_c (e := (52, 0, 53)) (show (52 : Int) < ((56 : Nat) : Int) by decide) f1
  have f1 := frs_c (e := (52, 1, 54)) (show (52 : Int) < ((56 : Nat) : Int) by decide) f1
  have f1 := frs_c (e := (52, 2, 55)) (show (52 : Int) < ((56 : Nat) : Int) by decide) f1
  refine c_putF C hnm fFX1_18 ⟨rfl, by decide, by decide⟩ (by decide) dX1_init_20 23 rfl ?_
  have f1 := frs_c (e := (50, 3, 52)) (show (50 : Int) < ((56 : Nat) : Int) by decide) f1
  refine z_aload_n C 0 rfl 0 rfl dX1_init_23 24 rfl ?_
  refine z_sipush C (by decide) dX1_init_24 27 rfl ?_
  refine c_newa (t := 2) (N := 2268) C hR (uw_in tb_219 rfl) (Or.inr (Or.inl ⟨rfl, rfl⟩)) rfl f2 ⟨w32_id (a := 2268) (by decide), by decide⟩ (by decide) dX1_init_27 29 rfl (k := 56) rfl ?_
  refine zn (6, 3257) rfl 57 rfl ?_
  have f1 := frs_m f1 (show 56 ≤ 57 by decide)
  have f2 := frs_m f2 (show 56 ≤ 57 by decide)
  refine c_putF C hnm fFX1_22 ⟨rfl, by decide, by decide⟩ (by decide) dX1_init_29 32 rfl ?_
  have f1 := frs_c (e := (50, 4, 56)) (show (50 : Int) < ((57 : Nat) : Int) by decide) f1
  refine z_aload_n C 0 rfl 0 rfl dX1_init_32 33 rfl ?_
  refine z_iconst C dX1_init_33 34 rfl ?_
  refine c_putI C fX1_25 ⟨rfl, by decide, by decide⟩ dX1_init_34 37 rfl ?_
  have f2 := frs_c (e := (50, 5, -1)) (show (50 : Int) < ((57 : Nat) : Int) by decide) f2
  refine z_aload_n C 0 rfl 0 rfl dX1_init_37 38 rfl ?_
  refine z_aload_n C 1 rfl 1 rfl dX1_init_38 39 rfl ?_
  refine c_putF C hnm fFX1_29 ⟨rfl, by decide, by decide⟩ (by decide) dX1_init_39 42 rfl ?_
  have f1 := frs_c (e := (50, 2, 1)) (show (50 : Int) < ((57 : Nat) : Int) by decide) f1
  exact z_vret C R rfl rfl dX1_init_42
theorem fFX10_44 : FLF RX10 44 10 6 ∧ isRefTy (tyOf 10 6) = true ∧ ((6 : Nat) : Int) = 6 := ⟨⟨RX10, TX10, 14, cf10, by decide, uw_in tb_389 rfl, rfl, rfl⟩, rfl, rfl⟩
theorem loX8 : Cond.methodLink RX8 3 Lib.objectInit ∈ UW := uw_in tb_225 rfl
theorem fFX8_9 : FLF RX8 9 8 3 ∧ isRefTy (tyOf 8 3) = true ∧ ((3 : Nat) : Int) = 3 := ⟨⟨RX8, TX8, 8, cf8, by decide, uw_in tb_232 rfl, rfl, rfl⟩, rfl, rfl⟩
def rmI57 : Room := { frames := 1, cells := 1, slots := 160, locals := 30 }
set_option maxRecDepth 100000 in
set_option maxHeartbeats 4000000 in
theorem ti_57 (l : Launch) (G : GG) (l1 l2 : List (Int × Int × Int)) (f1 : frs 58 l1) (f2 : frs 58 l2) : Ctr l G yX8_init cX8_init 1 none rmI57 [vr G 57] (wl 58 l1 l2) (fun _ : Unit => none) (fun _ : Unit => wl 59 ((57, 3, 58) :: l1) (l2)) (some ()) := by
  refine ctr_of (by decide) (Nat.le_of_ble_eq_true rfl) mwX8_init.1 (fun X hl hR C R hnm => ?_)
  subst hl
  refine z_lv (lv' := [(0, vr G 57)]) [0] rfl ?_
  refine z_aload_n C 0 rfl 0 rfl dX8_init_0 1 rfl ?_
  refine c_obj C hR loX8 (Nat.le_of_ble_eq_true rfl) (by decide) dX8_init_1 4 rfl ?_
  refine z_aload_n C 0 rfl 0 rfl dX8_init_4 5 rfl ?_
  refine z_sipush C (by decide) dX8_init_5 8 rfl ?_
  refine c_newa (t := 1) (N := 160) C hR (uw_in tb_82 rfl) (Or.inl ⟨rfl, rfl⟩) rfl f2 ⟨w32_id (a := 160) (by decide), by decide⟩ (by decide) dX8_init_8 10 rfl (k := 58) rfl ?_
  refine zn (1, 160) rfl 59 rfl ?_
  have f1 := frs_m f1 (show 58 ≤ 59 by decide)
  have f2 := frs_m f2 (show 58 ≤ 59 by decide)
  refine c_putF C hnm fFX8_9 ⟨rfl, by decide, by decide⟩ (by decide) dX8_init_10 13 rfl ?_
  have f1 := frs_c (e := (57, 3, 58)) (show (57 : Int) < ((59 : Nat) : Int) by decide) f1
  exact z_vret C R rfl rfl dX8_init_13
theorem fFX10_51 : FLF RX10 51 10 7 ∧ isRefTy (tyOf 10 7) = true ∧ ((7 : Nat) : Int) = 7 := ⟨⟨RX10, TX10, 14, cf10, by decide, uw_in tb_390 rfl, rfl, rfl⟩, rfl, rfl⟩
theorem fFX10_57 : FLF RX10 57 10 8 ∧ isRefTy (tyOf 10 8) = true ∧ ((8 : Nat) : Int) = 8 := ⟨⟨RX10, TX10, 14, cf10, by decide, uw_in tb_391 rfl, rfl, rfl⟩, rfl, rfl⟩
theorem fFX10_63 : FLF RX10 63 10 9 ∧ isRefTy (tyOf 10 9) = true ∧ ((9 : Nat) : Int) = 9 := ⟨⟨RX10, TX10, 14, cf10, by decide, uw_in tb_392 rfl, rfl, rfl⟩, rfl, rfl⟩
theorem fFX10_67 : FLF RX10 67 10 10 ∧ isRefTy (tyOf 10 10) = true ∧ ((10 : Nat) : Int) = 10 := ⟨⟨RX10, TX10, 14, cf10, by decide, uw_in tb_393 rfl, rfl, rfl⟩, rfl, rfl⟩
theorem fFX10_71 : FLF RX10 71 10 11 ∧ isRefTy (tyOf 10 11) = true ∧ ((11 : Nat) : Int) = 11 := ⟨⟨RX10, TX10, 14, cf10, by decide, uw_in tb_394 rfl, rfl, rfl⟩, rfl, rfl⟩
theorem loX5 : Cond.methodLink RX5 3 Lib.objectInit ∈ UW := uw_in tb_262 rfl
theorem fFX5_11 : FLF RX5 11 5 0 ∧ isRefTy (tyOf 5 0) = true ∧ ((0 : Nat) : Int) = 0 := ⟨⟨RX5, TX5, 11, cf5, by decide, uw_in tb_313 rfl, rfl, rfl⟩, rfl, rfl⟩
theorem fFX5_17 : FLF RX5 17 5 1 ∧ isRefTy (tyOf 5 1) = true ∧ ((1 : Nat) : Int) = 1 := ⟨⟨RX5, TX5, 11, cf5, by decide, uw_in tb_316 rfl, rfl, rfl⟩, rfl, rfl⟩
theorem fFX5_21 : FLF RX5 21 5 2 ∧ isRefTy (tyOf 5 2) = true ∧ ((2 : Nat) : Int) = 2 := ⟨⟨RX5, TX5, 11, cf5, by decide, uw_in tb_319 rfl, rfl, rfl⟩, rfl, rfl⟩
theorem fFX5_24 : FLF RX5 24 5 3 ∧ isRefTy (tyOf 5 3) = true ∧ ((3 : Nat) : Int) = 3 := ⟨⟨RX5, TX5, 11, cf5, by decide, uw_in tb_321 rfl, rfl, rfl⟩, rfl, rfl⟩
theorem fFX5_27 : FLF RX5 27 5 4 ∧ isRefTy (tyOf 5 4) = true ∧ ((4 : Nat) : Int) = 4 := ⟨⟨RX5, TX5, 11, cf5, by decide, uw_in tb_323 rfl, rfl, rfl⟩, rfl, rfl⟩
theorem loX2 : Cond.methodLink RX2 1 Lib.objectInit ∈ UW := uw_in tb_268 rfl
def rmI69 : Room := { frames := 1, cells := 0, slots := 0, locals := 30 }
set_option maxRecDepth 100000 in
set_option maxHeartbeats 4000000 in
theorem ti_69 (l : Launch) (G : GG) (l1 l2 : List (Int × Int × Int)) (f1 : frs 70 l1) (f2 : frs 70 l2) : Ctr l G yX2_init cX2_init 1 none rmI69 [vr G 69] (wl 70 l1 l2) (fun _ : Unit => none) (fun _ : Unit => wl 70 (l1) ((69, 0, -1) :: l2)) (some ()) := by
  refine ctr_of (by decide) (Nat.le_of_ble_eq_true rfl) mwX2_init.1 (fun X hl hR C R hnm => ?_)
  subst hl
  refine z_lv (lv' := [(0, vr G 69)]) [0] rfl ?_
  refine z_aload_n C 0 rfl 0 rfl dX2_init_0 1 rfl ?_
  refine c_obj C hR loX2 (Nat.le_of_ble_eq_true rfl) (by decide) dX2_init_1 4 rfl ?_
  refine z_aload_n C 0 rfl 0 rfl dX2_init_4 5 rfl ?_
  refine z_iconst C dX2_init_5 6 rfl ?_
  refine c_putI C fX2_9 ⟨rfl, by decide, by decide⟩ dX2_init_6 9 rfl ?_
  have f2 := frs_c (e := (69, 0, -1)) (show (69 : Int) < ((70 : Nat) : Int) by decide) f2
  exact z_vret C R rfl rfl dX2_init_9
theorem fFX5_33 : FLF RX5 33 5 5 ∧ isRefTy (tyOf 5 5) = true ∧ ((5 : Nat) : Int) = 5 := ⟨⟨RX5, TX5, 11, cf5, by decide, uw_in tb_325 rfl, rfl, rfl⟩, rfl, rfl⟩
def rmI70 : Room := { frames := 1, cells := 0, slots := 0, locals := 30 }
set_option maxRecDepth 100000 in
set_option maxHeartbeats 4000000 in
theorem ti_70 (l : Launch) (G : GG) (l1 l2 : List (Int × Int × Int)) (f1 : frs 71 l1) (f2 : frs 71 l2) : Ctr l G yX2_init cX2_init 1 none rmI70 [vr G 70] (wl 71 l1 l2) (fun _ : Unit => none) (fun _ : Unit => wl 71 (l1) ((70, 0, -1) :: l2)) (some ()) := by
  refine ctr_of (by decide) (Nat.le_of_ble_eq_true rfl) mwX2_init.1 (fun X hl hR C R hnm => ?_)
  subst hl
  refine z_lv (lv' := [(0, vr G 70)]) [0] rfl ?_
  refine z_aload_n C 0 rfl 0 rfl dX2_init_0 1 rfl ?_
  refine c_obj C hR loX2 (Nat.le_of_ble_eq_true rfl) (by decide) dX2_init_1 4 rfl ?_
  refine z_aload_n C 0 rfl 0 rfl dX2_init_4 5 rfl ?_
  refine z_iconst C dX2_init_5 6 rfl ?_
  refine c_putI C fX2_9 ⟨rfl, by decide, by decide⟩ dX2_init_6 9 rfl ?_
  have f2 := frs_c (e := (70, 0, -1)) (show (70 : Int) < ((71 : Nat) : Int) by decide) f2
  exact z_vret C R rfl rfl dX2_init_9
theorem fFX5_37 : FLF RX5 37 5 6 ∧ isRefTy (tyOf 5 6) = true ∧ ((6 : Nat) : Int) = 6 := ⟨⟨RX5, TX5, 11, cf5, by decide, uw_in tb_327 rfl, rfl, rfl⟩, rfl, rfl⟩
theorem fFX5_42 : FLF RX5 42 5 7 ∧ isRefTy (tyOf 5 7) = true ∧ ((7 : Nat) : Int) = 7 := ⟨⟨RX5, TX5, 11, cf5, by decide, uw_in tb_329 rfl, rfl, rfl⟩, rfl, rfl⟩
theorem loX9 : Cond.methodLink RX9 1 Lib.objectInit ∈ UW := uw_in tb_295 rfl
def rmI72 : Room := { frames := 1, cells := 0, slots := 0, locals := 30 }
set_option maxRecDepth 100000 in
set_option maxHeartbeats 4000000 in
theorem ti_72 (l : Launch) (G : GG) (l1 l2 : List (Int × Int × Int)) (f1 : frs 73 l1) (f2 : frs 73 l2) : Ctr l G yX9_init cX9_init 1 none rmI72 [vr G 72] (wl 73 l1 l2) (fun _ : Unit => none) (fun _ : Unit => wl 73 (l1) (l2)) (some ()) := by
  refine ctr_of (by decide) (Nat.le_of_ble_eq_true rfl) mwX9_init.1 (fun X hl hR C R hnm => ?_)
  subst hl
  refine z_lv (lv' := [(0, vr G 72)]) [0] rfl ?_
  refine z_aload_n C 0 rfl 0 rfl dX9_init_0 1 rfl ?_
  refine c_obj C hR loX9 (Nat.le_of_ble_eq_true rfl) (by decide) dX9_init_1 4 rfl ?_
  exact z_vret C R rfl rfl dX9_init_4
def rmI73 : Room := { frames := 1, cells := 0, slots := 0, locals := 30 }
set_option maxRecDepth 100000 in
set_option maxHeartbeats 4000000 in
theorem ti_73 (l : Launch) (G : GG) (l1 l2 : List (Int × Int × Int)) (f1 : frs 74 l1) (f2 : frs 74 l2) : Ctr l G yX9_init cX9_init 1 none rmI73 [vr G 73] (wl 74 l1 l2) (fun _ : Unit => none) (fun _ : Unit => wl 74 (l1) (l2)) (some ()) := by
  refine ctr_of (by decide) (Nat.le_of_ble_eq_true rfl) mwX9_init.1 (fun X hl hR C R hnm => ?_)
  subst hl
  refine z_lv (lv' := [(0, vr G 73)]) [0] rfl ?_
  refine z_aload_n C 0 rfl 0 rfl dX9_init_0 1 rfl ?_
  refine c_obj C hR loX9 (Nat.le_of_ble_eq_true rfl) (by decide) dX9_init_1 4 rfl ?_
  exact z_vret C R rfl rfl dX9_init_4
def rmI74 : Room := { frames := 1, cells := 0, slots := 0, locals := 30 }
set_option maxRecDepth 100000 in
set_option maxHeartbeats 4000000 in
theorem ti_74 (l : Launch) (G : GG) (l1 l2 : List (Int × Int × Int)) (f1 : frs 75 l1) (f2 : frs 75 l2) : Ctr l G yX9_init cX9_init 1 none rmI74 [vr G 74] (wl 75 l1 l2) (fun _ : Unit => none) (fun _ : Unit => wl 75 (l1) (l2)) (some ()) := by
  refine ctr_of (by decide) (Nat.le_of_ble_eq_true rfl) mwX9_init.1 (fun X hl hR C R hnm => ?_)
  subst hl
  refine z_lv (lv' := [(0, vr G 74)]) [0] rfl ?_
  refine z_aload_n C 0 rfl 0 rfl dX9_init_0 1 rfl ?_
  refine c_obj C hR loX9 (Nat.le_of_ble_eq_true rfl) (by decide) dX9_init_1 4 rfl ?_
  exact z_vret C R rfl rfl dX9_init_4
def rmI63 : Room := { frames := 2, cells := 11, slots := 49, locals := 50 }
set_option maxRecDepth 100000 in
set_option maxHeartbeats 4000000 in
theorem ti_63 (l : Launch) (G : GG) (l1 l2 : List (Int × Int × Int)) (f1 : frs 64 l1) (f2 : frs 64 l2) : Ctr l G yX5_init cX5_init 2 none rmI63 [vr G 63] (wl 64 l1 l2) (fun _ : Unit => none) (fun _ : Unit => wl 75 ((71, 2, 74) :: (71, 1, 73) :: (71, 0, 72) :: (63, 7, 71) :: (63, 6, 70) :: (63, 5, 69) :: (63, 4, 68) :: (63, 3, 67) :: (63, 2, 66) :: (63, 1, 65) :: (63, 0, 64) :: l1) ((70, 0, -1) :: (69, 0, -1) :: l2)) (some ()) := by
  refine ctr_of (by decide) (Nat.le_of_ble_eq_true rfl) mwX5_init.1 (fun X hl hR C R hnm => ?_)
  subst hl
  refine z_lv (lv' := [(0, vr G 63)]) [0] rfl ?_
  refine z_aload_n C 0 rfl 0 rfl dX5_init_0 1 rfl ?_
  refine c_obj C hR loX5 (Nat.le_of_ble_eq_true rfl) (by decide) dX5_init_1 4 rfl ?_
  refine z_aload_n C 0 rfl 0 rfl dX5_init_4 5 rfl ?_
  refine z_bipush C (by decide) dX5_init_5 7 rfl ?_
  refine c_newa (t := 1) (N := 6) C hR (uw_in tb_82 rfl) (Or.inl ⟨rfl, rfl⟩) rfl f2 ⟨w32_id (a := 6) (by decide), by decide⟩ (by decide) dX5_init_7 9 rfl (k := 64) rfl ?_
  refine zn (1, 6) rfl 65 rfl ?_
  have f1 := frs_m f1 (show 64 ≤ 65 by decide)
  have f2 := frs_m f2 (show 64 ≤ 65 by decide)
  refine c_putF C hnm fFX5_11 ⟨rfl, by decide, by decide⟩ (by decide) dX5_init_9 12 rfl ?_
  have f1 := frs_c (e := (63, 0, 64)) (show (63 : Int) < ((65 : Nat) : Int) by decide) f1
  refine z_aload_n C 0 rfl 0 rfl dX5_init_12 13 rfl ?_
  refine z_bipush C (by decide) dX5_init_13 15 rfl ?_
  refine c_newa (t := 3) (N := 6) C hR (uw_in tb_138 rfl) (Or.inr (Or.inr ⟨rfl, rfl⟩)) rfl f2 ⟨w32_id (a := 6) (by decide), by decide⟩ (by decide) dX5_init_15 17 rfl (k := 65) rfl ?_
  refine zn (2, 12) rfl 66 rfl ?_
  have f1 := frs_m f1 (show 65 ≤ 66 by decide)
  have f2 := frs_m f2 (show 65 ≤ 66 by decide)
  refine c_putF C hnm fFX5_17 ⟨rfl, by decide, by decide⟩ (by decide) dX5_init_17 20 rfl ?_
  have f1 := frs_c (e := (63, 1, 65)) (show (63 : Int) < ((66 : Nat) : Int) by decide) f1
  refine z_aload_n C 0 rfl 0 rfl dX5_init_20 21 rfl ?_
  refine z_iconst C dX5_init_21 22 rfl ?_
  refine c_newa (t := 1) (N := 4) C hR (uw_in tb_82 rfl) (Or.inl ⟨rfl, rfl⟩) rfl f2 ⟨w32_id (a := 4) (by decide), by decide⟩ (by decide) dX5_init_22 24 rfl (k := 66) rfl ?_
  refine zn (3, 16) rfl 67 rfl ?_
  have f1 := frs_m f1 (show 66 ≤ 67 by decide)
  have f2 := frs_m f2 (show 66 ≤ 67 by decide)
  refine c_putF C hnm fFX5_21 ⟨rfl, by decide, by decide⟩ (by decide) dX5_init_24 27 rfl ?_
  have f1 := frs_c (e := (63, 2, 66)) (show (63 : Int) < ((67 : Nat) : Int) by decide) f1
  refine z_aload_n C 0 rfl 0 rfl dX5_init_27 28 rfl ?_
  refine z_iconst C dX5_init_28 29 rfl ?_
  refine c_newa (t := 3) (N := 4) C hR (uw_in tb_138 rfl) (Or.inr (Or.inr ⟨rfl, rfl⟩)) rfl f2 ⟨w32_id (a := 4) (by decide), by decide⟩ (by decide) dX5_init_29 31 rfl (k := 67) rfl ?_
  refine zn (4, 20) rfl 68 rfl ?_
  have f1 := frs_m f1 (show 67 ≤ 68 by decide)
  have f2 := frs_m f2 (show 67 ≤ 68 by decide)
  refine c_putF C hnm fFX5_24 ⟨rfl, by decide, by decide⟩ (by decide) dX5_init_31 34 rfl ?_
  have f1 := frs_c (e := (63, 3, 67)) (show (63 : Int) < ((68 : Nat) : Int) by decide) f1
  refine z_aload_n C 0 rfl 0 rfl dX5_init_34 35 rfl ?_
  refine z_iconst C dX5_init_35 36 rfl ?_
  refine c_newa (t := 1) (N := 4) C hR (uw_in tb_82 rfl) (Or.inl ⟨rfl, rfl⟩) rfl f2 ⟨w32_id (a := 4) (by decide), by decide⟩ (by decide) dX5_init_36 38 rfl (k := 68) rfl ?_
  refine zn (5, 24) rfl 69 rfl ?_
  have f1 := frs_m f1 (show 68 ≤ 69 by decide)
  have f2 := frs_m f2 (show 68 ≤ 69 by decide)
  refine c_putF C hnm fFX5_27 ⟨rfl, by decide, by decide⟩ (by decide) dX5_init_38 41 rfl ?_
  have f1 := frs_c (e := (63, 4, 68)) (show (63 : Int) < ((69 : Nat) : Int) by decide) f1
  refine z_aload_n C 0 rfl 0 rfl dX5_init_41 42 rfl ?_
  refine c_new C hR cf2 rfl (uw_in tb_263 rfl) (uw_in tb_264 rfl) (uw_in tb_10 rfl) f1 f2 (by decide) dX5_init_42 45 rfl (k := 69) rfl ?_
  refine zn (6, 29) rfl 70 rfl ?_
  have f1 := frs_m f1 (show 69 ≤ 70 by decide)
  have f2 := frs_m f2 (show 69 ≤ 70 by decide)
  refine z_dup C rfl dX5_init_45 46 rfl ?_
  refine c_callI C hR (ti_69 (mL X) G _ _ f1 f2) mwX2_init miX2_init rfl (Or.inr ⟨RX10, by decide⟩) rfl rfl (Nat.le_of_ble_eq_true rfl) (by decide) (by decide) dX5_init_46 49 rfl ?_
  refine zn (6, 29) rfl 70 rfl ?_
  have f2 := frs_c (e := (69, 0, -1)) (show (69 : Int) < ((70 : Nat) : Int) by decide) f2
  refine c_putF C hnm fFX5_33 ⟨rfl, by decide, by decide⟩ (by decide) dX5_init_49 52 rfl ?_
  have f1 := frs_c (e := (63, 5, 69)) (show (63 : Int) < ((70 : Nat) : Int) by decide) f1
  refine z_aload_n C 0 rfl 0 rfl dX5_init_52 53 rfl ?_
  refine c_new C hR cf2 rfl (uw_in tb_263 rfl) (uw_in tb_264 rfl) (uw_in tb_10 rfl) f1 f2 (by decide) dX5_init_53 56 rfl (k := 70) rfl ?_
  refine zn (7, 34) rfl 71 rfl ?_
  have f1 := frs_m f1 (show 70 ≤ 71 by decide)
  have f2 := frs_m f2 (show 70 ≤ 71 by decide)
  refine z_dup C rfl dX5_init_56 57 rfl ?_
  refine c_callI C hR (ti_70 (mL X) G _ _ f1 f2) mwX2_init miX2_init rfl (Or.inr ⟨RX10, by decide⟩) rfl rfl (Nat.le_of_ble_eq_true rfl) (by decide) (by decide) dX5_init_57 60 rfl ?_
  refine zn (7, 34) rfl 71 rfl ?_
  have f2 := frs_c (e := (70, 0, -1)) (show (70 : Int) < ((71 : Nat) : Int) by decide) f2
  refine c_putF C hnm fFX5_37 ⟨rfl, by decide, by decide⟩ (by decide) dX5_init_60 63 rfl ?_
  have f1 := frs_c (e := (63, 6, 70)) (show (63 : Int) < ((71 : Nat) : Int) by decide) f1
  refine z_aload_n C 0 rfl 0 rfl dX5_init_63 64 rfl ?_
  refine z_iconst C dX5_init_64 65 rfl ?_
  refine c_anew (t := 2) (N := 3) C hR (by decide) (uw_in tb_289 rfl) rfl f1 ⟨w32_id (a := 3) (by decide), by decide⟩ (by decide) dX5_init_65 68 rfl (k := 71) rfl ?_
  refine zn (8, 37) rfl 72 rfl ?_
  have f1 := frs_m f1 (show 71 ≤ 72 by decide)
  have f2 := frs_m f2 (show 71 ≤ 72 by decide)
  refine c_putF C hnm fFX5_42 ⟨rfl, by decide, by decide⟩ (by decide) dX5_init_68 71 rfl ?_
  have f1 := frs_c (e := (63, 7, 71)) (show (63 : Int) < ((72 : Nat) : Int) by decide) f1
  refine z_iconst C dX5_init_71 72 rfl ?_
  refine z_istore_n (lv' := [(1, vi 0), (0, vr G 63)]) C 1 rfl (by decide) dX5_init_72 73 rfl rfl ?_
  refine z_iload_n C 1 rfl 0 rfl dX5_init_73 74 rfl ?_
  refine z_iconst C dX5_init_74 75 rfl ?_
  refine c_ge_no C dX5_init_75 97 (by decide) 78 rfl (by decide) ?_
  refine z_aload_n C 0 rfl 1 rfl dX5_init_78 79 rfl ?_
  refine c_getR (k2 := 71) C fX5_42 ⟨rfl, by decide, by decide⟩ (by simp [LL]) dX5_init_79 82 rfl ?_
  refine z_iload_n C 1 rfl 0 rfl dX5_init_82 83 rfl ?_
  refine c_new C hR cf9 rfl (uw_in tb_289 rfl) (uw_in tb_291 rfl) (uw_in tb_11 rfl) f1 f2 (by decide) dX5_init_83 86 rfl (k := 72) rfl ?_
  refine zn (9, 41) rfl 73 rfl ?_
  have f1 := frs_m f1 (show 72 ≤ 73 by decide)
  have f2 := frs_m f2 (show 72 ≤ 73 by decide)
  refine z_dup C rfl dX5_init_86 87 rfl ?_
  refine c_callI C hR (ti_72 (mL X) G _ _ f1 f2) mwX9_init miX9_init rfl (Or.inr ⟨RX10, by decide⟩) rfl rfl (Nat.le_of_ble_eq_true rfl) (by decide) (by decide) dX5_init_87 90 rfl ?_
  refine zn (9, 41) rfl 73 rfl ?_
  refine c_aast (t := 2) (N := 3) C (by decide) cf9 rfl ⟨rfl, by decide, by decide⟩ ⟨rfl, by decide, by decide⟩ dX5_init_90 91 rfl (w32_id (a := 0) (by decide)) (by decide) ?_
  have f1 := frs_c (e := (71, 0, 72)) (show (71 : Int) < ((73 : Nat) : Int) by decide) f1
  refine z_iinc (lv' := [(1, vi 1), (0, vr G 63)]) C (by decide) 0 rfl dX5_init_91 94 rfl rfl ?_
  refine z_goto C dX5_init_94 73 (by decide) ?_
  refine z_iload_n C 1 rfl 0 rfl dX5_init_73 74 rfl ?_
  refine z_iconst C dX5_init_74 75 rfl ?_
  refine c_ge_no C dX5_init_75 97 (by decide) 78 rfl (by decide) ?_
  refine z_aload_n C 0 rfl 1 rfl dX5_init_78 79 rfl ?_
  refine c_getR (k2 := 71) C fX5_42 ⟨rfl, by decide, by decide⟩ (by simp [LL]) dX5_init_79 82 rfl ?_
  refine z_iload_n C 1 rfl 0 rfl dX5_init_82 83 rfl ?_
  refine c_new C hR cf9 rfl (uw_in tb_289 rfl) (uw_in tb_291 rfl) (uw_in tb_11 rfl) f1 f2 (by decide) dX5_init_83 86 rfl (k := 73) rfl ?_
  refine zn (10, 45) rfl 74 rfl ?_
  have f1 := frs_m f1 (show 73 ≤ 74 by decide)
  have f2 := frs_m f2 (show 73 ≤ 74 by decide)
  refine z_dup C rfl dX5_init_86 87 rfl ?_
  refine c_callI C hR (ti_73 (mL X) G _ _ f1 f2) mwX9_init miX9_init rfl (Or.inr ⟨RX10, by decide⟩) rfl rfl (Nat.le_of_ble_eq_true rfl) (by decide) (by decide) dX5_init_87 90 rfl ?_
  refine zn (10, 45) rfl 74 rfl ?_
  refine c_aast (t := 2) (N := 3) C (by decide) cf9 rfl ⟨rfl, by decide, by decide⟩ ⟨rfl, by decide, by decide⟩ dX5_init_90 91 rfl (w32_id (a := 1) (by decide)) (by decide) ?_
  have f1 := frs_c (e := (71, 1, 73)) (show (71 : Int) < ((74 : Nat) : Int) by decide) f1
  refine z_iinc (lv' := [(1, vi 2), (0, vr G 63)]) C (by decide) 0 rfl dX5_init_91 94 rfl rfl ?_
  refine z_goto C dX5_init_94 73 (by decide) ?_
  refine z_iload_n C 1 rfl 0 rfl dX5_init_73 74 rfl ?_
  refine z_iconst C dX5_init_74 75 rfl ?_
  refine c_ge_no C dX5_init_75 97 (by decide) 78 rfl (by decide) ?_
  refine z_aload_n C 0 rfl 1 rfl dX5_init_78 79 rfl ?_
  refine c_getR (k2 := 71) C fX5_42 ⟨rfl, by decide, by decide⟩ (by simp [LL]) dX5_init_79 82 rfl ?_
  refine z_iload_n C 1 rfl 0 rfl dX5_init_82 83 rfl ?_
  refine c_new C hR cf9 rfl (uw_in tb_289 rfl) (uw_in tb_291 rfl) (uw_in tb_11 rfl) f1 f2 (by decide) dX5_init_83 86 rfl (k := 74) rfl ?_
  refine zn (11, 49) rfl 75 rfl ?_
  have f1 := frs_m f1 (show 74 ≤ 75 by decide)
  have f2 := frs_m f2 (show 74 ≤ 75 by decide)
  refine z_dup C rfl dX5_init_86 87 rfl ?_
  refine c_callI C hR (ti_74 (mL X) G _ _ f1 f2) mwX9_init miX9_init rfl (Or.inr ⟨RX10, by decide⟩) rfl rfl (Nat.le_of_ble_eq_true rfl) (by decide) (by decide) dX5_init_87 90 rfl ?_
  refine zn (11, 49) rfl 75 rfl ?_
  refine c_aast (t := 2) (N := 3) C (by decide) cf9 rfl ⟨rfl, by decide, by decide⟩ ⟨rfl, by decide, by decide⟩ dX5_init_90 91 rfl (w32_id (a := 2) (by decide)) (by decide) ?_
  have f1 := frs_c (e := (71, 2, 74)) (show (71 : Int) < ((75 : Nat) : Int) by decide) f1
  refine z_iinc (lv' := [(1, vi 3), (0, vr G 63)]) C (by decide) 0 rfl dX5_init_91 94 rfl rfl ?_
  refine z_goto C dX5_init_94 73 (by decide) ?_
  refine z_iload_n C 1 rfl 0 rfl dX5_init_73 74 rfl ?_
  refine z_iconst C dX5_init_74 75 rfl ?_
  refine c_ge_yes C dX5_init_75 97 (by decide) 78 rfl (by decide) ?_
  exact z_vret C R rfl rfl dX5_init_97
def rmI81 : Room := { frames := 1, cells := 0, slots := 0, locals := 30 }
set_option maxRecDepth 100000 in
set_option maxHeartbeats 4000000 in
theorem ti_81 (l : Launch) (G : GG) (l1 l2 : List (Int × Int × Int)) (f1 : frs 82 l1) (f2 : frs 82 l2) : Ctr l G yX2_init cX2_init 1 none rmI81 [vr G 81] (wl 82 l1 l2) (fun _ : Unit => none) (fun _ : Unit => wl 82 (l1) ((81, 0, -1) :: l2)) (some ()) := by
  refine ctr_of (by decide) (Nat.le_of_ble_eq_true rfl) mwX2_init.1 (fun X hl hR C R hnm => ?_)
  subst hl
  refine z_lv (lv' := [(0, vr G 81)]) [0] rfl ?_
  refine z_aload_n C 0 rfl 0 rfl dX2_init_0 1 rfl ?_
  refine c_obj C hR loX2 (Nat.le_of_ble_eq_true rfl) (by decide) dX2_init_1 4 rfl ?_
  refine z_aload_n C 0 rfl 0 rfl dX2_init_4 5 rfl ?_
  refine z_iconst C dX2_init_5 6 rfl ?_
  refine c_putI C fX2_9 ⟨rfl, by decide, by decide⟩ dX2_init_6 9 rfl ?_
  have f2 := frs_c (e := (81, 0, -1)) (show (81 : Int) < ((82 : Nat) : Int) by decide) f2
  exact z_vret C R rfl rfl dX2_init_9
def rmI82 : Room := { frames := 1, cells := 0, slots := 0, locals := 30 }
set_option maxRecDepth 100000 in
set_option maxHeartbeats 4000000 in
theorem ti_82 (l : Launch) (G : GG) (l1 l2 : List (Int × Int × Int)) (f1 : frs 83 l1) (f2 : frs 83 l2) : Ctr l G yX2_init cX2_init 1 none rmI82 [vr G 82] (wl 83 l1 l2) (fun _ : Unit => none) (fun _ : Unit => wl 83 (l1) ((82, 0, -1) :: l2)) (some ()) := by
  refine ctr_of (by decide) (Nat.le_of_ble_eq_true rfl) mwX2_init.1 (fun X hl hR C R hnm => ?_)
  subst hl
  refine z_lv (lv' := [(0, vr G 82)]) [0] rfl ?_
  refine z_aload_n C 0 rfl 0 rfl dX2_init_0 1 rfl ?_
  refine c_obj C hR loX2 (Nat.le_of_ble_eq_true rfl) (by decide) dX2_init_1 4 rfl ?_
  refine z_aload_n C 0 rfl 0 rfl dX2_init_4 5 rfl ?_
  refine z_iconst C dX2_init_5 6 rfl ?_
  refine c_putI C fX2_9 ⟨rfl, by decide, by decide⟩ dX2_init_6 9 rfl ?_
  have f2 := frs_c (e := (82, 0, -1)) (show (82 : Int) < ((83 : Nat) : Int) by decide) f2
  exact z_vret C R rfl rfl dX2_init_9
def rmI84 : Room := { frames := 1, cells := 0, slots := 0, locals := 30 }
set_option maxRecDepth 100000 in
set_option maxHeartbeats 4000000 in
theorem ti_84 (l : Launch) (G : GG) (l1 l2 : List (Int × Int × Int)) (f1 : frs 85 l1) (f2 : frs 85 l2) : Ctr l G yX9_init cX9_init 1 none rmI84 [vr G 84] (wl 85 l1 l2) (fun _ : Unit => none) (fun _ : Unit => wl 85 (l1) (l2)) (some ()) := by
  refine ctr_of (by decide) (Nat.le_of_ble_eq_true rfl) mwX9_init.1 (fun X hl hR C R hnm => ?_)
  subst hl
  refine z_lv (lv' := [(0, vr G 84)]) [0] rfl ?_
  refine z_aload_n C 0 rfl 0 rfl dX9_init_0 1 rfl ?_
  refine c_obj C hR loX9 (Nat.le_of_ble_eq_true rfl) (by decide) dX9_init_1 4 rfl ?_
  exact z_vret C R rfl rfl dX9_init_4
def rmI85 : Room := { frames := 1, cells := 0, slots := 0, locals := 30 }
set_option maxRecDepth 100000 in
set_option maxHeartbeats 4000000 in
theorem ti_85 (l : Launch) (G : GG) (l1 l2 : List (Int × Int × Int)) (f1 : frs 86 l1) (f2 : frs 86 l2) : Ctr l G yX9_init cX9_init 1 none rmI85 [vr G 85] (wl 86 l1 l2) (fun _ : Unit => none) (fun _ : Unit => wl 86 (l1) (l2)) (some ()) := by
  refine ctr_of (by decide) (Nat.le_of_ble_eq_true rfl) mwX9_init.1 (fun X hl hR C R hnm => ?_)
  subst hl
  refine z_lv (lv' := [(0, vr G 85)]) [0] rfl ?_
  refine z_aload_n C 0 rfl 0 rfl dX9_init_0 1 rfl ?_
  refine c_obj C hR loX9 (Nat.le_of_ble_eq_true rfl) (by decide) dX9_init_1 4 rfl ?_
  exact z_vret C R rfl rfl dX9_init_4
def rmI86 : Room := { frames := 1, cells := 0, slots := 0, locals := 30 }
set_option maxRecDepth 100000 in
set_option maxHeartbeats 4000000 in
theorem ti_86 (l : Launch) (G : GG) (l1 l2 : List (Int × Int × Int)) (f1 : frs 87 l1) (f2 : frs 87 l2) : Ctr l G yX9_init cX9_init 1 none rmI86 [vr G 86] (wl 87 l1 l2) (fun _ : Unit => none) (fun _ : Unit => wl 87 (l1) (l2)) (some ()) := by
  refine ctr_of (by decide) (Nat.le_of_ble_eq_true rfl) mwX9_init.1 (fun X hl hR C R hnm => ?_)
  subst hl
  refine z_lv (lv' := [(0, vr G 86)]) [0] rfl ?_
  refine z_aload_n C 0 rfl 0 rfl dX9_init_0 1 rfl ?_
  refine c_obj C hR loX9 (Nat.le_of_ble_eq_true rfl) (by decide) dX9_init_1 4 rfl ?_
  exact z_vret C R rfl rfl dX9_init_4
def rmI75 : Room := { frames := 2, cells := 11, slots := 49, locals := 50 }
set_option maxRecDepth 100000 in
set_option maxHeartbeats 4000000 in
theorem ti_75 (l : Launch) (G : GG) (l1 l2 : List (Int × Int × Int)) (f1 : frs 76 l1) (f2 : frs 76 l2) : Ctr l G yX5_init cX5_init 2 none rmI75 [vr G 75] (wl 76 l1 l2) (fun _ : Unit => none) (fun _ : Unit => wl 87 ((83, 2, 86) :: (83, 1, 85) :: (83, 0, 84) :: (75, 7, 83) :: (75, 6, 82) :: (75, 5, 81) :: (75, 4, 80) :: (75, 3, 79) :: (75, 2, 78) :: (75, 1, 77) :: (75, 0, 76) :: l1) ((82, 0, -1) :: (81, 0, -1) :: l2)) (some ()) := by
  refine ctr_of (by decide) (Nat.le_of_ble_eq_true rfl) mwX5_init.1 (fun X hl hR C R hnm => ?_)
  subst hl
  refine z_lv (lv' := [(0, vr G 75)]) [0] rfl ?_
  refine z_aload_n C 0 rfl 0 rfl dX5_init_0 1 rfl ?_
  refine c_obj C hR loX5 (Nat.le_of_ble_eq_true rfl) (by decide) dX5_init_1 4 rfl ?_
  refine z_aload_n C 0 rfl 0 rfl dX5_init_4 5 rfl ?_
  refine z_bipush C (by decide) dX5_init_5 7 rfl ?_
  refine c_newa (t := 1) (N := 6) C hR (uw_in tb_82 rfl) (Or.inl ⟨rfl, rfl⟩) rfl f2 ⟨w32_id (a := 6) (by decide), by decide⟩ (by decide) dX5_init_7 9 rfl (k := 76) rfl ?_
  refine zn (1, 6) rfl 77 rfl ?_
  have f1 := frs_m f1 (show 76 ≤ 77 by decide)
  have f2 := frs_m f2 (show 76 ≤ 77 by decide)
  refine c_putF C hnm fFX5_11 ⟨rfl, by decide, by decide⟩ (by decide) dX5_init_9 12 rfl ?_
  have f1 := frs_c (e := (75, 0, 76)) (show (75 : Int) < ((77 : Nat) : Int) by decide) f1
  refine z_aload_n C 0 rfl 0 rfl dX5_init_12 13 rfl ?_
  refine z_bipush C (by decide) dX5_init_13 15 rfl ?_
  refine c_newa (t := 3) (N := 6) C hR (uw_in tb_138 rfl) (Or.inr (Or.inr ⟨rfl, rfl⟩)) rfl f2 ⟨w32_id (a := 6) (by decide), by decide⟩ (by decide) dX5_init_15 17 rfl (k := 77) rfl ?_
  refine zn (2, 12) rfl 78 rfl ?_
  have f1 := frs_m f1 (show 77 ≤ 78 by decide)
  have f2 := frs_m f2 (show 77 ≤ 78 by decide)
  refine c_putF C hnm fFX5_17 ⟨rfl, by decide, by decide⟩ (by decide) dX5_init_17 20 rfl ?_
  have f1 := frs_c (e := (75, 1, 77)) (show (75 : Int) < ((78 : Nat) : Int) by decide) f1
  refine z_aload_n C 0 rfl 0 rfl dX5_init_20 21 rfl ?_
  refine z_iconst C dX5_init_21 22 rfl ?_
  refine c_newa (t := 1) (N := 4) C hR (uw_in tb_82 rfl) (Or.inl ⟨rfl, rfl⟩) rfl f2 ⟨w32_id (a := 4) (by decide), by decide⟩ (by decide) dX5_init_22 24 rfl (k := 78) rfl ?_
  refine zn (3, 16) rfl 79 rfl ?_
  have f1 := frs_m f1 (show 78 ≤ 79 by decide)
  have f2 := frs_m f2 (show 78 ≤ 79 by decide)
  refine c_putF C hnm fFX5_21 ⟨rfl, by decide, by decide⟩ (by decide) dX5_init_24 27 rfl ?_
  have f1 := frs_c (e := (75, 2, 78)) (show (75 : Int) < ((79 : Nat) : Int) by decide) f1
  refine z_aload_n C 0 rfl 0 rfl dX5_init_27 28 rfl ?_
  refine z_iconst C dX5_init_28 29 rfl ?_
  refine c_newa (t := 3) (N := 4) C hR (uw_in tb_138 rfl) (Or.inr (Or.inr ⟨rfl, rfl⟩)) rfl f2 ⟨w32_id (a := 4) (by decide), by decide⟩ (by decide) dX5_init_29 31 rfl (k := 79) rfl ?_
  refine zn (4, 20) rfl 80 rfl ?_
  have f1 := frs_m f1 (show 79 ≤ 80 by decide)
  have f2 := frs_m f2 (show 79 ≤ 80 by decide)
  refine c_putF C hnm fFX5_24 ⟨rfl, by decide, by decide⟩ (by decide) dX5_init_31 34 rfl ?_
  have f1 := frs_c (e := (75, 3, 79)) (show (75 : Int) < ((80 : Nat) : Int) by decide) f1
  refine z_aload_n C 0 rfl 0 rfl dX5_init_34 35 rfl ?_
  refine z_iconst C dX5_init_35 36 rfl ?_
  refine c_newa (t := 1) (N := 4) C hR (uw_in tb_82 rfl) (Or.inl ⟨rfl, rfl⟩) rfl f2 ⟨w32_id (a := 4) (by decide), by decide⟩ (by decide) dX5_init_36 38 rfl (k := 80) rfl ?_
  refine zn (5, 24) rfl 81 rfl ?_
  have f1 := frs_m f1 (show 80 ≤ 81 by decide)
  have f2 := frs_m f2 (show 80 ≤ 81 by decide)
  refine c_putF C hnm fFX5_27 ⟨rfl, by decide, by decide⟩ (by decide) dX5_init_38 41 rfl ?_
  have f1 := frs_c (e := (75, 4, 80)) (show (75 : Int) < ((81 : Nat) : Int) by decide) f1
  refine z_aload_n C 0 rfl 0 rfl dX5_init_41 42 rfl ?_
  refine c_new C hR cf2 rfl (uw_in tb_263 rfl) (uw_in tb_264 rfl) (uw_in tb_10 rfl) f1 f2 (by decide) dX5_init_42 45 rfl (k := 81) rfl ?_
  refine zn (6, 29) rfl 82 rfl ?_
  have f1 := frs_m f1 (show 81 ≤ 82 by decide)
  have f2 := frs_m f2 (show 81 ≤ 82 by decide)
  refine z_dup C rfl dX5_init_45 46 rfl ?_
  refine c_callI C hR (ti_81 (mL X) G _ _ f1 f2) mwX2_init miX2_init rfl (Or.inr ⟨RX10, by decide⟩) rfl rfl (Nat.le_of_ble_eq_true rfl) (by decide) (by decide) dX5_init_46 49 rfl ?_
  refine zn (6, 29) rfl 82 rfl ?_
  have f2 := frs_c (e := (81, 0, -1)) (show (81 : Int) < ((82 : Nat) : Int) by decide) f2
  refine c_putF C hnm fFX5_33 ⟨rfl, by decide, by decide⟩ (by decide) dX5_init_49 52 rfl ?_
  have f1 := frs_c (e := (75, 5, 81)) (show (75 : Int) < ((82 : Nat) : Int) by decide) f1
  refine z_aload_n C 0 rfl 0 rfl dX5_init_52 53 rfl ?_
  refine c_new C hR cf2 rfl (uw_in tb_263 rfl) (uw_in tb_264 rfl) (uw_in tb_10 rfl) f1 f2 (by decide) dX5_init_53 56 rfl (k := 82) rfl ?_
  refine zn (7, 34) rfl 83 rfl ?_
  have f1 := frs_m f1 (show 82 ≤ 83 by decide)
  have f2 := frs_m f2 (show 82 ≤ 83 by decide)
  refine z_dup C rfl dX5_init_56 57 rfl ?_
  refine c_callI C hR (ti_82 (mL X) G _ _ f1 f2) mwX2_init miX2_init rfl (Or.inr ⟨RX10, by decide⟩) rfl rfl (Nat.le_of_ble_eq_true rfl) (by decide) (by decide) dX5_init_57 60 rfl ?_
  refine zn (7, 34) rfl 83 rfl ?_
  have f2 := frs_c (e := (82, 0, -1)) (show (82 : Int) < ((83 : Nat) : Int) by decide) f2
  refine c_putF C hnm fFX5_37 ⟨rfl, by decide, by decide⟩ (by decide) dX5_init_60 63 rfl ?_
  have f1 := frs_c (e := (75, 6, 82)) (show (75 : Int) < ((83 : Nat) : Int) by decide) f1
  refine z_aload_n C 0 rfl 0 rfl dX5_init_63 64 rfl ?_
  refine z_iconst C dX5_init_64 65 rfl ?_
  refine c_anew (t := 2) (N := 3) C hR (by decide) (uw_in tb_289 rfl) rfl f1 ⟨w32_id (a := 3) (by decide), by decide⟩ (by decide) dX5_init_65 68 rfl (k := 83) rfl ?_
  refine zn (8, 37) rfl 84 rfl ?_
  have f1 := frs_m f1 (show 83 ≤ 84 by decide)
  have f2 := frs_m f2 (show 83 ≤ 84 by decide)
  refine c_putF C hnm fFX5_42 ⟨rfl, by decide, by decide⟩ (by decide) dX5_init_68 71 rfl ?_
  have f1 := frs_c (e := (75, 7, 83)) (show (75 : Int) < ((84 : Nat) : Int) by decide) f1
  refine z_iconst C dX5_init_71 72 rfl ?_
  refine z_istore_n (lv' := [(1, vi 0), (0, vr G 75)]) C 1 rfl (by decide) dX5_init_72 73 rfl rfl ?_
  refine z_iload_n C 1 rfl 0 rfl dX5_init_73 74 rfl ?_
  refine z_iconst C dX5_init_74 75 rfl ?_
  refine c_ge_no C dX5_init_75 97 (by decide) 78 rfl (by decide) ?_
  refine z_aload_n C 0 rfl 1 rfl dX5_init_78 79 rfl ?_
  refine c_getR (k2 := 83) C fX5_42 ⟨rfl, by decide, by decide⟩ (by simp [LL]) dX5_init_79 82 rfl ?_
  refine z_iload_n C 1 rfl 0 rfl dX5_init_82 83 rfl ?_
  refine c_new C hR cf9 rfl (uw_in tb_289 rfl) (uw_in tb_291 rfl) (uw_in tb_11 rfl) f1 f2 (by decide) dX5_init_83 86 rfl (k := 84) rfl ?_
  refine zn (9, 41) rfl 85 rfl ?_
  have f1 := frs_m f1 (show 84 ≤ 85 by decide)
  have f2 := frs_m f2 (show 84 ≤ 85 by decide)
  refine z_dup C rfl dX5_init_86 87 rfl ?_
  refine c_callI C hR (ti_84 (mL X) G _ _ f1 f2) mwX9_init miX9_init rfl (Or.inr ⟨RX10, by decide⟩) rfl rfl (Nat.le_of_ble_eq_true rfl) (by decide) (by decide) dX5_init_87 90 rfl ?_
  refine zn (9, 41) rfl 85 rfl ?_
  refine c_aast (t := 2) (N := 3) C (by decide) cf9 rfl ⟨rfl, by decide, by decide⟩ ⟨rfl, by decide, by decide⟩ dX5_init_90 91 rfl (w32_id (a := 0) (by decide)) (by decide) ?_
  have f1 := frs_c (e := (83, 0, 84)) (show (83 : Int) < ((85 : Nat) : Int) by decide) f1
  refine z_iinc (lv' := [(1, vi 1), (0, vr G 75)]) C (by decide) 0 rfl dX5_init_91 94 rfl rfl ?_
  refine z_goto C dX5_init_94 73 (by decide) ?_
  refine z_iload_n C 1 rfl 0 rfl dX5_init_73 74 rfl ?_
  refine z_iconst C dX5_init_74 75 rfl ?_
  refine c_ge_no C dX5_init_75 97 (by decide) 78 rfl (by decide) ?_
  refine z_aload_n C 0 rfl 1 rfl dX5_init_78 79 rfl ?_
  refine c_getR (k2 := 83) C fX5_42 ⟨rfl, by decide, by decide⟩ (by simp [LL]) dX5_init_79 82 rfl ?_
  refine z_iload_n C 1 rfl 0 rfl dX5_init_82 83 rfl ?_
  refine c_new C hR cf9 rfl (uw_in tb_289 rfl) (uw_in tb_291 rfl) (uw_in tb_11 rfl) f1 f2 (by decide) dX5_init_83 86 rfl (k := 85) rfl ?_
  refine zn (10, 45) rfl 86 rfl ?_
  have f1 := frs_m f1 (show 85 ≤ 86 by decide)
  have f2 := frs_m f2 (show 85 ≤ 86 by decide)
  refine z_dup C rfl dX5_init_86 87 rfl ?_
  refine c_callI C hR (ti_85 (mL X) G _ _ f1 f2) mwX9_init miX9_init rfl (Or.inr ⟨RX10, by decide⟩) rfl rfl (Nat.le_of_ble_eq_true rfl) (by decide) (by decide) dX5_init_87 90 rfl ?_
  refine zn (10, 45) rfl 86 rfl ?_
  refine c_aast (t := 2) (N := 3) C (by decide) cf9 rfl ⟨rfl, by decide, by decide⟩ ⟨rfl, by decide, by decide⟩ dX5_init_90 91 rfl (w32_id (a := 1) (by decide)) (by decide) ?_
  have f1 := frs_c (e := (83, 1, 85)) (show (83 : Int) < ((86 : Nat) : Int) by decide) f1
  refine z_iinc (lv' := [(1, vi 2), (0, vr G 75)]) C (by decide) 0 rfl dX5_init_91 94 rfl rfl ?_
  refine z_goto C dX5_init_94 73 (by decide) ?_
  refine z_iload_n C 1 rfl 0 rfl dX5_init_73 74 rfl ?_
  refine z_iconst C dX5_init_74 75 rfl ?_
  refine c_ge_no C dX5_init_75 97 (by decide) 78 rfl (by decide) ?_
  refine z_aload_n C 0 rfl 1 rfl dX5_init_78 79 rfl ?_
  refine c_getR (k2 := 83) C fX5_42 ⟨rfl, by decide, by decide⟩ (by simp [LL]) dX5_init_79 82 rfl ?_
  refine z_iload_n C 1 rfl 0 rfl dX5_init_82 83 rfl ?_
  refine c_new C hR cf9 rfl (uw_in tb_289 rfl) (uw_in tb_291 rfl) (uw_in tb_11 rfl) f1 f2 (by decide) dX5_init_83 86 rfl (k := 86) rfl ?_
  refine zn (11, 49) rfl 87 rfl ?_
  have f1 := frs_m f1 (show 86 ≤ 87 by decide)
  have f2 := frs_m f2 (show 86 ≤ 87 by decide)
  refine z_dup C rfl dX5_init_86 87 rfl ?_
  refine c_callI C hR (ti_86 (mL X) G _ _ f1 f2) mwX9_init miX9_init rfl (Or.inr ⟨RX10, by decide⟩) rfl rfl (Nat.le_of_ble_eq_true rfl) (by decide) (by decide) dX5_init_87 90 rfl ?_
  refine zn (11, 49) rfl 87 rfl ?_
  refine c_aast (t := 2) (N := 3) C (by decide) cf9 rfl ⟨rfl, by decide, by decide⟩ ⟨rfl, by decide, by decide⟩ dX5_init_90 91 rfl (w32_id (a := 2) (by decide)) (by decide) ?_
  have f1 := frs_c (e := (83, 2, 86)) (show (83 : Int) < ((87 : Nat) : Int) by decide) f1
  refine z_iinc (lv' := [(1, vi 3), (0, vr G 75)]) C (by decide) 0 rfl dX5_init_91 94 rfl rfl ?_
  refine z_goto C dX5_init_94 73 (by decide) ?_
  refine z_iload_n C 1 rfl 0 rfl dX5_init_73 74 rfl ?_
  refine z_iconst C dX5_init_74 75 rfl ?_
  refine c_ge_yes C dX5_init_75 97 (by decide) 78 rfl (by decide) ?_
  exact z_vret C R rfl rfl dX5_init_97
def rmI93 : Room := { frames := 1, cells := 0, slots := 0, locals := 30 }
set_option maxRecDepth 100000 in
set_option maxHeartbeats 4000000 in
theorem ti_93 (l : Launch) (G : GG) (l1 l2 : List (Int × Int × Int)) (f1 : frs 94 l1) (f2 : frs 94 l2) : Ctr l G yX2_init cX2_init 1 none rmI93 [vr G 93] (wl 94 l1 l2) (fun _ : Unit => none) (fun _ : Unit => wl 94 (l1) ((93, 0, -1) :: l2)) (some ()) := by
  refine ctr_of (by decide) (Nat.le_of_ble_eq_true rfl) mwX2_init.1 (fun X hl hR C R hnm => ?_)
  subst hl
  refine z_lv (lv' := [(0, vr G 93)]) [0] rfl ?_
  refine z_aload_n C 0 rfl 0 rfl dX2_init_0 1 rfl ?_
  refine c_obj C hR loX2 (Nat.le_of_ble_eq_true rfl) (by decide) dX2_init_1 4 rfl ?_
  refine z_aload_n C 0 rfl 0 rfl dX2_init_4 5 rfl ?_
  refine z_iconst C dX2_init_5 6 rfl ?_
  refine c_putI C fX2_9 ⟨rfl, by decide, by decide⟩ dX2_init_6 9 rfl ?_
  have f2 := frs_c (e := (93, 0, -1)) (show (93 : Int) < ((94 : Nat) : Int) by decide) f2
  exact z_vret C R rfl rfl dX2_init_9
def rmI94 : Room := { frames := 1, cells := 0, slots := 0, locals := 30 }
set_option maxRecDepth 100000 in
set_option maxHeartbeats 4000000 in
theorem ti_94 (l : Launch) (G : GG) (l1 l2 : List (Int × Int × Int)) (f1 : frs 95 l1) (f2 : frs 95 l2) : Ctr l G yX2_init cX2_init 1 none rmI94 [vr G 94] (wl 95 l1 l2) (fun _ : Unit => none) (fun _ : Unit => wl 95 (l1) ((94, 0, -1) :: l2)) (some ()) := by
  refine ctr_of (by decide) (Nat.le_of_ble_eq_true rfl) mwX2_init.1 (fun X hl hR C R hnm => ?_)
  subst hl
  refine z_lv (lv' := [(0, vr G 94)]) [0] rfl ?_
  refine z_aload_n C 0 rfl 0 rfl dX2_init_0 1 rfl ?_
  refine c_obj C hR loX2 (Nat.le_of_ble_eq_true rfl) (by decide) dX2_init_1 4 rfl ?_
  refine z_aload_n C 0 rfl 0 rfl dX2_init_4 5 rfl ?_
  refine z_iconst C dX2_init_5 6 rfl ?_
  refine c_putI C fX2_9 ⟨rfl, by decide, by decide⟩ dX2_init_6 9 rfl ?_
  have f2 := frs_c (e := (94, 0, -1)) (show (94 : Int) < ((95 : Nat) : Int) by decide) f2
  exact z_vret C R rfl rfl dX2_init_9
def rmI96 : Room := { frames := 1, cells := 0, slots := 0, locals := 30 }
set_option maxRecDepth 100000 in
set_option maxHeartbeats 4000000 in
theorem ti_96 (l : Launch) (G : GG) (l1 l2 : List (Int × Int × Int)) (f1 : frs 97 l1) (f2 : frs 97 l2) : Ctr l G yX9_init cX9_init 1 none rmI96 [vr G 96] (wl 97 l1 l2) (fun _ : Unit => none) (fun _ : Unit => wl 97 (l1) (l2)) (some ()) := by
  refine ctr_of (by decide) (Nat.le_of_ble_eq_true rfl) mwX9_init.1 (fun X hl hR C R hnm => ?_)
  subst hl
  refine z_lv (lv' := [(0, vr G 96)]) [0] rfl ?_
  refine z_aload_n C 0 rfl 0 rfl dX9_init_0 1 rfl ?_
  refine c_obj C hR loX9 (Nat.le_of_ble_eq_true rfl) (by decide) dX9_init_1 4 rfl ?_
  exact z_vret C R rfl rfl dX9_init_4
def rmI97 : Room := { frames := 1, cells := 0, slots := 0, locals := 30 }
set_option maxRecDepth 100000 in
set_option maxHeartbeats 4000000 in
theorem ti_97 (l : Launch) (G : GG) (l1 l2 : List (Int × Int × Int)) (f1 : frs 98 l1) (f2 : frs 98 l2) : Ctr l G yX9_init cX9_init 1 none rmI97 [vr G 97] (wl 98 l1 l2) (fun _ : Unit => none) (fun _ : Unit => wl 98 (l1) (l2)) (some ()) := by
  refine ctr_of (by decide) (Nat.le_of_ble_eq_true rfl) mwX9_init.1 (fun X hl hR C R hnm => ?_)
  subst hl
  refine z_lv (lv' := [(0, vr G 97)]) [0] rfl ?_
  refine z_aload_n C 0 rfl 0 rfl dX9_init_0 1 rfl ?_
  refine c_obj C hR loX9 (Nat.le_of_ble_eq_true rfl) (by decide) dX9_init_1 4 rfl ?_
  exact z_vret C R rfl rfl dX9_init_4
def rmI98 : Room := { frames := 1, cells := 0, slots := 0, locals := 30 }
set_option maxRecDepth 100000 in
set_option maxHeartbeats 4000000 in
theorem ti_98 (l : Launch) (G : GG) (l1 l2 : List (Int × Int × Int)) (f1 : frs 99 l1) (f2 : frs 99 l2) : Ctr l G yX9_init cX9_init 1 none rmI98 [vr G 98] (wl 99 l1 l2) (fun _ : Unit => none) (fun _ : Unit => wl 99 (l1) (l2)) (some ()) := by
  refine ctr_of (by decide) (Nat.le_of_ble_eq_true rfl) mwX9_init.1 (fun X hl hR C R hnm => ?_)
  subst hl
  refine z_lv (lv' := [(0, vr G 98)]) [0] rfl ?_
  refine z_aload_n C 0 rfl 0 rfl dX9_init_0 1 rfl ?_
  refine c_obj C hR loX9 (Nat.le_of_ble_eq_true rfl) (by decide) dX9_init_1 4 rfl ?_
  exact z_vret C R rfl rfl dX9_init_4
def rmI87 : Room := { frames := 2, cells := 11, slots := 49, locals := 50 }
set_option maxRecDepth 100000 in
set_option maxHeartbeats 4000000 in
theorem ti_87 (l : Launch) (G : GG) (l1 l2 : List (Int × Int × Int)) (f1 : frs 88 l1) (f2 : frs 88 l2) : Ctr l G yX5_init cX5_init 2 none rmI87 [vr G 87] (wl 88 l1 l2) (fun _ : Unit => none) (fun _ : Unit => wl 99 ((95, 2, 98) :: (95, 1, 97) :: (95, 0, 96) :: (87, 7, 95) :: (87, 6, 94) :: (87, 5, 93) :: (87, 4, 92) :: (87, 3, 91) :: (87, 2, 90) :: (87, 1, 89) :: (87, 0, 88) :: l1) ((94, 0, -1) :: (93, 0, -1) :: l2)) (some ()) := by
  refine ctr_of (by decide) (Nat.le_of_ble_eq_true rfl) mwX5_init.1 (fun X hl hR C R hnm => ?_)
  subst hl
  refine z_lv (lv' := [(0, vr G 87)]) [0] rfl ?_
  refine z_aload_n C 0 rfl 0 rfl dX5_init_0 1 rfl ?_
  refine c_obj C hR loX5 (Nat.le_of_ble_eq_true rfl) (by decide) dX5_init_1 4 rfl ?_
  refine z_aload_n C 0 rfl 0 rfl dX5_init_4 5 rfl ?_
  refine z_bipush C (by decide) dX5_init_5 7 rfl ?_
  refine c_newa (t := 1) (N := 6) C hR (uw_in tb_82 rfl) (Or.inl ⟨rfl, rfl⟩) rfl f2 ⟨w32_id (a := 6) (by decide), by decide⟩ (by decide) dX5_init_7 9 rfl (k := 88) rfl ?_
  refine zn (1, 6) rfl 89 rfl ?_
  have f1 := frs_m f1 (show 88 ≤ 89 by decide)
  have f2 := frs_m f2 (show 88 ≤ 89 by decide)
  refine c_putF C hnm fFX5_11 ⟨rfl, by decide, by decide⟩ (by decide) dX5_init_9 12 rfl ?_
  have f1 := frs_c (e := (87, 0, 88)) (show (87 : Int) < ((89 : Nat) : Int) by decide) f1
  refine z_aload_n C 0 rfl 0 rfl dX5_init_12 13 rfl ?_
  refine z_bipush C (by decide) dX5_init_13 15 rfl ?_
  refine c_newa (t := 3) (N := 6) C hR (uw_in tb_138 rfl) (Or.inr (Or.inr ⟨rfl, rfl⟩)) rfl f2 ⟨w32_id (a := 6) (by decide), by decide⟩ (by decide) dX5_init_15 17 rfl (k := 89) rfl ?_
  refine zn (2, 12) rfl 90 rfl ?_
  have f1 := frs_m f1 (show 89 ≤ 90 by decide)
  have f2 := frs_m f2 (show 89 ≤ 90 by decide)
  refine c_putF C hnm fFX5_17 ⟨rfl, by decide, by decide⟩ (by decide) dX5_init_17 20 rfl ?_
  have f1 := frs_c (e := (87, 1, 89)) (show (87 : Int) < ((90 : Nat) : Int) by decide) f1
  refine z_aload_n C 0 rfl 0 rfl dX5_init_20 21 rfl ?_
  refine z_iconst C dX5_init_21 22 rfl ?_
  refine c_newa (t := 1) (N := 4) C hR (uw_in tb_82 rfl) (Or.inl ⟨rfl, rfl⟩) rfl f2 ⟨w32_id (a := 4) (by decide), by decide⟩ (by decide) dX5_init_22 24 rfl (k := 90) rfl ?_
  refine zn (3, 16) rfl 91 rfl ?_
  have f1 := frs_m f1 (show 90 ≤ 91 by decide)
  have f2 := frs_m f2 (show 90 ≤ 91 by decide)
  refine c_putF C hnm fFX5_21 ⟨rfl, by decide, by decide⟩ (by decide) dX5_init_24 27 rfl ?_
  have f1 := frs_c (e := (87, 2, 90)) (show (87 : Int) < ((91 : Nat) : Int) by decide) f1
  refine z_aload_n C 0 rfl 0 rfl dX5_init_27 28 rfl ?_
  refine z_iconst C dX5_init_28 29 rfl ?_
  refine c_newa (t := 3) (N := 4) C hR (uw_in tb_138 rfl) (Or.inr (Or.inr ⟨rfl, rfl⟩)) rfl f2 ⟨w32_id (a := 4) (by decide), by decide⟩ (by decide) dX5_init_29 31 rfl (k := 91) rfl ?_
  refine zn (4, 20) rfl 92 rfl ?_
  have f1 := frs_m f1 (show 91 ≤ 92 by decide)
  have f2 := frs_m f2 (show 91 ≤ 92 by decide)
  refine c_putF C hnm fFX5_24 ⟨rfl, by decide, by decide⟩ (by decide) dX5_init_31 34 rfl ?_
  have f1 := frs_c (e := (87, 3, 91)) (show (87 : Int) < ((92 : Nat) : Int) by decide) f1
  refine z_aload_n C 0 rfl 0 rfl dX5_init_34 35 rfl ?_
  refine z_iconst C dX5_init_35 36 rfl ?_
  refine c_newa (t := 1) (N := 4) C hR (uw_in tb_82 rfl) (Or.inl ⟨rfl, rfl⟩) rfl f2 ⟨w32_id (a := 4) (by decide), by decide⟩ (by decide) dX5_init_36 38 rfl (k := 92) rfl ?_
  refine zn (5, 24) rfl 93 rfl ?_
  have f1 := frs_m f1 (show 92 ≤ 93 by decide)
  have f2 := frs_m f2 (show 92 ≤ 93 by decide)
  refine c_putF C hnm fFX5_27 ⟨rfl, by decide, by decide⟩ (by decide) dX5_init_38 41 rfl ?_
  have f1 := frs_c (e := (87, 4, 92)) (show (87 : Int) < ((93 : Nat) : Int) by decide) f1
  refine z_aload_n C 0 rfl 0 rfl dX5_init_41 42 rfl ?_
  refine c_new C hR cf2 rfl (uw_in tb_263 rfl) (uw_in tb_264 rfl) (uw_in tb_10 rfl) f1 f2 (by decide) dX5_init_42 45 rfl (k := 93) rfl ?_
  refine zn (6, 29) rfl 94 rfl ?_
  have f1 := frs_m f1 (show 93 ≤ 94 by decide)
  have f2 := frs_m f2 (show 93 ≤ 94 by decide)
  refine z_dup C rfl dX5_init_45 46 rfl ?_
  refine c_callI C hR (ti_93 (mL X) G _ _ f1 f2) mwX2_init miX2_init rfl (Or.inr ⟨RX10, by decide⟩) rfl rfl (Nat.le_of_ble_eq_true rfl) (by decide) (by decide) dX5_init_46 49 rfl ?_
  refine zn (6, 29) rfl 94 rfl ?_
  have f2 := frs_c (e := (93, 0, -1)) (show (93 : Int) < ((94 : Nat) : Int) by decide) f2
  refine c_putF C hnm fFX5_33 ⟨rfl, by decide, by decide⟩ (by decide) dX5_init_49 52 rfl ?_
  have f1 := frs_c (e := (87, 5, 93)) (show (87 : Int) < ((94 : Nat) : Int) by decide) f1
  refine z_aload_n C 0 rfl 0 rfl dX5_init_52 53 rfl ?_
  refine c_new C hR cf2 rfl (uw_in tb_263 rfl) (uw_in tb_264 rfl) (uw_in tb_10 rfl) f1 f2 (by decide) dX5_init_53 56 rfl (k := 94) rfl ?_
  refine zn (7, 34) rfl 95 rfl ?_
  have f1 := frs_m f1 (show 94 ≤ 95 by decide)
  have f2 := frs_m f2 (show 94 ≤ 95 by decide)
  refine z_dup C rfl dX5_init_56 57 rfl ?_
  refine c_callI C hR (ti_94 (mL X) G _ _ f1 f2) mwX2_init miX2_init rfl (Or.inr ⟨RX10, by decide⟩) rfl rfl (Nat.le_of_ble_eq_true rfl) (by decide) (by decide) dX5_init_57 60 rfl ?_
  refine zn (7, 34) rfl 95 rfl ?_
  have f2 := frs_c (e := (94, 0, -1)) (show (94 : Int) < ((95 : Nat) : Int) by decide) f2
  refine c_putF C hnm fFX5_37 ⟨rfl, by decide, by decide⟩ (by decide) dX5_init_60 63 rfl ?_
  have f1 := frs_c (e := (87, 6, 94)) (show (87 : Int) < ((95 : Nat) : Int) by decide) f1
  refine z_aload_n C 0 rfl 0 rfl dX5_init_63 64 rfl ?_
  refine z_iconst C dX5_init_64 65 rfl ?_
  refine c_anew (t := 2) (N := 3) C hR (by decide) (uw_in tb_289 rfl) rfl f1 ⟨w32_id (a := 3) (by decide), by decide⟩ (by decide) dX5_init_65 68 rfl (k := 95) rfl ?_
  refine zn (8, 37) rfl 96 rfl ?_
  have f1 := frs_m f1 (show 95 ≤ 96 by decide)
  have f2 := frs_m f2 (show 95 ≤ 96 by decide)
  refine c_putF C hnm fFX5_42 ⟨rfl, by decide, by decide⟩ (by decide) dX5_init_68 71 rfl ?_
  have f1 := frs_c (e := (87, 7, 95)) (show (87 : Int) < ((96 : Nat) : Int) by decide) f1
  refine z_iconst C dX5_init_71 72 rfl ?_
  refine z_istore_n (lv' := [(1, vi 0), (0, vr G 87)]) C 1 rfl (by decide) dX5_init_72 73 rfl rfl ?_
  refine z_iload_n C 1 rfl 0 rfl dX5_init_73 74 rfl ?_
  refine z_iconst C dX5_init_74 75 rfl ?_
  refine c_ge_no C dX5_init_75 97 (by decide) 78 rfl (by decide) ?_
  refine z_aload_n C 0 rfl 1 rfl dX5_init_78 79 rfl ?_
  refine c_getR (k2 := 95) C fX5_42 ⟨rfl, by decide, by decide⟩ (by simp [LL]) dX5_init_79 82 rfl ?_
  refine z_iload_n C 1 rfl 0 rfl dX5_init_82 83 rfl ?_
  refine c_new C hR cf9 rfl (uw_in tb_289 rfl) (uw_in tb_291 rfl) (uw_in tb_11 rfl) f1 f2 (by decide) dX5_init_83 86 rfl (k := 96) rfl ?_
  refine zn (9, 41) rfl 97 rfl ?_
  have f1 := frs_m f1 (show 96 ≤ 97 by decide)
  have f2 := frs_m f2 (show 96 ≤ 97 by decide)
  refine z_dup C rfl dX5_init_86 87 rfl ?_
  refine c_callI C hR (ti_96 (mL X) G _ _ f1 f2) mwX9_init miX9_init rfl (Or.inr ⟨RX10, by decide⟩) rfl rfl (Nat.le_of_ble_eq_true rfl) (by decide) (by decide) dX5_init_87 90 rfl ?_
  refine zn (9, 41) rfl 97 rfl ?_
  refine c_aast (t := 2) (N := 3) C (by decide) cf9 rfl ⟨rfl, by decide, by decide⟩ ⟨rfl, by decide, by decide⟩ dX5_init_90 91 rfl (w32_id (a := 0) (by decide)) (by decide) ?_
  have f1 := frs_c (e := (95, 0, 96)) (show (95 : Int) < ((97 : Nat) : Int) by decide) f1
  refine z_iinc (lv' := [(1, vi 1), (0, vr G 87)]) C (by decide) 0 rfl dX5_init_91 94 rfl rfl ?_
  refine z_goto C dX5_init_94 73 (by decide) ?_
  refine z_iload_n C 1 rfl 0 rfl dX5_init_73 74 rfl ?_
  refine z_iconst C dX5_init_74 75 rfl ?_
  refine c_ge_no C dX5_init_75 97 (by decide) 78 rfl (by decide) ?_
  refine z_aload_n C 0 rfl 1 rfl dX5_init_78 79 rfl ?_
  refine c_getR (k2 := 95) C fX5_42 ⟨rfl, by decide, by decide⟩ (by simp [LL]) dX5_init_79 82 rfl ?_
  refine z_iload_n C 1 rfl 0 rfl dX5_init_82 83 rfl ?_
  refine c_new C hR cf9 rfl (uw_in tb_289 rfl) (uw_in tb_291 rfl) (uw_in tb_11 rfl) f1 f2 (by decide) dX5_init_83 86 rfl (k := 97) rfl ?_
  refine zn (10, 45) rfl 98 rfl ?_
  have f1 := frs_m f1 (show 97 ≤ 98 by decide)
  have f2 := frs_m f2 (show 97 ≤ 98 by decide)
  refine z_dup C rfl dX5_init_86 87 rfl ?_
  refine c_callI C hR (ti_97 (mL X) G _ _ f1 f2) mwX9_init miX9_init rfl (Or.inr ⟨RX10, by decide⟩) rfl rfl (Nat.le_of_ble_eq_true rfl) (by decide) (by decide) dX5_init_87 90 rfl ?_
  refine zn (10, 45) rfl 98 rfl ?_
  refine c_aast (t := 2) (N := 3) C (by decide) cf9 rfl ⟨rfl, by decide, by decide⟩ ⟨rfl, by decide, by decide⟩ dX5_init_90 91 rfl (w32_id (a := 1) (by decide)) (by decide) ?_
  have f1 := frs_c (e := (95, 1, 97)) (show (95 : Int) < ((98 : Nat) : Int) by decide) f1
  refine z_iinc (lv' := [(1, vi 2), (0, vr G 87)]) C (by decide) 0 rfl dX5_init_91 94 rfl rfl ?_
  refine z_goto C dX5_init_94 73 (by decide) ?_
  refine z_iload_n C 1 rfl 0 rfl dX5_init_73 74 rfl ?_
  refine z_iconst C dX5_init_74 75 rfl ?_
  refine c_ge_no C dX5_init_75 97 (by decide) 78 rfl (by decide) ?_
  refine z_aload_n C 0 rfl 1 rfl dX5_init_78 79 rfl ?_
  refine c_getR (k2 := 95) C fX5_42 ⟨rfl, by decide, by decide⟩ (by simp [LL]) dX5_init_79 82 rfl ?_
  refine z_iload_n C 1 rfl 0 rfl dX5_init_82 83 rfl ?_
  refine c_new C hR cf9 rfl (uw_in tb_289 rfl) (uw_in tb_291 rfl) (uw_in tb_11 rfl) f1 f2 (by decide) dX5_init_83 86 rfl (k := 98) rfl ?_
  refine zn (11, 49) rfl 99 rfl ?_
  have f1 := frs_m f1 (show 98 ≤ 99 by decide)
  have f2 := frs_m f2 (show 98 ≤ 99 by decide)
  refine z_dup C rfl dX5_init_86 87 rfl ?_
  refine c_callI C hR (ti_98 (mL X) G _ _ f1 f2) mwX9_init miX9_init rfl (Or.inr ⟨RX10, by decide⟩) rfl rfl (Nat.le_of_ble_eq_true rfl) (by decide) (by decide) dX5_init_87 90 rfl ?_
  refine zn (11, 49) rfl 99 rfl ?_
  refine c_aast (t := 2) (N := 3) C (by decide) cf9 rfl ⟨rfl, by decide, by decide⟩ ⟨rfl, by decide, by decide⟩ dX5_init_90 91 rfl (w32_id (a := 2) (by decide)) (by decide) ?_
  have f1 := frs_c (e := (95, 2, 98)) (show (95 : Int) < ((99 : Nat) : Int) by decide) f1
  refine z_iinc (lv' := [(1, vi 3), (0, vr G 87)]) C (by decide) 0 rfl dX5_init_91 94 rfl rfl ?_
  refine z_goto C dX5_init_94 73 (by decide) ?_
  refine z_iload_n C 1 rfl 0 rfl dX5_init_73 74 rfl ?_
  refine z_iconst C dX5_init_74 75 rfl ?_
  refine c_ge_yes C dX5_init_75 97 (by decide) 78 rfl (by decide) ?_
  exact z_vret C R rfl rfl dX5_init_97
def rmI105 : Room := { frames := 1, cells := 0, slots := 0, locals := 30 }
set_option maxRecDepth 100000 in
set_option maxHeartbeats 4000000 in
theorem ti_105 (l : Launch) (G : GG) (l1 l2 : List (Int × Int × Int)) (f1 : frs 106 l1) (f2 : frs 106 l2) : Ctr l G yX2_init cX2_init 1 none rmI105 [vr G 105] (wl 106 l1 l2) (fun _ : Unit => none) (fun _ : Unit => wl 106 (l1) ((105, 0, -1) :: l2)) (some ()) := by
  refine ctr_of (by decide) (Nat.le_of_ble_eq_true rfl) mwX2_init.1 (fun X hl hR C R hnm => ?_)
  subst hl
  refine z_lv (lv' := [(0, vr G 105)]) [0] rfl ?_
  refine z_aload_n C 0 rfl 0 rfl dX2_init_0 1 rfl ?_
  refine c_obj C hR loX2 (Nat.le_of_ble_eq_true rfl) (by decide) dX2_init_1 4 rfl ?_
  refine z_aload_n C 0 rfl 0 rfl dX2_init_4 5 rfl ?_
  refine z_iconst C dX2_init_5 6 rfl ?_
  refine c_putI C fX2_9 ⟨rfl, by decide, by decide⟩ dX2_init_6 9 rfl ?_
  have f2 := frs_c (e := (105, 0, -1)) (show (105 : Int) < ((106 : Nat) : Int) by decide) f2
  exact z_vret C R rfl rfl dX2_init_9
def rmI106 : Room := { frames := 1, cells := 0, slots := 0, locals := 30 }
set_option maxRecDepth 100000 in
set_option maxHeartbeats 4000000 in
theorem ti_106 (l : Launch) (G : GG) (l1 l2 : List (Int × Int × Int)) (f1 : frs 107 l1) (f2 : frs 107 l2) : Ctr l G yX2_init cX2_init 1 none rmI106 [vr G 106] (wl 107 l1 l2) (fun _ : Unit => none) (fun _ : Unit => wl 107 (l1) ((106, 0, -1) :: l2)) (some ()) := by
  refine ctr_of (by decide) (Nat.le_of_ble_eq_true rfl) mwX2_init.1 (fun X hl hR C R hnm => ?_)
  subst hl
  refine z_lv (lv' := [(0, vr G 106)]) [0] rfl ?_
  refine z_aload_n C 0 rfl 0 rfl dX2_init_0 1 rfl ?_
  refine c_obj C hR loX2 (Nat.le_of_ble_eq_true rfl) (by decide) dX2_init_1 4 rfl ?_
  refine z_aload_n C 0 rfl 0 rfl dX2_init_4 5 rfl ?_
  refine z_iconst C dX2_init_5 6 rfl ?_
  refine c_putI C fX2_9 ⟨rfl, by decide, by decide⟩ dX2_init_6 9 rfl ?_
  have f2 := frs_c (e := (106, 0, -1)) (show (106 : Int) < ((107 : Nat) : Int) by decide) f2
  exact z_vret C R rfl rfl dX2_init_9
def rmI108 : Room := { frames := 1, cells := 0, slots := 0, locals := 30 }
set_option maxRecDepth 100000 in
set_option maxHeartbeats 4000000 in
theorem ti_108 (l : Launch) (G : GG) (l1 l2 : List (Int × Int × Int)) (f1 : frs 109 l1) (f2 : frs 109 l2) : Ctr l G yX9_init cX9_init 1 none rmI108 [vr G 108] (wl 109 l1 l2) (fun _ : Unit => none) (fun _ : Unit => wl 109 (l1) (l2)) (some ()) := by
  refine ctr_of (by decide) (Nat.le_of_ble_eq_true rfl) mwX9_init.1 (fun X hl hR C R hnm => ?_)
  subst hl
  refine z_lv (lv' := [(0, vr G 108)]) [0] rfl ?_
  refine z_aload_n C 0 rfl 0 rfl dX9_init_0 1 rfl ?_
  refine c_obj C hR loX9 (Nat.le_of_ble_eq_true rfl) (by decide) dX9_init_1 4 rfl ?_
  exact z_vret C R rfl rfl dX9_init_4
def rmI109 : Room := { frames := 1, cells := 0, slots := 0, locals := 30 }
set_option maxRecDepth 100000 in
set_option maxHeartbeats 4000000 in
theorem ti_109 (l : Launch) (G : GG) (l1 l2 : List (Int × Int × Int)) (f1 : frs 110 l1) (f2 : frs 110 l2) : Ctr l G yX9_init cX9_init 1 none rmI109 [vr G 109] (wl 110 l1 l2) (fun _ : Unit => none) (fun _ : Unit => wl 110 (l1) (l2)) (some ()) := by
  refine ctr_of (by decide) (Nat.le_of_ble_eq_true rfl) mwX9_init.1 (fun X hl hR C R hnm => ?_)
  subst hl
  refine z_lv (lv' := [(0, vr G 109)]) [0] rfl ?_
  refine z_aload_n C 0 rfl 0 rfl dX9_init_0 1 rfl ?_
  refine c_obj C hR loX9 (Nat.le_of_ble_eq_true rfl) (by decide) dX9_init_1 4 rfl ?_
  exact z_vret C R rfl rfl dX9_init_4
def rmI110 : Room := { frames := 1, cells := 0, slots := 0, locals := 30 }
set_option maxRecDepth 100000 in
set_option maxHeartbeats 4000000 in
theorem ti_110 (l : Launch) (G : GG) (l1 l2 : List (Int × Int × Int)) (f1 : frs 111 l1) (f2 : frs 111 l2) : Ctr l G yX9_init cX9_init 1 none rmI110 [vr G 110] (wl 111 l1 l2) (fun _ : Unit => none) (fun _ : Unit => wl 111 (l1) (l2)) (some ()) := by
  refine ctr_of (by decide) (Nat.le_of_ble_eq_true rfl) mwX9_init.1 (fun X hl hR C R hnm => ?_)
  subst hl
  refine z_lv (lv' := [(0, vr G 110)]) [0] rfl ?_
  refine z_aload_n C 0 rfl 0 rfl dX9_init_0 1 rfl ?_
  refine c_obj C hR loX9 (Nat.le_of_ble_eq_true rfl) (by decide) dX9_init_1 4 rfl ?_
  exact z_vret C R rfl rfl dX9_init_4
def rmI99 : Room := { frames := 2, cells := 11, slots := 49, locals := 50 }
set_option maxRecDepth 100000 in
set_option maxHeartbeats 4000000 in
theorem ti_99 (l : Launch) (G : GG) (l1 l2 : List (Int × Int × Int)) (f1 : frs 100 l1) (f2 : frs 100 l2) : Ctr l G yX5_init cX5_init 2 none rmI99 [vr G 99] (wl 100 l1 l2) (fun _ : Unit => none) (fun _ : Unit => wl 111 ((107, 2, 110) :: (107, 1, 109) :: (107, 0, 108) :: (99, 7, 107) :: (99, 6, 106) :: (99, 5, 105) :: (99, 4, 104) :: (99, 3, 103) :: (99, 2, 102) :: (99, 1, 101) :: (99, 0, 100) :: l1) ((106, 0, -1) :: (105, 0, -1) :: l2)) (some ()) := by
  refine ctr_of (by decide) (Nat.le_of_ble_eq_true rfl) mwX5_init.1 (fun X hl hR C R hnm => ?_)
  subst hl
  refine z_lv (lv' := [(0, vr G 99)]) [0] rfl ?_
  refine z_aload_n C 0 rfl 0 rfl dX5_init_0 1 rfl ?_
  refine c_obj C hR loX5 (Nat.le_of_ble_eq_true rfl) (by decide) dX5_init_1 4 rfl ?_
  refine z_aload_n C 0 rfl 0 rfl dX5_init_4 5 rfl ?_
  refine z_bipush C (by decide) dX5_init_5 7 rfl ?_
  refine c_newa (t := 1) (N := 6) C hR (uw_in tb_82 rfl) (Or.inl ⟨rfl, rfl⟩) rfl f2 ⟨w32_id (a := 6) (by decide), by decide⟩ (by decide) dX5_init_7 9 rfl (k := 100) rfl ?_
  refine zn (1, 6) rfl 101 rfl ?_
  have f1 := frs_m f1 (show 100 ≤ 101 by decide)
  have f2 := frs_m f2 (show 100 ≤ 101 by decide)
  refine c_putF C hnm fFX5_11 ⟨rfl, by decide, by decide⟩ (by decide) dX5_init_9 12 rfl ?_
  have f1 := frs_c (e := (99, 0, 100)) (show (99 : Int) < ((101 : Nat) : Int) by decide) f1
  refine z_aload_n C 0 rfl 0 rfl dX5_init_12 13 rfl ?_
  refine z_bipush C (by decide) dX5_init_13 15 rfl ?_
  refine c_newa (t := 3) (N := 6) C hR (uw_in tb_138 rfl) (Or.inr (Or.inr ⟨rfl, rfl⟩)) rfl f2 ⟨w32_id (a := 6) (by decide), by decide⟩ (by decide) dX5_init_15 17 rfl (k := 101) rfl ?_
  refine zn (2, 12) rfl 102 rfl ?_
  have f1 := frs_m f1 (show 101 ≤ 102 by decide)
  have f2 := frs_m f2 (show 101 ≤ 102 by decide)
  refine c_putF C hnm fFX5_17 ⟨rfl, by decide, by decide⟩ (by decide) dX5_init_17 20 rfl ?_
  have f1 := frs_c (e := (99, 1, 101)) (show (99 : Int) < ((102 : Nat) : Int) by decide) f1
  refine z_aload_n C 0 rfl 0 rfl dX5_init_20 21 rfl ?_
  refine z_iconst C dX5_init_21 22 rfl ?_
  refine c_newa (t := 1) (N := 4) C hR (uw_in tb_82 rfl) (Or.inl ⟨rfl, rfl⟩) rfl f2 ⟨w32_id (a := 4) (by decide), by decide⟩ (by decide) dX5_init_22 24 rfl (k := 102) rfl ?_
  refine zn (3, 16) rfl 103 rfl ?_
  have f1 := frs_m f1 (show 102 ≤ 103 by decide)
  have f2 := frs_m f2 (show 102 ≤ 103 by decide)
  refine c_putF C hnm fFX5_21 ⟨rfl, by decide, by decide⟩ (by decide) dX5_init_24 27 rfl ?_
  have f1 := frs_c (e := (99, 2, 102)) (show (99 : Int) < ((103 : Nat) : Int) by decide) f1
  refine z_aload_n C 0 rfl 0 rfl dX5_init_27 28 rfl ?_
  refine z_iconst C dX5_init_28 29 rfl ?_
  refine c_newa (t := 3) (N := 4) C hR (uw_in tb_138 rfl) (Or.inr (Or.inr ⟨rfl, rfl⟩)) rfl f2 ⟨w32_id (a := 4) (by decide), by decide⟩ (by decide) dX5_init_29 31 rfl (k := 103) rfl ?_
  refine zn (4, 20) rfl 104 rfl ?_
  have f1 := frs_m f1 (show 103 ≤ 104 by decide)
  have f2 := frs_m f2 (show 103 ≤ 104 by decide)
  refine c_putF C hnm fFX5_24 ⟨rfl, by decide, by decide⟩ (by decide) dX5_init_31 34 rfl ?_
  have f1 := frs_c (e := (99, 3, 103)) (show (99 : Int) < ((104 : Nat) : Int) by decide) f1
  refine z_aload_n C 0 rfl 0 rfl dX5_init_34 35 rfl ?_
  refine z_iconst C dX5_init_35 36 rfl ?_
  refine c_newa (t := 1) (N := 4) C hR (uw_in tb_82 rfl) (Or.inl ⟨rfl, rfl⟩) rfl f2 ⟨w32_id (a := 4) (by decide), by decide⟩ (by decide) dX5_init_36 38 rfl (k := 104) rfl ?_
  refine zn (5, 24) rfl 105 rfl ?_
  have f1 := frs_m f1 (show 104 ≤ 105 by decide)
  have f2 := frs_m f2 (show 104 ≤ 105 by decide)
  refine c_putF C hnm fFX5_27 ⟨rfl, by decide, by decide⟩ (by decide) dX5_init_38 41 rfl ?_
  have f1 := frs_c (e := (99, 4, 104)) (show (99 : Int) < ((105 : Nat) : Int) by decide) f1
  refine z_aload_n C 0 rfl 0 rfl dX5_init_41 42 rfl ?_
  refine c_new C hR cf2 rfl (uw_in tb_263 rfl) (uw_in tb_264 rfl) (uw_in tb_10 rfl) f1 f2 (by decide) dX5_init_42 45 rfl (k := 105) rfl ?_
  refine zn (6, 29) rfl 106 rfl ?_
  have f1 := frs_m f1 (show 105 ≤ 106 by decide)
  have f2 := frs_m f2 (show 105 ≤ 106 by decide)
  refine z_dup C rfl dX5_init_45 46 rfl ?_
  refine c_callI C hR (ti_105 (mL X) G _ _ f1 f2) mwX2_init miX2_init rfl (Or.inr ⟨RX10, by decide⟩) rfl rfl (Nat.le_of_ble_eq_true rfl) (by decide) (by decide) dX5_init_46 49 rfl ?_
  refine zn (6, 29) rfl 106 rfl ?_
  have f2 := frs_c (e := (105, 0, -1)) (show (105 : Int) < ((106 : Nat) : Int) by decide) f2
  refine c_putF C hnm fFX5_33 ⟨rfl, by decide, by decide⟩ (by decide) dX5_init_49 52 rfl ?_
  have f1 := frs_c (e := (99, 5, 105)) (show (99 : Int) < ((106 : Nat) : Int) by decide) f1
  refine z_aload_n C 0 rfl 0 rfl dX5_init_52 53 rfl ?_
  refine c_new C hR cf2 rfl (uw_in tb_263 rfl) (uw_in tb_264 rfl) (uw_in tb_10 rfl) f1 f2 (by decide) dX5_init_53 56 rfl (k := 106) rfl ?_
  refine zn (7, 34) rfl 107 rfl ?_
  have f1 := frs_m f1 (show 106 ≤ 107 by decide)
  have f2 := frs_m f2 (show 106 ≤ 107 by decide)
  refine z_dup C rfl dX5_init_56 57 rfl ?_
  refine c_callI C hR (ti_106 (mL X) G _ _ f1 f2) mwX2_init miX2_init rfl (Or.inr ⟨RX10, by decide⟩) rfl rfl (Nat.le_of_ble_eq_true rfl) (by decide) (by decide) dX5_init_57 60 rfl ?_
  refine zn (7, 34) rfl 107 rfl ?_
  have f2 := frs_c (e := (106, 0, -1)) (show (106 : Int) < ((107 : Nat) : Int) by decide) f2
  refine c_putF C hnm fFX5_37 ⟨rfl, by decide, by decide⟩ (by decide) dX5_init_60 63 rfl ?_
  have f1 := frs_c (e := (99, 6, 106)) (show (99 : Int) < ((107 : Nat) : Int) by decide) f1
  refine z_aload_n C 0 rfl 0 rfl dX5_init_63 64 rfl ?_
  refine z_iconst C dX5_init_64 65 rfl ?_
  refine c_anew (t := 2) (N := 3) C hR (by decide) (uw_in tb_289 rfl) rfl f1 ⟨w32_id (a := 3) (by decide), by decide⟩ (by decide) dX5_init_65 68 rfl (k := 107) rfl ?_
  refine zn (8, 37) rfl 108 rfl ?_
  have f1 := frs_m f1 (show 107 ≤ 108 by decide)
  have f2 := frs_m f2 (show 107 ≤ 108 by decide)
  refine c_putF C hnm fFX5_42 ⟨rfl, by decide, by decide⟩ (by decide) dX5_init_68 71 rfl ?_
  have f1 := frs_c (e := (99, 7, 107)) (show (99 : Int) < ((108 : Nat) : Int) by decide) f1
  refine z_iconst C dX5_init_71 72 rfl ?_
  refine z_istore_n (lv' := [(1, vi 0), (0, vr G 99)]) C 1 rfl (by decide) dX5_init_72 73 rfl rfl ?_
  refine z_iload_n C 1 rfl 0 rfl dX5_init_73 74 rfl ?_
  refine z_iconst C dX5_init_74 75 rfl ?_
  refine c_ge_no C dX5_init_75 97 (by decide) 78 rfl (by decide) ?_
  refine z_aload_n C 0 rfl 1 rfl dX5_init_78 79 rfl ?_
  refine c_getR (k2 := 107) C fX5_42 ⟨rfl, by decide, by decide⟩ (by simp [LL]) dX5_init_79 82 rfl ?_
  refine z_iload_n C 1 rfl 0 rfl dX5_init_82 83 rfl ?_
  refine c_new C hR cf9 rfl (uw_in tb_289 rfl) (uw_in tb_291 rfl) (uw_in tb_11 rfl) f1 f2 (by decide) dX5_init_83 86 rfl (k := 108) rfl ?_
  refine zn (9, 41) rfl 109 rfl ?_
  have f1 := frs_m f1 (show 108 ≤ 109 by decide)
  have f2 := frs_m f2 (show 108 ≤ 109 by decide)
  refine z_dup C rfl dX5_init_86 87 rfl ?_
  refine c_callI C hR (ti_108 (mL X) G _ _ f1 f2) mwX9_init miX9_init rfl (Or.inr ⟨RX10, by decide⟩) rfl rfl (Nat.le_of_ble_eq_true rfl) (by decide) (by decide) dX5_init_87 90 rfl ?_
  refine zn (9, 41) rfl 109 rfl ?_
  refine c_aast (t := 2) (N := 3) C (by decide) cf9 rfl ⟨rfl, by decide, by decide⟩ ⟨rfl, by decide, by decide⟩ dX5_init_90 91 rfl (w32_id (a := 0) (by decide)) (by decide) ?_
  have f1 := frs_c (e := (107, 0, 108)) (show (107 : Int) < ((109 : Nat) : Int) by decide) f1
  refine z_iinc (lv' := [(1, vi 1), (0, vr G 99)]) C (by decide) 0 rfl dX5_init_91 94 rfl rfl ?_
  refine z_goto C dX5_init_94 73 (by decide) ?_
  refine z_iload_n C 1 rfl 0 rfl dX5_init_73 74 rfl ?_
  refine z_iconst C dX5_init_74 75 rfl ?_
  refine c_ge_no C dX5_init_75 97 (by decide) 78 rfl (by decide) ?_
  refine z_aload_n C 0 rfl 1 rfl dX5_init_78 79 rfl ?_
  refine c_getR (k2 := 107) C fX5_42 ⟨rfl, by decide, by decide⟩ (by simp [LL]) dX5_init_79 82 rfl ?_
  refine z_iload_n C 1 rfl 0 rfl dX5_init_82 83 rfl ?_
  refine c_new C hR cf9 rfl (uw_in tb_289 rfl) (uw_in tb_291 rfl) (uw_in tb_11 rfl) f1 f2 (by decide) dX5_init_83 86 rfl (k := 109) rfl ?_
  refine zn (10, 45) rfl 110 rfl ?_
  have f1 := frs_m f1 (show 109 ≤ 110 by decide)
  have f2 := frs_m f2 (show 109 ≤ 110 by decide)
  refine z_dup C rfl dX5_init_86 87 rfl ?_
  refine c_callI C hR (ti_109 (mL X) G _ _ f1 f2) mwX9_init miX9_init rfl (Or.inr ⟨RX10, by decide⟩) rfl rfl (Nat.le_of_ble_eq_true rfl) (by decide) (by decide) dX5_init_87 90 rfl ?_
  refine zn (10, 45) rfl 110 rfl ?_
  refine c_aast (t := 2) (N := 3) C (by decide) cf9 rfl ⟨rfl, by decide, by decide⟩ ⟨rfl, by decide, by decide⟩ dX5_init_90 91 rfl (w32_id (a := 1) (by decide)) (by decide) ?_
  have f1 := frs_c (e := (107, 1, 109)) (show (107 : Int) < ((110 : Nat) : Int) by decide) f1
  refine z_iinc (lv' := [(1, vi 2), (0, vr G 99)]) C (by decide) 0 rfl dX5_init_91 94 rfl rfl ?_
  refine z_goto C dX5_init_94 73 (by decide) ?_
  refine z_iload_n C 1 rfl 0 rfl dX5_init_73 74 rfl ?_
  refine z_iconst C dX5_init_74 75 rfl ?_
  refine c_ge_no C dX5_init_75 97 (by decide) 78 rfl (by decide) ?_
  refine z_aload_n C 0 rfl 1 rfl dX5_init_78 79 rfl ?_
  refine c_getR (k2 := 107) C fX5_42 ⟨rfl, by decide, by decide⟩ (by simp [LL]) dX5_init_79 82 rfl ?_
  refine z_iload_n C 1 rfl 0 rfl dX5_init_82 83 rfl ?_
  refine c_new C hR cf9 rfl (uw_in tb_289 rfl) (uw_in tb_291 rfl) (uw_in tb_11 rfl) f1 f2 (by decide) dX5_init_83 86 rfl (k := 110) rfl ?_
  refine zn (11, 49) rfl 111 rfl ?_
  have f1 := frs_m f1 (show 110 ≤ 111 by decide)
  have f2 := frs_m f2 (show 110 ≤ 111 by decide)
  refine z_dup C rfl dX5_init_86 87 rfl ?_
  refine c_callI C hR (ti_110 (mL X) G _ _ f1 f2) mwX9_init miX9_init rfl (Or.inr ⟨RX10, by decide⟩) rfl rfl (Nat.le_of_ble_eq_true rfl) (by decide) (by decide) dX5_init_87 90 rfl ?_
  refine zn (11, 49) rfl 111 rfl ?_
  refine c_aast (t := 2) (N := 3) C (by decide) cf9 rfl ⟨rfl, by decide, by decide⟩ ⟨rfl, by decide, by decide⟩ dX5_init_90 91 rfl (w32_id (a := 2) (by decide)) (by decide) ?_
  have f1 := frs_c (e := (107, 2, 110)) (show (107 : Int) < ((111 : Nat) : Int) by decide) f1
  refine z_iinc (lv' := [(1, vi 3), (0, vr G 99)]) C (by decide) 0 rfl dX5_init_91 94 rfl rfl ?_
  refine z_goto C dX5_init_94 73 (by decide) ?_
  refine z_iload_n C 1 rfl 0 rfl dX5_init_73 74 rfl ?_
  refine z_iconst C dX5_init_74 75 rfl ?_
  refine c_ge_yes C dX5_init_75 97 (by decide) 78 rfl (by decide) ?_
  exact z_vret C R rfl rfl dX5_init_97
def rmI117 : Room := { frames := 1, cells := 0, slots := 0, locals := 30 }
set_option maxRecDepth 100000 in
set_option maxHeartbeats 4000000 in
theorem ti_117 (l : Launch) (G : GG) (l1 l2 : List (Int × Int × Int)) (f1 : frs 118 l1) (f2 : frs 118 l2) : Ctr l G yX2_init cX2_init 1 none rmI117 [vr G 117] (wl 118 l1 l2) (fun _ : Unit => none) (fun _ : Unit => wl 118 (l1) ((117, 0, -1) :: l2)) (some ()) := by
  refine ctr_of (by decide) (Nat.le_of_ble_eq_true rfl) mwX2_init.1 (fun X hl hR C R hnm => ?_)
  subst hl
  refine z_lv (lv' := [(0, vr G 117)]) [0] rfl ?_
  refine z_aload_n C 0 rfl 0 rfl dX2_init_0 1 rfl ?_
  refine c_obj C hR loX2 (Nat.le_of_ble_eq_true rfl) (by decide) dX2_init_1 4 rfl ?_
  refine z_aload_n C 0 rfl 0 rfl dX2_init_4 5 rfl ?_
  refine z_iconst C dX2_init_5 6 rfl ?_
  refine c_putI C fX2_9 ⟨rfl, by decide, by decide⟩ dX2_init_6 9 rfl ?_
  have f2 := frs_c (e := (117, 0, -1)) (show (117 : Int) < ((118 : Nat) : Int) by decide) f2
  exact z_vret C R rfl rfl dX2_init_9
def rmI118 : Room := { frames := 1, cells := 0, slots := 0, locals := 30 }
set_option maxRecDepth 100000 in
set_option maxHeartbeats 4000000 in
theorem ti_118 (l : Launch) (G : GG) (l1 l2 : List (Int × Int × Int)) (f1 : frs 119 l1) (f2 : frs 119 l2) : Ctr l G yX2_init cX2_init 1 none rmI118 [vr G 118] (wl 119 l1 l2) (fun _ : Unit => none) (fun _ : Unit => wl 119 (l1) ((118, 0, -1) :: l2)) (some ()) := by
  refine ctr_of (by decide) (Nat.le_of_ble_eq_true rfl) mwX2_init.1 (fun X hl hR C R hnm => ?_)
  subst hl
  refine z_lv (lv' := [(0, vr G 118)]) [0] rfl ?_
  refine z_aload_n C 0 rfl 0 rfl dX2_init_0 1 rfl ?_
  refine c_obj C hR loX2 (Nat.le_of_ble_eq_true rfl) (by decide) dX2_init_1 4 rfl ?_
  refine z_aload_n C 0 rfl 0 rfl dX2_init_4 5 rfl ?_
  refine z_iconst C dX2_init_5 6 rfl ?_
  refine c_putI C fX2_9 ⟨rfl, by decide, by decide⟩ dX2_init_6 9 rfl ?_
  have f2 := frs_c (e := (118, 0, -1)) (show (118 : Int) < ((119 : Nat) : Int) by decide) f2
  exact z_vret C R rfl rfl dX2_init_9
def rmI120 : Room := { frames := 1, cells := 0, slots := 0, locals := 30 }
set_option maxRecDepth 100000 in
set_option maxHeartbeats 4000000 in
theorem ti_120 (l : Launch) (G : GG) (l1 l2 : List (Int × Int × Int)) (f1 : frs 121 l1) (f2 : frs 121 l2) : Ctr l G yX9_init cX9_init 1 none rmI120 [vr G 120] (wl 121 l1 l2) (fun _ : Unit => none) (fun _ : Unit => wl 121 (l1) (l2)) (some ()) := by
  refine ctr_of (by decide) (Nat.le_of_ble_eq_true rfl) mwX9_init.1 (fun X hl hR C R hnm => ?_)
  subst hl
  refine z_lv (lv' := [(0, vr G 120)]) [0] rfl ?_
  refine z_aload_n C 0 rfl 0 rfl dX9_init_0 1 rfl ?_
  refine c_obj C hR loX9 (Nat.le_of_ble_eq_true rfl) (by decide) dX9_init_1 4 rfl ?_
  exact z_vret C R rfl rfl dX9_init_4
def rmI121 : Room := { frames := 1, cells := 0, slots := 0, locals := 30 }
set_option maxRecDepth 100000 in
set_option maxHeartbeats 4000000 in
theorem ti_121 (l : Launch) (G : GG) (l1 l2 : List (Int × Int × Int)) (f1 : frs 122 l1) (f2 : frs 122 l2) : Ctr l G yX9_init cX9_init 1 none rmI121 [vr G 121] (wl 122 l1 l2) (fun _ : Unit => none) (fun _ : Unit => wl 122 (l1) (l2)) (some ()) := by
  refine ctr_of (by decide) (Nat.le_of_ble_eq_true rfl) mwX9_init.1 (fun X hl hR C R hnm => ?_)
  subst hl
  refine z_lv (lv' := [(0, vr G 121)]) [0] rfl ?_
  refine z_aload_n C 0 rfl 0 rfl dX9_init_0 1 rfl ?_
  refine c_obj C hR loX9 (Nat.le_of_ble_eq_true rfl) (by decide) dX9_init_1 4 rfl ?_
  exact z_vret C R rfl rfl dX9_init_4
def rmI122 : Room := { frames := 1, cells := 0, slots := 0, locals := 30 }
set_option maxRecDepth 100000 in
set_option maxHeartbeats 4000000 in
theorem ti_122 (l : Launch) (G : GG) (l1 l2 : List (Int × Int × Int)) (f1 : frs 123 l1) (f2 : frs 123 l2) : Ctr l G yX9_init cX9_init 1 none rmI122 [vr G 122] (wl 123 l1 l2) (fun _ : Unit => none) (fun _ : Unit => wl 123 (l1) (l2)) (some ()) := by
  refine ctr_of (by decide) (Nat.le_of_ble_eq_true rfl) mwX9_init.1 (fun X hl hR C R hnm => ?_)
  subst hl
  refine z_lv (lv' := [(0, vr G 122)]) [0] rfl ?_
  refine z_aload_n C 0 rfl 0 rfl dX9_init_0 1 rfl ?_
  refine c_obj C hR loX9 (Nat.le_of_ble_eq_true rfl) (by decide) dX9_init_1 4 rfl ?_
  exact z_vret C R rfl rfl dX9_init_4
def rmI111 : Room := { frames := 2, cells := 11, slots := 49, locals := 50 }
set_option maxRecDepth 100000 in
set_option maxHeartbeats 4000000 in
theorem ti_111 (l : Launch) (G : GG) (l1 l2 : List (Int × Int × Int)) (f1 : frs 112 l1) (f2 : frs 112 l2) : Ctr l G yX5_init cX5_init 2 none rmI111 [vr G 111] (wl 112 l1 l2) (fun _ : Unit => none) (fun _ : Unit => wl 123 ((119, 2, 122) :: (119, 1, 121) :: (119, 0, 120) :: (111, 7, 119) :: (111, 6, 118) :: (111, 5, 117) :: (111, 4, 116) :: (111, 3, 115) :: (111, 2, 114) :: (111, 1, 113) :: (111, 0, 112) :: l1) ((118, 0, -1) :: (117, 0, -1) :: l2)) (some ()) := by
  refine ctr_of (by decide) (Nat.le_of_ble_eq_true rfl) mwX5_init.1 (fun X hl hR C R hnm => ?_)
  subst hl
  refine z_lv (lv' := [(0, vr G 111)]) [0] rfl ?_
  refine z_aload_n C 0 rfl 0 rfl dX5_init_0 1 rfl ?_
  refine c_obj C hR loX5 (Nat.le_of_ble_eq_true rfl) (by decide) dX5_init_1 4 rfl ?_
  refine z_aload_n C 0 rfl 0 rfl dX5_init_4 5 rfl ?_
  refine z_bipush C (by decide) dX5_init_5 7 rfl ?_
  refine c_newa (t := 1) (N := 6) C hR (uw_in tb_82 rfl) (Or.inl ⟨rfl, rfl⟩) rfl f2 ⟨w32_id (a := 6) (by decide), by decide⟩ (by decide) dX5_init_7 9 rfl (k := 112) rfl ?_
  refine zn (1, 6) rfl 113 rfl ?_
  have f1 := frs_m f1 (show 112 ≤ 113 by decide)
  have f2 := frs_m f2 (show 112 ≤ 113 by decide)
  refine c_putF C hnm fFX5_11 ⟨rfl, by decide, by decide⟩ (by decide) dX5_init_9 12 rfl ?_
  have f1 := frs_c (e := (111, 0, 112)) (show (111 : Int) < ((113 : Nat) : Int) by decide) f1
  refine z_aload_n C 0 rfl 0 rfl dX5_init_12 13 rfl ?_
  refine z_bipush C (by decide) dX5_init_13 15 rfl ?_
  refine c_newa (t := 3) (N := 6) C hR (uw_in tb_138 rfl) (Or.inr (Or.inr ⟨rfl, rfl⟩)) rfl f2 ⟨w32_id (a := 6) (by decide), by decide⟩ (by decide) dX5_init_15 17 rfl (k := 113) rfl ?_
  refine zn (2, 12) rfl 114 rfl ?_
  have f1 := frs_m f1 (show 113 ≤ 114 by decide)
  have f2 := frs_m f2 (show 113 ≤ 114 by decide)
  refine c_putF C hnm fFX5_17 ⟨rfl, by decide, by decide⟩ (by decide) dX5_init_17 20 rfl ?_
  have f1 := frs_c (e := (111, 1, 113)) (show (111 : Int) < ((114 : Nat) : Int) by decide) f1
  refine z_aload_n C 0 rfl 0 rfl dX5_init_20 21 rfl ?_
  refine z_iconst C dX5_init_21 22 rfl ?_
  refine c_newa (t := 1) (N := 4) C hR (uw_in tb_82 rfl) (Or.inl ⟨rfl, rfl⟩) rfl f2 ⟨w32_id (a := 4) (by decide), by decide⟩ (by decide) dX5_init_22 24 rfl (k := 114) rfl ?_
  refine zn (3, 16) rfl 115 rfl ?_
  have f1 := frs_m f1 (show 114 ≤ 115 by decide)
  have f2 := frs_m f2 (show 114 ≤ 115 by decide)
  refine c_putF C hnm fFX5_21 ⟨rfl, by decide, by decide⟩ (by decide) dX5_init_24 27 rfl ?_
  have f1 := frs_c (e := (111, 2, 114)) (show (111 : Int) < ((115 : Nat) : Int) by decide) f1
  refine z_aload_n C 0 rfl 0 rfl dX5_init_27 28 rfl ?_
  refine z_iconst C dX5_init_28 29 rfl ?_
  refine c_newa (t := 3) (N := 4) C hR (uw_in tb_138 rfl) (Or.inr (Or.inr ⟨rfl, rfl⟩)) rfl f2 ⟨w32_id (a := 4) (by decide), by decide⟩ (by decide) dX5_init_29 31 rfl (k := 115) rfl ?_
  refine zn (4, 20) rfl 116 rfl ?_
  have f1 := frs_m f1 (show 115 ≤ 116 by decide)
  have f2 := frs_m f2 (show 115 ≤ 116 by decide)
  refine c_putF C hnm fFX5_24 ⟨rfl, by decide, by decide⟩ (by decide) dX5_init_31 34 rfl ?_
  have f1 := frs_c (e := (111, 3, 115)) (show (111 : Int) < ((116 : Nat) : Int) by decide) f1
  refine z_aload_n C 0 rfl 0 rfl dX5_init_34 35 rfl ?_
  refine z_iconst C dX5_init_35 36 rfl ?_
  refine c_newa (t := 1) (N := 4) C hR (uw_in tb_82 rfl) (Or.inl ⟨rfl, rfl⟩) rfl f2 ⟨w32_id (a := 4) (by decide), by decide⟩ (by decide) dX5_init_36 38 rfl (k := 116) rfl ?_
  refine zn (5, 24) rfl 117 rfl ?_
  have f1 := frs_m f1 (show 116 ≤ 117 by decide)
  have f2 := frs_m f2 (show 116 ≤ 117 by decide)
  refine c_putF C hnm fFX5_27 ⟨rfl, by decide, by decide⟩ (by decide) dX5_init_38 41 rfl ?_
  have f1 := frs_c (e := (111, 4, 116)) (show (111 : Int) < ((117 : Nat) : Int) by decide) f1
  refine z_aload_n C 0 rfl 0 rfl dX5_init_41 42 rfl ?_
  refine c_new C hR cf2 rfl (uw_in tb_263 rfl) (uw_in tb_264 rfl) (uw_in tb_10 rfl) f1 f2 (by decide) dX5_init_42 45 rfl (k := 117) rfl ?_
  refine zn (6, 29) rfl 118 rfl ?_
  have f1 := frs_m f1 (show 117 ≤ 118 by decide)
  have f2 := frs_m f2 (show 117 ≤ 118 by decide)
  refine z_dup C rfl dX5_init_45 46 rfl ?_
  refine c_callI C hR (ti_117 (mL X) G _ _ f1 f2) mwX2_init miX2_init rfl (Or.inr ⟨RX10, by decide⟩) rfl rfl (Nat.le_of_ble_eq_true rfl) (by decide) (by decide) dX5_init_46 49 rfl ?_
  refine zn (6, 29) rfl 118 rfl ?_
  have f2 := frs_c (e := (117, 0, -1)) (show (117 : Int) < ((118 : Nat) : Int) by decide) f2
  refine c_putF C hnm fFX5_33 ⟨rfl, by decide, by decide⟩ (by decide) dX5_init_49 52 rfl ?_
  have f1 := frs_c (e := (111, 5, 117)) (show (111 : Int) < ((118 : Nat) : Int) by decide) f1
  refine z_aload_n C 0 rfl 0 rfl dX5_init_52 53 rfl ?_
  refine c_new C hR cf2 rfl (uw_in tb_263 rfl) (uw_in tb_264 rfl) (uw_in tb_10 rfl) f1 f2 (by decide) dX5_init_53 56 rfl (k := 118) rfl ?_
  refine zn (7, 34) rfl 119 rfl ?_
  have f1 := frs_m f1 (show 118 ≤ 119 by decide)
  have f2 := frs_m f2 (show 118 ≤ 119 by decide)
  refine z_dup C rfl dX5_init_56 57 rfl ?_
  refine c_callI C hR (ti_118 (mL X) G _ _ f1 f2) mwX2_init miX2_init rfl (Or.inr ⟨RX10, by decide⟩) rfl rfl (Nat.le_of_ble_eq_true rfl) (by decide) (by decide) dX5_init_57 60 rfl ?_
  refine zn (7, 34) rfl 119 rfl ?_
  have f2 := frs_c (e := (118, 0, -1)) (show (118 : Int) < ((119 : Nat) : Int) by decide) f2
  refine c_putF C hnm fFX5_37 ⟨rfl, by decide, by decide⟩ (by decide) dX5_init_60 63 rfl ?_
  have f1 := frs_c (e := (111, 6, 118)) (show (111 : Int) < ((119 : Nat) : Int) by decide) f1
  refine z_aload_n C 0 rfl 0 rfl dX5_init_63 64 rfl ?_
  refine z_iconst C dX5_init_64 65 rfl ?_
  refine c_anew (t := 2) (N := 3) C hR (by decide) (uw_in tb_289 rfl) rfl f1 ⟨w32_id (a := 3) (by decide), by decide⟩ (by decide) dX5_init_65 68 rfl (k := 119) rfl ?_
  refine zn (8, 37) rfl 120 rfl ?_
  have f1 := frs_m f1 (show 119 ≤ 120 by decide)
  have f2 := frs_m f2 (show 119 ≤ 120 by decide)
  refine c_putF C hnm fFX5_42 ⟨rfl, by decide, by decide⟩ (by decide) dX5_init_68 71 rfl ?_
  have f1 := frs_c (e := (111, 7, 119)) (show (111 : Int) < ((120 : Nat) : Int) by decide) f1
  refine z_iconst C dX5_init_71 72 rfl ?_
  refine z_istore_n (lv' := [(1, vi 0), (0, vr G 111)]) C 1 rfl (by decide) dX5_init_72 73 rfl rfl ?_
  refine z_iload_n C 1 rfl 0 rfl dX5_init_73 74 rfl ?_
  refine z_iconst C dX5_init_74 75 rfl ?_
  refine c_ge_no C dX5_init_75 97 (by decide) 78 rfl (by decide) ?_
  refine z_aload_n C 0 rfl 1 rfl dX5_init_78 79 rfl ?_
  refine c_getR (k2 := 119) C fX5_42 ⟨rfl, by decide, by decide⟩ (by simp [LL]) dX5_init_79 82 rfl ?_
  refine z_iload_n C 1 rfl 0 rfl dX5_init_82 83 rfl ?_
  refine c_new C hR cf9 rfl (uw_in tb_289 rfl) (uw_in tb_291 rfl) (uw_in tb_11 rfl) f1 f2 (by decide) dX5_init_83 86 rfl (k := 120) rfl ?_
  refine zn (9, 41) rfl 121 rfl ?_
  have f1 := frs_m f1 (show 120 ≤ 121 by decide)
  have f2 := frs_m f2 (show 120 ≤ 121 by decide)
  refine z_dup C rfl dX5_init_86 87 rfl ?_
  refine c_callI C hR (ti_120 (mL X) G _ _ f1 f2) mwX9_init miX9_init rfl (Or.inr ⟨RX10, by decide⟩) rfl rfl (Nat.le_of_ble_eq_true rfl) (by decide) (by decide) dX5_init_87 90 rfl ?_
  refine zn (9, 41) rfl 121 rfl ?_
  refine c_aast (t := 2) (N := 3) C (by decide) cf9 rfl ⟨rfl, by decide, by decide⟩ ⟨rfl, by decide, by decide⟩ dX5_init_90 91 rfl (w32_id (a := 0) (by decide)) (by decide) ?_
  have f1 := frs_c (e := (119, 0, 120)) (show (119 : Int) < ((121 : Nat) : Int) by decide) f1
  refine z_iinc (lv' := [(1, vi 1), (0, vr G 111)]) C (by decide) 0 rfl dX5_init_91 94 rfl rfl ?_
  refine z_goto C dX5_init_94 73 (by decide) ?_
  refine z_iload_n C 1 rfl 0 rfl dX5_init_73 74 rfl ?_
  refine z_iconst C dX5_init_74 75 rfl ?_
  refine c_ge_no C dX5_init_75 97 (by decide) 78 rfl (by decide) ?_
  refine z_aload_n C 0 rfl 1 rfl dX5_init_78 79 rfl ?_
  refine c_getR (k2 := 119) C fX5_42 ⟨rfl, by decide, by decide⟩ (by simp [LL]) dX5_init_79 82 rfl ?_
  refine z_iload_n C 1 rfl 0 rfl dX5_init_82 83 rfl ?_
  refine c_new C hR cf9 rfl (uw_in tb_289 rfl) (uw_in tb_291 rfl) (uw_in tb_11 rfl) f1 f2 (by decide) dX5_init_83 86 rfl (k := 121) rfl ?_
  refine zn (10, 45) rfl 122 rfl ?_
  have f1 := frs_m f1 (show 121 ≤ 122 by decide)
  have f2 := frs_m f2 (show 121 ≤ 122 by decide)
  refine z_dup C rfl dX5_init_86 87 rfl ?_
  refine c_callI C hR (ti_121 (mL X) G _ _ f1 f2) mwX9_init miX9_init rfl (Or.inr ⟨RX10, by decide⟩) rfl rfl (Nat.le_of_ble_eq_true rfl) (by decide) (by decide) dX5_init_87 90 rfl ?_
  refine zn (10, 45) rfl 122 rfl ?_
  refine c_aast (t := 2) (N := 3) C (by decide) cf9 rfl ⟨rfl, by decide, by decide⟩ ⟨rfl, by decide, by decide⟩ dX5_init_90 91 rfl (w32_id (a := 1) (by decide)) (by decide) ?_
  have f1 := frs_c (e := (119, 1, 121)) (show (119 : Int) < ((122 : Nat) : Int) by decide) f1
  refine z_iinc (lv' := [(1, vi 2), (0, vr G 111)]) C (by decide) 0 rfl dX5_init_91 94 rfl rfl ?_
  refine z_goto C dX5_init_94 73 (by decide) ?_
  refine z_iload_n C 1 rfl 0 rfl dX5_init_73 74 rfl ?_
  refine z_iconst C dX5_init_74 75 rfl ?_
  refine c_ge_no C dX5_init_75 97 (by decide) 78 rfl (by decide) ?_
  refine z_aload_n C 0 rfl 1 rfl dX5_init_78 79 rfl ?_
  refine c_getR (k2 := 119) C fX5_42 ⟨rfl, by decide, by decide⟩ (by simp [LL]) dX5_init_79 82 rfl ?_
  refine z_iload_n C 1 rfl 0 rfl dX5_init_82 83 rfl ?_
  refine c_new C hR cf9 rfl (uw_in tb_289 rfl) (uw_in tb_291 rfl) (uw_in tb_11 rfl) f1 f2 (by decide) dX5_init_83 86 rfl (k := 122) rfl ?_
  refine zn (11, 49) rfl 123 rfl ?_
  have f1 := frs_m f1 (show 122 ≤ 123 by decide)
  have f2 := frs_m f2 (show 122 ≤ 123 by decide)
  refine z_dup C rfl dX5_init_86 87 rfl ?_
  refine c_callI C hR (ti_122 (mL X) G _ _ f1 f2) mwX9_init miX9_init rfl (Or.inr ⟨RX10, by decide⟩) rfl rfl (Nat.le_of_ble_eq_true rfl) (by decide) (by decide) dX5_init_87 90 rfl ?_
  refine zn (11, 49) rfl 123 rfl ?_
  refine c_aast (t := 2) (N := 3) C (by decide) cf9 rfl ⟨rfl, by decide, by decide⟩ ⟨rfl, by decide, by decide⟩ dX5_init_90 91 rfl (w32_id (a := 2) (by decide)) (by decide) ?_
  have f1 := frs_c (e := (119, 2, 122)) (show (119 : Int) < ((123 : Nat) : Int) by decide) f1
  refine z_iinc (lv' := [(1, vi 3), (0, vr G 111)]) C (by decide) 0 rfl dX5_init_91 94 rfl rfl ?_
  refine z_goto C dX5_init_94 73 (by decide) ?_
  refine z_iload_n C 1 rfl 0 rfl dX5_init_73 74 rfl ?_
  refine z_iconst C dX5_init_74 75 rfl ?_
  refine c_ge_yes C dX5_init_75 97 (by decide) 78 rfl (by decide) ?_
  exact z_vret C R rfl rfl dX5_init_97
def rmI129 : Room := { frames := 1, cells := 0, slots := 0, locals := 30 }
set_option maxRecDepth 100000 in
set_option maxHeartbeats 4000000 in
theorem ti_129 (l : Launch) (G : GG) (l1 l2 : List (Int × Int × Int)) (f1 : frs 130 l1) (f2 : frs 130 l2) : Ctr l G yX2_init cX2_init 1 none rmI129 [vr G 129] (wl 130 l1 l2) (fun _ : Unit => none) (fun _ : Unit => wl 130 (l1) ((129, 0, -1) :: l2)) (some ()) := by
  refine ctr_of (by decide) (Nat.le_of_ble_eq_true rfl) mwX2_init.1 (fun X hl hR C R hnm => ?_)
  subst hl
  refine z_lv (lv' := [(0, vr G 129)]) [0] rfl ?_
  refine z_aload_n C 0 rfl 0 rfl dX2_init_0 1 rfl ?_
  refine c_obj C hR loX2 (Nat.le_of_ble_eq_true rfl) (by decide) dX2_init_1 4 rfl ?_
  refine z_aload_n C 0 rfl 0 rfl dX2_init_4 5 rfl ?_
  refine z_iconst C dX2_init_5 6 rfl ?_
  refine c_putI C fX2_9 ⟨rfl, by decide, by decide⟩ dX2_init_6 9 rfl ?_
  have f2 := frs_c (e := (129, 0, -1)) (show (129 : Int) < ((130 : Nat) : Int) by decide) f2
  exact z_vret C R rfl rfl dX2_init_9
def rmI130 : Room := { frames := 1, cells := 0, slots := 0, locals := 30 }
set_option maxRecDepth 100000 in
set_option maxHeartbeats 4000000 in
theorem ti_130 (l : Launch) (G : GG) (l1 l2 : List (Int × Int × Int)) (f1 : frs 131 l1) (f2 : frs 131 l2) : Ctr l G yX2_init cX2_init 1 none rmI130 [vr G 130] (wl 131 l1 l2) (fun _ : Unit => none) (fun _ : Unit => wl 131 (l1) ((130, 0, -1) :: l2)) (some ()) := by
  refine ctr_of (by decide) (Nat.le_of_ble_eq_true rfl) mwX2_init.1 (fun X hl hR C R hnm => ?_)
  subst hl
  refine z_lv (lv' := [(0, vr G 130)]) [0] rfl ?_
  refine z_aload_n C 0 rfl 0 rfl dX2_init_0 1 rfl ?_
  refine c_obj C hR loX2 (Nat.le_of_ble_eq_true rfl) (by decide) dX2_init_1 4 rfl ?_
  refine z_aload_n C 0 rfl 0 rfl dX2_init_4 5 rfl ?_
  refine z_iconst C dX2_init_5 6 rfl ?_
  refine c_putI C fX2_9 ⟨rfl, by decide, by decide⟩ dX2_init_6 9 rfl ?_
  have f2 := frs_c (e := (130, 0, -1)) (show (130 : Int) < ((131 : Nat) : Int) by decide) f2
  exact z_vret C R rfl rfl dX2_init_9
def rmI132 : Room := { frames := 1, cells := 0, slots := 0, locals := 30 }
set_option maxRecDepth 100000 in
set_option maxHeartbeats 4000000 in
theorem ti_132 (l : Launch) (G : GG) (l1 l2 : List (Int × Int × Int)) (f1 : frs 133 l1) (f2 : frs 133 l2) : Ctr l G yX9_init cX9_init 1 none rmI132 [vr G 132] (wl 133 l1 l2) (fun _ : Unit => none) (fun _ : Unit => wl 133 (l1) (l2)) (some ()) := by
  refine ctr_of (by decide) (Nat.le_of_ble_eq_true rfl) mwX9_init.1 (fun X hl hR C R hnm => ?_)
  subst hl
  refine z_lv (lv' := [(0, vr G 132)]) [0] rfl ?_
  refine z_aload_n C 0 rfl 0 rfl dX9_init_0 1 rfl ?_
  refine c_obj C hR loX9 (Nat.le_of_ble_eq_true rfl) (by decide) dX9_init_1 4 rfl ?_
  exact z_vret C R rfl rfl dX9_init_4
def rmI133 : Room := { frames := 1, cells := 0, slots := 0, locals := 30 }
set_option maxRecDepth 100000 in
set_option maxHeartbeats 4000000 in
theorem ti_133 (l : Launch) (G : GG) (l1 l2 : List (Int × Int × Int)) (f1 : frs 134 l1) (f2 : frs 134 l2) : Ctr l G yX9_init cX9_init 1 none rmI133 [vr G 133] (wl 134 l1 l2) (fun _ : Unit => none) (fun _ : Unit => wl 134 (l1) (l2)) (some ()) := by
  refine ctr_of (by decide) (Nat.le_of_ble_eq_true rfl) mwX9_init.1 (fun X hl hR C R hnm => ?_)
  subst hl
  refine z_lv (lv' := [(0, vr G 133)]) [0] rfl ?_
  refine z_aload_n C 0 rfl 0 rfl dX9_init_0 1 rfl ?_
  refine c_obj C hR loX9 (Nat.le_of_ble_eq_true rfl) (by decide) dX9_init_1 4 rfl ?_
  exact z_vret C R rfl rfl dX9_init_4
def rmI134 : Room := { frames := 1, cells := 0, slots := 0, locals := 30 }
set_option maxRecDepth 100000 in
set_option maxHeartbeats 4000000 in
theorem ti_134 (l : Launch) (G : GG) (l1 l2 : List (Int × Int × Int)) (f1 : frs 135 l1) (f2 : frs 135 l2) : Ctr l G yX9_init cX9_init 1 none rmI134 [vr G 134] (wl 135 l1 l2) (fun _ : Unit => none) (fun _ : Unit => wl 135 (l1) (l2)) (some ()) := by
  refine ctr_of (by decide) (Nat.le_of_ble_eq_true rfl) mwX9_init.1 (fun X hl hR C R hnm => ?_)
  subst hl
  refine z_lv (lv' := [(0, vr G 134)]) [0] rfl ?_
  refine z_aload_n C 0 rfl 0 rfl dX9_init_0 1 rfl ?_
  refine c_obj C hR loX9 (Nat.le_of_ble_eq_true rfl) (by decide) dX9_init_1 4 rfl ?_
  exact z_vret C R rfl rfl dX9_init_4
def rmI123 : Room := { frames := 2, cells := 11, slots := 49, locals := 50 }
set_option maxRecDepth 100000 in
set_option maxHeartbeats 4000000 in
theorem ti_123 (l : Launch) (G : GG) (l1 l2 : List (Int × Int × Int)) (f1 : frs 124 l1) (f2 : frs 124 l2) : Ctr l G yX5_init cX5_init 2 none rmI123 [vr G 123] (wl 124 l1 l2) (fun _ : Unit => none) (fun _ : Unit => wl 135 ((131, 2, 134) :: (131, 1, 133) :: (131, 0, 132) :: (123, 7, 131) :: (123, 6, 130) :: (123, 5, 129) :: (123, 4, 128) :: (123, 3, 127) :: (123, 2, 126) :: (123, 1, 125) :: (123, 0, 124) :: l1) ((130, 0, -1) :: (129, 0, -1) :: l2)) (some ()) := by
  refine ctr_of (by decide) (Nat.le_of_ble_eq_true rfl) mwX5_init.1 (fun X hl hR C R hnm => ?_)
  subst hl
  refine z_lv (lv' := [(0, vr G 123)]) [0] rfl ?_
  refine z_aload_n C 0 rfl 0 rfl dX5_init_0 1 rfl ?_
  refine c_obj C hR loX5 (Nat.le_of_ble_eq_true rfl) (by decide) dX5_init_1 4 rfl ?_
  refine z_aload_n C 0 rfl 0 rfl dX5_init_4 5 rfl ?_
  refine z_bipush C (by decide) dX5_init_5 7 rfl ?_
  refine c_newa (t := 1) (N := 6) C hR (uw_in tb_82 rfl) (Or.inl ⟨rfl, rfl⟩) rfl f2 ⟨w32_id (a := 6) (by decide), by decide⟩ (by decide) dX5_init_7 9 rfl (k := 124) rfl ?_
  refine zn (1, 6) rfl 125 rfl ?_
  have f1 := frs_m f1 (show 124 ≤ 125 by decide)
  have f2 := frs_m f2 (show 124 ≤ 125 by decide)
  refine c_putF C hnm fFX5_11 ⟨rfl, by decide, by decide⟩ (by decide) dX5_init_9 12 rfl ?_
  have f1 := frs_c (e := (123, 0, 124)) (show (123 : Int) < ((125 : Nat) : Int) by decide) f1
  refine z_aload_n C 0 rfl 0 rfl dX5_init_12 13 rfl ?_
  refine z_bipush C (by decide) dX5_init_13 15 rfl ?_
  refine c_newa (t := 3) (N := 6) C hR (uw_in tb_138 rfl) (Or.inr (Or.inr ⟨rfl, rfl⟩)) rfl f2 ⟨w32_id (a := 6) (by decide), by decide⟩ (by decide) dX5_init_15 17 rfl (k := 125) rfl ?_
  refine zn (2, 12) rfl 126 rfl ?_
  have f1 := frs_m f1 (show 125 ≤ 126 by decide)
  have f2 := frs_m f2 (show 125 ≤ 126 by decide)
  refine c_putF C hnm fFX5_17 ⟨rfl, by decide, by decide⟩ (by decide) dX5_init_17 20 rfl ?_
  have f1 := frs_c (e := (123, 1, 125)) (show (123 : Int) < ((126 : Nat) : Int) by decide) f1
  refine z_aload_n C 0 rfl 0 rfl dX5_init_20 21 rfl ?_
  refine z_iconst C dX5_init_21 22 rfl ?_
  refine c_newa (t := 1) (N := 4) C hR (uw_in tb_82 rfl) (Or.inl ⟨rfl, rfl⟩) rfl f2 ⟨w32_id (a := 4) (by decide), by decide⟩ (by decide) dX5_init_22 24 rfl (k := 126) rfl ?_
  refine zn (3, 16) rfl 127 rfl ?_
  have f1 := frs_m f1 (show 126 ≤ 127 by decide)
  have f2 := frs_m f2 (show 126 ≤ 127 by decide)
  refine c_putF C hnm fFX5_21 ⟨rfl, by decide, by decide⟩ (by decide) dX5_init_24 27 rfl ?_
  have f1 := frs_c (e := (123, 2, 126)) (show (123 : Int) < ((127 : Nat) : Int) by decide) f1
  refine z_aload_n C 0 rfl 0 rfl dX5_init_27 28 rfl ?_
  refine z_iconst C dX5_init_28 29 rfl ?_
  refine c_newa (t := 3) (N := 4) C hR (uw_in tb_138 rfl) (Or.inr (Or.inr ⟨rfl, rfl⟩)) rfl f2 ⟨w32_id (a := 4) (by decide), by decide⟩ (by decide) dX5_init_29 31 rfl (k := 127) rfl ?_
  refine zn (4, 20) rfl 128 rfl ?_
  have f1 := frs_m f1 (show 127 ≤ 128 by decide)
  have f2 := frs_m f2 (show 127 ≤ 128 by decide)
  refine c_putF C hnm fFX5_24 ⟨rfl, by decide, by decide⟩ (by decide) dX5_init_31 34 rfl ?_
  have f1 := frs_c (e := (123, 3, 127)) (show (123 : Int) < ((128 : Nat) : Int) by decide) f1
  refine z_aload_n C 0 rfl 0 rfl dX5_init_34 35 rfl ?_
  refine z_iconst C dX5_init_35 36 rfl ?_
  refine c_newa (t := 1) (N := 4) C hR (uw_in tb_82 rfl) (Or.inl ⟨rfl, rfl⟩) rfl f2 ⟨w32_id (a := 4) (by decide), by decide⟩ (by decide) dX5_init_36 38 rfl (k := 128) rfl ?_
  refine zn (5, 24) rfl 129 rfl ?_
  have f1 := frs_m f1 (show 128 ≤ 129 by decide)
  have f2 := frs_m f2 (show 128 ≤ 129 by decide)
  refine c_putF C hnm fFX5_27 ⟨rfl, by decide, by decide⟩ (by decide) dX5_init_38 41 rfl ?_
  have f1 := frs_c (e := (123, 4, 128)) (show (123 : Int) < ((129 : Nat) : Int) by decide) f1
  refine z_aload_n C 0 rfl 0 rfl dX5_init_41 42 rfl ?_
  refine c_new C hR cf2 rfl (uw_in tb_263 rfl) (uw_in tb_264 rfl) (uw_in tb_10 rfl) f1 f2 (by decide) dX5_init_42 45 rfl (k := 129) rfl ?_
  refine zn (6, 29) rfl 130 rfl ?_
  have f1 := frs_m f1 (show 129 ≤ 130 by decide)
  have f2 := frs_m f2 (show 129 ≤ 130 by decide)
  refine z_dup C rfl dX5_init_45 46 rfl ?_
  refine c_callI C hR (ti_129 (mL X) G _ _ f1 f2) mwX2_init miX2_init rfl (Or.inr ⟨RX10, by decide⟩) rfl rfl (Nat.le_of_ble_eq_true rfl) (by decide) (by decide) dX5_init_46 49 rfl ?_
  refine zn (6, 29) rfl 130 rfl ?_
  have f2 := frs_c (e := (129, 0, -1)) (show (129 : Int) < ((130 : Nat) : Int) by decide) f2
  refine c_putF C hnm fFX5_33 ⟨rfl, by decide, by decide⟩ (by decide) dX5_init_49 52 rfl ?_
  have f1 := frs_c (e := (123, 5, 129)) (show (123 : Int) < ((130 : Nat) : Int) by decide) f1
  refine z_aload_n C 0 rfl 0 rfl dX5_init_52 53 rfl ?_
  refine c_new C hR cf2 rfl (uw_in tb_263 rfl) (uw_in tb_264 rfl) (uw_in tb_10 rfl) f1 f2 (by decide) dX5_init_53 56 rfl (k := 130) rfl ?_
  refine zn (7, 34) rfl 131 rfl ?_
  have f1 := frs_m f1 (show 130 ≤ 131 by decide)
  have f2 := frs_m f2 (show 130 ≤ 131 by decide)
  refine z_dup C rfl dX5_init_56 57 rfl ?_
  refine c_callI C hR (ti_130 (mL X) G _ _ f1 f2) mwX2_init miX2_init rfl (Or.inr ⟨RX10, by decide⟩) rfl rfl (Nat.le_of_ble_eq_true rfl) (by decide) (by decide) dX5_init_57 60 rfl ?_
  refine zn (7, 34) rfl 131 rfl ?_
  have f2 := frs_c (e := (130, 0, -1)) (show (130 : Int) < ((131 : Nat) : Int) by decide) f2
  refine c_putF C hnm fFX5_37 ⟨rfl, by decide, by decide⟩ (by decide) dX5_init_60 63 rfl ?_
  have f1 := frs_c (e := (123, 6, 130)) (show (123 : Int) < ((131 : Nat) : Int) by decide) f1
  refine z_aload_n C 0 rfl 0 rfl dX5_init_63 64 rfl ?_
  refine z_iconst C dX5_init_64 65 rfl ?_
  refine c_anew (t := 2) (N := 3) C hR (by decide) (uw_in tb_289 rfl) rfl f1 ⟨w32_id (a := 3) (by decide), by decide⟩ (by decide) dX5_init_65 68 rfl (k := 131) rfl ?_
  refine zn (8, 37) rfl 132 rfl ?_
  have f1 := frs_m f1 (show 131 ≤ 132 by decide)
  have f2 := frs_m f2 (show 131 ≤ 132 by decide)
  refine c_putF C hnm fFX5_42 ⟨rfl, by decide, by decide⟩ (by decide) dX5_init_68 71 rfl ?_
  have f1 := frs_c (e := (123, 7, 131)) (show (123 : Int) < ((132 : Nat) : Int) by decide) f1
  refine z_iconst C dX5_init_71 72 rfl ?_
  refine z_istore_n (lv' := [(1, vi 0), (0, vr G 123)]) C 1 rfl (by decide) dX5_init_72 73 rfl rfl ?_
  refine z_iload_n C 1 rfl 0 rfl dX5_init_73 74 rfl ?_
  refine z_iconst C dX5_init_74 75 rfl ?_
  refine c_ge_no C dX5_init_75 97 (by decide) 78 rfl (by decide) ?_
  refine z_aload_n C 0 rfl 1 rfl dX5_init_78 79 rfl ?_
  refine c_getR (k2 := 131) C fX5_42 ⟨rfl, by decide, by decide⟩ (by simp [LL]) dX5_init_79 82 rfl ?_
  refine z_iload_n C 1 rfl 0 rfl dX5_init_82 83 rfl ?_
  refine c_new C hR cf9 rfl (uw_in tb_289 rfl) (uw_in tb_291 rfl) (uw_in tb_11 rfl) f1 f2 (by decide) dX5_init_83 86 rfl (k := 132) rfl ?_
  refine zn (9, 41) rfl 133 rfl ?_
  have f1 := frs_m f1 (show 132 ≤ 133 by decide)
  have f2 := frs_m f2 (show 132 ≤ 133 by decide)
  refine z_dup C rfl dX5_init_86 87 rfl ?_
  refine c_callI C hR (ti_132 (mL X) G _ _ f1 f2) mwX9_init miX9_init rfl (Or.inr ⟨RX10, by decide⟩) rfl rfl (Nat.le_of_ble_eq_true rfl) (by decide) (by decide) dX5_init_87 90 rfl ?_
  refine zn (9, 41) rfl 133 rfl ?_
  refine c_aast (t := 2) (N := 3) C (by decide) cf9 rfl ⟨rfl, by decide, by decide⟩ ⟨rfl, by decide, by decide⟩ dX5_init_90 91 rfl (w32_id (a := 0) (by decide)) (by decide) ?_
  have f1 := frs_c (e := (131, 0, 132)) (show (131 : Int) < ((133 : Nat) : Int) by decide) f1
  refine z_iinc (lv' := [(1, vi 1), (0, vr G 123)]) C (by decide) 0 rfl dX5_init_91 94 rfl rfl ?_
  refine z_goto C dX5_init_94 73 (by decide) ?_
  refine z_iload_n C 1 rfl 0 rfl dX5_init_73 74 rfl ?_
  refine z_iconst C dX5_init_74 75 rfl ?_
  refine c_ge_no C dX5_init_75 97 (by decide) 78 rfl (by decide) ?_
  refine z_aload_n C 0 rfl 1 rfl dX5_init_78 79 rfl ?_
  refine c_getR (k2 := 131) C fX5_42 ⟨rfl, by decide, by decide⟩ (by simp [LL]) dX5_init_79 82 rfl ?_
  refine z_iload_n C 1 rfl 0 rfl dX5_init_82 83 rfl ?_
  refine c_new C hR cf9 rfl (uw_in tb_289 rfl) (uw_in tb_291 rfl) (uw_in tb_11 rfl) f1 f2 (by decide) dX5_init_83 86 rfl (k := 133) rfl ?_
  refine zn (10, 45) rfl 134 rfl ?_
  have f1 := frs_m f1 (show 133 ≤ 134 by decide)
  have f2 := frs_m f2 (show 133 ≤ 134 by decide)
  refine z_dup C rfl dX5_init_86 87 rfl ?_
  refine c_callI C hR (ti_133 (mL X) G _ _ f1 f2) mwX9_init miX9_init rfl (Or.inr ⟨RX10, by decide⟩) rfl rfl (Nat.le_of_ble_eq_true rfl) (by decide) (by decide) dX5_init_87 90 rfl ?_
  refine zn (10, 45) rfl 134 rfl ?_
  refine c_aast (t := 2) (N := 3) C (by decide) cf9 rfl ⟨rfl, by decide, by decide⟩ ⟨rfl, by decide, by decide⟩ dX5_init_90 91 rfl (w32_id (a := 1) (by decide)) (by decide) ?_
  have f1 := frs_c (e := (131, 1, 133)) (show (131 : Int) < ((134 : Nat) : Int) by decide) f1
  refine z_iinc (lv' := [(1, vi 2), (0, vr G 123)]) C (by decide) 0 rfl dX5_init_91 94 rfl rfl ?_
  refine z_goto C dX5_init_94 73 (by decide) ?_
  refine z_iload_n C 1 rfl 0 rfl dX5_init_73 74 rfl ?_
  refine z_iconst C dX5_init_74 75 rfl ?_
  refine c_ge_no C dX5_init_75 97 (by decide) 78 rfl (by decide) ?_
  refine z_aload_n C 0 rfl 1 rfl dX5_init_78 79 rfl ?_
  refine c_getR (k2 := 131) C fX5_42 ⟨rfl, by decide, by decide⟩ (by simp [LL]) dX5_init_79 82 rfl ?_
  refine z_iload_n C 1 rfl 0 rfl dX5_init_82 83 rfl ?_
  refine c_new C hR cf9 rfl (uw_in tb_289 rfl) (uw_in tb_291 rfl) (uw_in tb_11 rfl) f1 f2 (by decide) dX5_init_83 86 rfl (k := 134) rfl ?_
  refine zn (11, 49) rfl 135 rfl ?_
  have f1 := frs_m f1 (show 134 ≤ 135 by decide)
  have f2 := frs_m f2 (show 134 ≤ 135 by decide)
  refine z_dup C rfl dX5_init_86 87 rfl ?_
  refine c_callI C hR (ti_134 (mL X) G _ _ f1 f2) mwX9_init miX9_init rfl (Or.inr ⟨RX10, by decide⟩) rfl rfl (Nat.le_of_ble_eq_true rfl) (by decide) (by decide) dX5_init_87 90 rfl ?_
  refine zn (11, 49) rfl 135 rfl ?_
  refine c_aast (t := 2) (N := 3) C (by decide) cf9 rfl ⟨rfl, by decide, by decide⟩ ⟨rfl, by decide, by decide⟩ dX5_init_90 91 rfl (w32_id (a := 2) (by decide)) (by decide) ?_
  have f1 := frs_c (e := (131, 2, 134)) (show (131 : Int) < ((135 : Nat) : Int) by decide) f1
  refine z_iinc (lv' := [(1, vi 3), (0, vr G 123)]) C (by decide) 0 rfl dX5_init_91 94 rfl rfl ?_
  refine z_goto C dX5_init_94 73 (by decide) ?_
  refine z_iload_n C 1 rfl 0 rfl dX5_init_73 74 rfl ?_
  refine z_iconst C dX5_init_74 75 rfl ?_
  refine c_ge_yes C dX5_init_75 97 (by decide) 78 rfl (by decide) ?_
  exact z_vret C R rfl rfl dX5_init_97
theorem loX6 : Cond.methodLink RX6 3 Lib.objectInit ∈ UW := uw_in tb_369 rfl
theorem fFX6_9 : FLF RX6 9 6 0 ∧ isRefTy (tyOf 6 0) = true ∧ ((0 : Nat) : Int) = 0 := ⟨⟨RX6, TX6, 3, cf6, by decide, uw_in tb_370 rfl, rfl, rfl⟩, rfl, rfl⟩
def rmI135 : Room := { frames := 1, cells := 1, slots := 64, locals := 30 }
set_option maxRecDepth 100000 in
set_option maxHeartbeats 4000000 in
theorem ti_135 (l : Launch) (G : GG) (l1 l2 : List (Int × Int × Int)) (f1 : frs 136 l1) (f2 : frs 136 l2) : Ctr l G yX6_init cX6_init 1 none rmI135 [vr G 135] (wl 136 l1 l2) (fun _ : Unit => none) (fun _ : Unit => wl 137 ((135, 0, 136) :: l1) ((135, 1, -4) :: l2)) (some ()) := by
  refine ctr_of (by decide) (Nat.le_of_ble_eq_true rfl) mwX6_init.1 (fun X hl hR C R hnm => ?_)
  subst hl
  refine z_lv (lv' := [(0, vr G 135)]) [0] rfl ?_
  refine z_aload_n C 0 rfl 0 rfl dX6_init_0 1 rfl ?_
  refine c_obj C hR loX6 (Nat.le_of_ble_eq_true rfl) (by decide) dX6_init_1 4 rfl ?_
  refine z_aload_n C 0 rfl 0 rfl dX6_init_4 5 rfl ?_
  refine z_bipush C (by decide) dX6_init_5 7 rfl ?_
  refine c_newa (t := 1) (N := 64) C hR (uw_in tb_82 rfl) (Or.inl ⟨rfl, rfl⟩) rfl f2 ⟨w32_id (a := 64) (by decide), by decide⟩ (by decide) dX6_init_7 9 rfl (k := 136) rfl ?_
  refine zn (1, 64) rfl 137 rfl ?_
  have f1 := frs_m f1 (show 136 ≤ 137 by decide)
  have f2 := frs_m f2 (show 136 ≤ 137 by decide)
  refine c_putF C hnm fFX6_9 ⟨rfl, by decide, by decide⟩ (by decide) dX6_init_9 12 rfl ?_
  have f1 := frs_c (e := (135, 0, 136)) (show (135 : Int) < ((137 : Nat) : Int) by decide) f1
  refine z_aload_n C 0 rfl 0 rfl dX6_init_12 13 rfl ?_
  refine z_bipush C (by decide) dX6_init_13 15 rfl ?_
  refine c_putI C fX6_15 ⟨rfl, by decide, by decide⟩ dX6_init_15 18 rfl ?_
  have f2 := frs_c (e := (135, 1, -4)) (show (135 : Int) < ((137 : Nat) : Int) by decide) f2
  exact z_vret C R rfl rfl dX6_init_18
def rmI137 : Room := { frames := 1, cells := 1, slots := 64, locals := 30 }
set_option maxRecDepth 100000 in
set_option maxHeartbeats 4000000 in
theorem ti_137 (l : Launch) (G : GG) (l1 l2 : List (Int × Int × Int)) (f1 : frs 138 l1) (f2 : frs 138 l2) : Ctr l G yX6_init cX6_init 1 none rmI137 [vr G 137] (wl 138 l1 l2) (fun _ : Unit => none) (fun _ : Unit => wl 139 ((137, 0, 138) :: l1) ((137, 1, -4) :: l2)) (some ()) := by
  refine ctr_of (by decide) (Nat.le_of_ble_eq_true rfl) mwX6_init.1 (fun X hl hR C R hnm => ?_)
  subst hl
  refine z_lv (lv' := [(0, vr G 137)]) [0] rfl ?_
  refine z_aload_n C 0 rfl 0 rfl dX6_init_0 1 rfl ?_
  refine c_obj C hR loX6 (Nat.le_of_ble_eq_true rfl) (by decide) dX6_init_1 4 rfl ?_
  refine z_aload_n C 0 rfl 0 rfl dX6_init_4 5 rfl ?_
  refine z_bipush C (by decide) dX6_init_5 7 rfl ?_
  refine c_newa (t := 1) (N := 64) C hR (uw_in tb_82 rfl) (Or.inl ⟨rfl, rfl⟩) rfl f2 ⟨w32_id (a := 64) (by decide), by decide⟩ (by decide) dX6_init_7 9 rfl (k := 138) rfl ?_
  refine zn (1, 64) rfl 139 rfl ?_
  have f1 := frs_m f1 (show 138 ≤ 139 by decide)
  have f2 := frs_m f2 (show 138 ≤ 139 by decide)
  refine c_putF C hnm fFX6_9 ⟨rfl, by decide, by decide⟩ (by decide) dX6_init_9 12 rfl ?_
  have f1 := frs_c (e := (137, 0, 138)) (show (137 : Int) < ((139 : Nat) : Int) by decide) f1
  refine z_aload_n C 0 rfl 0 rfl dX6_init_12 13 rfl ?_
  refine z_bipush C (by decide) dX6_init_13 15 rfl ?_
  refine c_putI C fX6_15 ⟨rfl, by decide, by decide⟩ dX6_init_15 18 rfl ?_
  have f2 := frs_c (e := (137, 1, -4)) (show (137 : Int) < ((139 : Nat) : Int) by decide) f2
  exact z_vret C R rfl rfl dX6_init_18
def rmI139 : Room := { frames := 1, cells := 1, slots := 64, locals := 30 }
set_option maxRecDepth 100000 in
set_option maxHeartbeats 4000000 in
theorem ti_139 (l : Launch) (G : GG) (l1 l2 : List (Int × Int × Int)) (f1 : frs 140 l1) (f2 : frs 140 l2) : Ctr l G yX6_init cX6_init 1 none rmI139 [vr G 139] (wl 140 l1 l2) (fun _ : Unit => none) (fun _ : Unit => wl 141 ((139, 0, 140) :: l1) ((139, 1, -4) :: l2)) (some ()) := by
  refine ctr_of (by decide) (Nat.le_of_ble_eq_true rfl) mwX6_init.1 (fun X hl hR C R hnm => ?_)
  subst hl
  refine z_lv (lv' := [(0, vr G 139)]) [0] rfl ?_
  refine z_aload_n C 0 rfl 0 rfl dX6_init_0 1 rfl ?_
  refine c_obj C hR loX6 (Nat.le_of_ble_eq_true rfl) (by decide) dX6_init_1 4 rfl ?_
  refine z_aload_n C 0 rfl 0 rfl dX6_init_4 5 rfl ?_
  refine z_bipush C (by decide) dX6_init_5 7 rfl ?_
  refine c_newa (t := 1) (N := 64) C hR (uw_in tb_82 rfl) (Or.inl ⟨rfl, rfl⟩) rfl f2 ⟨w32_id (a := 64) (by decide), by decide⟩ (by decide) dX6_init_7 9 rfl (k := 140) rfl ?_
  refine zn (1, 64) rfl 141 rfl ?_
  have f1 := frs_m f1 (show 140 ≤ 141 by decide)
  have f2 := frs_m f2 (show 140 ≤ 141 by decide)
  refine c_putF C hnm fFX6_9 ⟨rfl, by decide, by decide⟩ (by decide) dX6_init_9 12 rfl ?_
  have f1 := frs_c (e := (139, 0, 140)) (show (139 : Int) < ((141 : Nat) : Int) by decide) f1
  refine z_aload_n C 0 rfl 0 rfl dX6_init_12 13 rfl ?_
  refine z_bipush C (by decide) dX6_init_13 15 rfl ?_
  refine c_putI C fX6_15 ⟨rfl, by decide, by decide⟩ dX6_init_15 18 rfl ?_
  have f2 := frs_c (e := (139, 1, -4)) (show (139 : Int) < ((141 : Nat) : Int) by decide) f2
  exact z_vret C R rfl rfl dX6_init_18
def rmI141 : Room := { frames := 1, cells := 1, slots := 64, locals := 30 }
set_option maxRecDepth 100000 in
set_option maxHeartbeats 4000000 in
theorem ti_141 (l : Launch) (G : GG) (l1 l2 : List (Int × Int × Int)) (f1 : frs 142 l1) (f2 : frs 142 l2) : Ctr l G yX6_init cX6_init 1 none rmI141 [vr G 141] (wl 142 l1 l2) (fun _ : Unit => none) (fun _ : Unit => wl 143 ((141, 0, 142) :: l1) ((141, 1, -4) :: l2)) (some ()) := by
  refine ctr_of (by decide) (Nat.le_of_ble_eq_true rfl) mwX6_init.1 (fun X hl hR C R hnm => ?_)
  subst hl
  refine z_lv (lv' := [(0, vr G 141)]) [0] rfl ?_
  refine z_aload_n C 0 rfl 0 rfl dX6_init_0 1 rfl ?_
  refine c_obj C hR loX6 (Nat.le_of_ble_eq_true rfl) (by decide) dX6_init_1 4 rfl ?_
  refine z_aload_n C 0 rfl 0 rfl dX6_init_4 5 rfl ?_
  refine z_bipush C (by decide) dX6_init_5 7 rfl ?_
  refine c_newa (t := 1) (N := 64) C hR (uw_in tb_82 rfl) (Or.inl ⟨rfl, rfl⟩) rfl f2 ⟨w32_id (a := 64) (by decide), by decide⟩ (by decide) dX6_init_7 9 rfl (k := 142) rfl ?_
  refine zn (1, 64) rfl 143 rfl ?_
  have f1 := frs_m f1 (show 142 ≤ 143 by decide)
  have f2 := frs_m f2 (show 142 ≤ 143 by decide)
  refine c_putF C hnm fFX6_9 ⟨rfl, by decide, by decide⟩ (by decide) dX6_init_9 12 rfl ?_
  have f1 := frs_c (e := (141, 0, 142)) (show (141 : Int) < ((143 : Nat) : Int) by decide) f1
  refine z_aload_n C 0 rfl 0 rfl dX6_init_12 13 rfl ?_
  refine z_bipush C (by decide) dX6_init_13 15 rfl ?_
  refine c_putI C fX6_15 ⟨rfl, by decide, by decide⟩ dX6_init_15 18 rfl ?_
  have f2 := frs_c (e := (141, 1, -4)) (show (141 : Int) < ((143 : Nat) : Int) by decide) f2
  exact z_vret C R rfl rfl dX6_init_18
def rmI0 : Room := { frames := 3, cells := 142, slots := 10518, locals := 71 }
set_option maxRecDepth 100000 in
set_option maxHeartbeats 4000000 in
theorem ti_0 (l : Launch) (G : GG) (l1 l2 : List (Int × Int × Int)) (f1 : frs 1 l1) (f2 : frs 1 l2) : Ctr l G yX10_init cX10_init 2 none rmI0 [vr G 0] (wl 1 l1 l2) (fun _ : Unit => none) (fun _ : Unit => wl 143 ((60, 3, 141) :: (141, 0, 142) :: (60, 2, 139) :: (139, 0, 140) :: (60, 1, 137) :: (137, 0, 138) :: (60, 0, 135) :: (135, 0, 136) :: (59, 5, 123) :: (131, 2, 134) :: (131, 1, 133) :: (131, 0, 132) :: (123, 7, 131) :: (123, 6, 130) :: (123, 5, 129) :: (123, 4, 128) :: (123, 3, 127) :: (123, 2, 126) :: (123, 1, 125) :: (123, 0, 124) :: (59, 4, 111) :: (119, 2, 122) :: (119, 1, 121) :: (119, 0, 120) :: (111, 7, 119) :: (111, 6, 118) :: (111, 5, 117) :: (111, 4, 116) :: (111, 3, 115) :: (111, 2, 114) :: (111, 1, 113) :: (111, 0, 112) :: (59, 3, 99) :: (107, 2, 110) :: (107, 1, 109) :: (107, 0, 108) :: (99, 7, 107) :: (99, 6, 106) :: (99, 5, 105) :: (99, 4, 104) :: (99, 3, 103) :: (99, 2, 102) :: (99, 1, 101) :: (99, 0, 100) :: (59, 2, 87) :: (95, 2, 98) :: (95, 1, 97) :: (95, 0, 96) :: (87, 7, 95) :: (87, 6, 94) :: (87, 5, 93) :: (87, 4, 92) :: (87, 3, 91) :: (87, 2, 90) :: (87, 1, 89) :: (87, 0, 88) :: (59, 1, 75) :: (83, 2, 86) :: (83, 1, 85) :: (83, 0, 84) :: (75, 7, 83) :: (75, 6, 82) :: (75, 5, 81) :: (75, 4, 80) :: (75, 3, 79) :: (75, 2, 78) :: (75, 1, 77) :: (75, 0, 76) :: (59, 0, 63) :: (71, 2, 74) :: (71, 1, 73) :: (71, 0, 72) :: (63, 7, 71) :: (63, 6, 70) :: (63, 5, 69) :: (63, 4, 68) :: (63, 3, 67) :: (63, 2, 66) :: (63, 1, 65) :: (63, 0, 64) :: (0, 11, 62) :: (0, 10, 61) :: (0, 9, 60) :: (0, 8, 59) :: (0, 7, 57) :: (57, 3, 58) :: (0, 6, 50) :: (50, 2, 1) :: (50, 4, 56) :: (50, 3, 52) :: (52, 2, 55) :: (52, 1, 54) :: (52, 0, 53) :: (50, 0, 51) :: (0, 5, 43) :: (43, 3, 49) :: (43, 2, 45) :: (45, 2, 48) :: (45, 1, 47) :: (45, 0, 46) :: (43, 0, 44) :: (0, 4, 33) :: (33, 0, 27) :: (33, 9, 42) :: (33, 8, 41) :: (33, 7, 40) :: (33, 6, 39) :: (33, 5, 38) :: (33, 4, 37) :: (33, 3, 36) :: (33, 2, 35) :: (33, 1, 34) :: (0, 3, 27) :: (27, 4, 32) :: (27, 3, 31) :: (27, 2, 30) :: (27, 1, 29) :: (27, 0, 28) :: (0, 2, 17) :: (17, 0, 1) :: (17, 9, 26) :: (17, 8, 25) :: (17, 7, 24) :: (17, 6, 23) :: (17, 5, 22) :: (17, 4, 21) :: (17, 3, 20) :: (17, 2, 19) :: (17, 1, 18) :: (0, 1, 7) :: (7, 0, 1) :: (7, 9, 16) :: (7, 8, 15) :: (7, 7, 14) :: (7, 6, 13) :: (7, 5, 12) :: (7, 4, 11) :: (7, 3, 10) :: (7, 2, 9) :: (7, 1, 8) :: (0, 0, 1) :: (1, 4, 6) :: (1, 3, 5) :: (1, 2, 4) :: (1, 1, 3) :: (1, 0, 2) :: l1) ((141, 1, -4) :: (139, 1, -4) :: (137, 1, -4) :: (135, 1, -4) :: (130, 0, -1) :: (129, 0, -1) :: (118, 0, -1) :: (117, 0, -1) :: (106, 0, -1) :: (105, 0, -1) :: (94, 0, -1) :: (93, 0, -1) :: (82, 0, -1) :: (81, 0, -1) :: (70, 0, -1) :: (69, 0, -1) :: (50, 5, -1) :: (43, 4, -1) :: (36, 0, -4) :: (36, 1, -4) :: (36, 2, -4) :: (36, 3, -4) :: (36, 4, -4) :: (36, 5, -4) :: (36, 6, -4) :: (36, 7, -4) :: (36, 8, -4) :: (20, 0, -4) :: (20, 1, -4) :: (20, 2, -4) :: (20, 3, -4) :: (20, 4, -4) :: (20, 5, -4) :: (20, 6, -4) :: (20, 7, -4) :: (20, 8, -4) :: (10, 0, -4) :: (10, 1, -4) :: (10, 2, -4) :: (10, 3, -4) :: (10, 4, -4) :: (10, 5, -4) :: (10, 6, -4) :: (10, 7, -4) :: (10, 8, -4) :: l2)) (some ()) := by
  refine ctr_of (by decide) (Nat.le_of_ble_eq_true rfl) mwX10_init.1 (fun X hl hR C R hnm => ?_)
  subst hl
  refine z_lv (lv' := [(0, vr G 0)]) [0] rfl ?_
  refine z_aload_n C 0 rfl 0 rfl dX10_init_0 1 rfl ?_
  refine c_obj C hR loX10 (Nat.le_of_ble_eq_true rfl) (by decide) dX10_init_1 4 rfl ?_
  refine z_aload_n C 0 rfl 0 rfl dX10_init_4 5 rfl ?_
  refine c_new C hR cf0 rfl (uw_in tb_29 rfl) (uw_in tb_30 rfl) (uw_in tb_2 rfl) f1 f2 (by decide) dX10_init_5 8 rfl (k := 1) rfl ?_
  refine zn (1, 8) rfl 2 rfl ?_
  have f1 := frs_m f1 (show 1 ≤ 2 by decide)
  have f2 := frs_m f2 (show 1 ≤ 2 by decide)
  refine z_dup C rfl dX10_init_8 9 rfl ?_
  refine c_callI C hR (ti_1 (mL X) G _ _ f1 f2) mwX0_init miX0_init rfl (Or.inr ⟨RX10, by decide⟩) rfl rfl (Nat.le_of_ble_eq_true rfl) (by decide) (by decide) dX10_init_9 12 rfl ?_
  refine zn (6, 89) rfl 7 rfl ?_
  have f1 := frs_m f1 (show 2 ≤ 7 by decide)
  have f2 := frs_m f2 (show 2 ≤ 7 by decide)
  have f1 := frs_c (e := (1, 0, 2)) (show (1 : Int) < ((7 : Nat) : Int) by decide) f1
  have f1 := frs_c (e := (1, 1, 3)) (show (1 : Int) < ((7 : Nat) : Int) by decide) f1
  have f1 := frs_c (e := (1, 2, 4)) (show (1 : Int) < ((7 : Nat) : Int) by decide) f1
  have f1 := frs_c (e := (1, 3, 5)) (show (1 : Int) < ((7 : Nat) : Int) by decide) f1
  have f1 := frs_c (e := (1, 4, 6)) (show (1 : Int) < ((7 : Nat) : Int) by decide) f1
  refine c_putF C hnm fFX10_10 ⟨rfl, by decide, by decide⟩ (by decide) dX10_init_12 15 rfl ?_
  have f1 := frs_c (e := (0, 0, 1)) (show (0 : Int) < ((7 : Nat) : Int) by decide) f1
  refine z_aload_n C 0 rfl 0 rfl dX10_init_15 16 rfl ?_
  refine c_new C hR cf7 rfl (uw_in tb_83 rfl) (uw_in tb_84 rfl) (uw_in tb_3 rfl) f1 f2 (by decide) dX10_init_16 19 rfl (k := 7) rfl ?_
  refine zn (7, 102) rfl 8 rfl ?_
  have f1 := frs_m f1 (show 7 ≤ 8 by decide)
  have f2 := frs_m f2 (show 7 ≤ 8 by decide)
  refine z_dup C rfl dX10_init_19 20 rfl ?_
  refine z_aload_n C 0 rfl 0 rfl dX10_init_20 21 rfl ?_
  refine c_getR (k2 := 1) C fX10_10 ⟨rfl, by decide, by decide⟩ (by simp [LL]) dX10_init_21 24 rfl ?_
  refine c_callI C hR (ti_7 (mL X) G _ _ f1 f2) mwX7_init miX7_init rfl (Or.inl lkX10_18) rfl rfl (Nat.le_of_ble_eq_true rfl) (by decide) (by decide) dX10_init_24 27 rfl ?_
  refine zn (16, 222) rfl 17 rfl ?_
  have f1 := frs_m f1 (show 8 ≤ 17 by decide)
  have f2 := frs_m f2 (show 8 ≤ 17 by decide)
  have f1 := frs_c (e := (7, 1, 8)) (show (7 : Int) < ((17 : Nat) : Int) by decide) f1
  have f1 := frs_c (e := (7, 2, 9)) (show (7 : Int) < ((17 : Nat) : Int) by decide) f1
  have f1 := frs_c (e := (7, 3, 10)) (show (7 : Int) < ((17 : Nat) : Int) by decide) f1
  have f1 := frs_c (e := (7, 4, 11)) (show (7 : Int) < ((17 : Nat) : Int) by decide) f1
  have f1 := frs_c (e := (7, 5, 12)) (show (7 : Int) < ((17 : Nat) : Int) by decide) f1
  have f1 := frs_c (e := (7, 6, 13)) (show (7 : Int) < ((17 : Nat) : Int) by decide) f1
  have f1 := frs_c (e := (7, 7, 14)) (show (7 : Int) < ((17 : Nat) : Int) by decide) f1
  have f1 := frs_c (e := (7, 8, 15)) (show (7 : Int) < ((17 : Nat) : Int) by decide) f1
  have f1 := frs_c (e := (7, 9, 16)) (show (7 : Int) < ((17 : Nat) : Int) by decide) f1
  have f1 := frs_c (e := (7, 0, 1)) (show (7 : Int) < ((17 : Nat) : Int) by decide) f1
  have f2 := frs_c (e := (10, 8, -4)) (show (10 : Int) < ((17 : Nat) : Int) by decide) f2
  have f2 := frs_c (e := (10, 7, -4)) (show (10 : Int) < ((17 : Nat) : Int) by decide) f2
  have f2 := frs_c (e := (10, 6, -4)) (show (10 : Int) < ((17 : Nat) : Int) by decide) f2
  have f2 := frs_c (e := (10, 5, -4)) (show (10 : Int) < ((17 : Nat) : Int) by decide) f2
  have f2 := frs_c (e := (10, 4, -4)) (show (10 : Int) < ((17 : Nat) : Int) by decide) f2
  have f2 := frs_c (e := (10, 3, -4)) (show (10 : Int) < ((17 : Nat) : Int) by decide) f2
  have f2 := frs_c (e := (10, 2, -4)) (show (10 : Int) < ((17 : Nat) : Int) by decide) f2
  have f2 := frs_c (e := (10, 1, -4)) (show (10 : Int) < ((17 : Nat) : Int) by decide) f2
  have f2 := frs_c (e := (10, 0, -4)) (show (10 : Int) < ((17 : Nat) : Int) by decide) f2
  refine c_putF C hnm fFX10_21 ⟨rfl, by decide, by decide⟩ (by decide) dX10_init_27 30 rfl ?_
  have f1 := frs_c (e := (0, 1, 7)) (show (0 : Int) < ((17 : Nat) : Int) by decide) f1
  refine z_aload_n C 0 rfl 0 rfl dX10_init_30 31 rfl ?_
  refine c_new C hR cf7 rfl (uw_in tb_83 rfl) (uw_in tb_84 rfl) (uw_in tb_3 rfl) f1 f2 (by decide) dX10_init_31 34 rfl (k := 17) rfl ?_
  refine zn (17, 235) rfl 18 rfl ?_
  have f1 := frs_m f1 (show 17 ≤ 18 by decide)
  have f2 := frs_m f2 (show 17 ≤ 18 by decide)
  refine z_dup C rfl dX10_init_34 35 rfl ?_
  refine z_aload_n C 0 rfl 0 rfl dX10_init_35 36 rfl ?_
  refine c_getR (k2 := 1) C fX10_10 ⟨rfl, by decide, by decide⟩ (by simp [LL]) dX10_init_36 39 rfl ?_
  refine c_callI C hR (ti_17 (mL X) G _ _ f1 f2) mwX7_init miX7_init rfl (Or.inl lkX10_18) rfl rfl (Nat.le_of_ble_eq_true rfl) (by decide) (by decide) dX10_init_39 42 rfl ?_
  refine zn (26, 355) rfl 27 rfl ?_
  have f1 := frs_m f1 (show 18 ≤ 27 by decide)
  have f2 := frs_m f2 (show 18 ≤ 27 by decide)
  have f1 := frs_c (e := (17, 1, 18)) (show (17 : Int) < ((27 : Nat) : Int) by decide) f1
  have f1 := frs_c (e := (17, 2, 19)) (show (17 : Int) < ((27 : Nat) : Int) by decide) f1
  have f1 := frs_c (e := (17, 3, 20)) (show (17 : Int) < ((27 : Nat) : Int) by decide) f1
  have f1 := frs_c (e := (17, 4, 21)) (show (17 : Int) < ((27 : Nat) : Int) by decide) f1
  have f1 := frs_c (e := (17, 5, 22)) (show (17 : Int) < ((27 : Nat) : Int) by decide) f1
  have f1 := frs_c (e := (17, 6, 23)) (show (17 : Int) < ((27 : Nat) : Int) by decide) f1
  have f1 := frs_c (e := (17, 7, 24)) (show (17 : Int) < ((27 : Nat) : Int) by decide) f1
  have f1 := frs_c (e := (17, 8, 25)) (show (17 : Int) < ((27 : Nat) : Int) by decide) f1
  have f1 := frs_c (e := (17, 9, 26)) (show (17 : Int) < ((27 : Nat) : Int) by decide) f1
  have f1 := frs_c (e := (17, 0, 1)) (show (17 : Int) < ((27 : Nat) : Int) by decide) f1
  have f2 := frs_c (e := (20, 8, -4)) (show (20 : Int) < ((27 : Nat) : Int) by decide) f2
  have f2 := frs_c (e := (20, 7, -4)) (show (20 : Int) < ((27 : Nat) : Int) by decide) f2
  have f2 := frs_c (e := (20, 6, -4)) (show (20 : Int) < ((27 : Nat) : Int) by decide) f2
  have f2 := frs_c (e := (20, 5, -4)) (show (20 : Int) < ((27 : Nat) : Int) by decide) f2
  have f2 := frs_c (e := (20, 4, -4)) (show (20 : Int) < ((27 : Nat) : Int) by decide) f2
  have f2 := frs_c (e := (20, 3, -4)) (show (20 : Int) < ((27 : Nat) : Int) by decide) f2
  have f2 := frs_c (e := (20, 2, -4)) (show (20 : Int) < ((27 : Nat) : Int) by decide) f2
  have f2 := frs_c (e := (20, 1, -4)) (show (20 : Int) < ((27 : Nat) : Int) by decide) f2
  have f2 := frs_c (e := (20, 0, -4)) (show (20 : Int) < ((27 : Nat) : Int) by decide) f2
  refine c_putF C hnm fFX10_25 ⟨rfl, by decide, by decide⟩ (by decide) dX10_init_42 45 rfl ?_
  have f1 := frs_c (e := (0, 2, 17)) (show (0 : Int) < ((27 : Nat) : Int) by decide) f1
  refine z_aload_n C 0 rfl 0 rfl dX10_init_45 46 rfl ?_
  refine c_new C hR cf0 rfl (uw_in tb_29 rfl) (uw_in tb_30 rfl) (uw_in tb_2 rfl) f1 f2 (by decide) dX10_init_46 49 rfl (k := 27) rfl ?_
  refine zn (27, 363) rfl 28 rfl ?_
  have f1 := frs_m f1 (show 27 ≤ 28 by decide)
  have f2 := frs_m f2 (show 27 ≤ 28 by decide)
  refine z_dup C rfl dX10_init_49 50 rfl ?_
  refine c_callI C hR (ti_27 (mL X) G _ _ f1 f2) mwX0_init miX0_init rfl (Or.inr ⟨RX10, by decide⟩) rfl rfl (Nat.le_of_ble_eq_true rfl) (by decide) (by decide) dX10_init_50 53 rfl ?_
  refine zn (32, 444) rfl 33 rfl ?_
  have f1 := frs_m f1 (show 28 ≤ 33 by decide)
  have f2 := frs_m f2 (show 28 ≤ 33 by decide)
  have f1 := frs_c (e := (27, 0, 28)) (show (27 : Int) < ((33 : Nat) : Int) by decide) f1
  have f1 := frs_c (e := (27, 1, 29)) (show (27 : Int) < ((33 : Nat) : Int) by decide) f1
  have f1 := frs_c (e := (27, 2, 30)) (show (27 : Int) < ((33 : Nat) : Int) by decide) f1
  have f1 := frs_c (e := (27, 3, 31)) (show (27 : Int) < ((33 : Nat) : Int) by decide) f1
  have f1 := frs_c (e := (27, 4, 32)) (show (27 : Int) < ((33 : Nat) : Int) by decide) f1
  refine c_putF C hnm fFX10_28 ⟨rfl, by decide, by decide⟩ (by decide) dX10_init_53 56 rfl ?_
  have f1 := frs_c (e := (0, 3, 27)) (show (0 : Int) < ((33 : Nat) : Int) by decide) f1
  refine z_aload_n C 0 rfl 0 rfl dX10_init_56 57 rfl ?_
  refine c_new C hR cf7 rfl (uw_in tb_83 rfl) (uw_in tb_84 rfl) (uw_in tb_3 rfl) f1 f2 (by decide) dX10_init_57 60 rfl (k := 33) rfl ?_
  refine zn (33, 457) rfl 34 rfl ?_
  have f1 := frs_m f1 (show 33 ≤ 34 by decide)
  have f2 := frs_m f2 (show 33 ≤ 34 by decide)
  refine z_dup C rfl dX10_init_60 61 rfl ?_
  refine z_aload_n C 0 rfl 0 rfl dX10_init_61 62 rfl ?_
  refine c_getR (k2 := 27) C fX10_28 ⟨rfl, by decide, by decide⟩ (by simp [LL]) dX10_init_62 65 rfl ?_
  refine c_callI C hR (ti_33 (mL X) G _ _ f1 f2) mwX7_init miX7_init rfl (Or.inl lkX10_18) rfl rfl (Nat.le_of_ble_eq_true rfl) (by decide) (by decide) dX10_init_65 68 rfl ?_
  refine zn (42, 577) rfl 43 rfl ?_
  have f1 := frs_m f1 (show 34 ≤ 43 by decide)
  have f2 := frs_m f2 (show 34 ≤ 43 by decide)
  have f1 := frs_c (e := (33, 1, 34)) (show (33 : Int) < ((43 : Nat) : Int) by decide) f1
  have f1 := frs_c (e := (33, 2, 35)) (show (33 : Int) < ((43 : Nat) : Int) by decide) f1
  have f1 := frs_c (e := (33, 3, 36)) (show (33 : Int) < ((43 : Nat) : Int) by decide) f1
  have f1 := frs_c (e := (33, 4, 37)) (show (33 : Int) < ((43 : Nat) : Int) by decide) f1
  have f1 := frs_c (e := (33, 5, 38)) (show (33 : Int) < ((43 : Nat) : Int) by decide) f1
  have f1 := frs_c (e := (33, 6, 39)) (show (33 : Int) < ((43 : Nat) : Int) by decide) f1
  have f1 := frs_c (e := (33, 7, 40)) (show (33 : Int) < ((43 : Nat) : Int) by decide) f1
  have f1 := frs_c (e := (33, 8, 41)) (show (33 : Int) < ((43 : Nat) : Int) by decide) f1
  have f1 := frs_c (e := (33, 9, 42)) (show (33 : Int) < ((43 : Nat) : Int) by decide) f1
  have f1 := frs_c (e := (33, 0, 27)) (show (33 : Int) < ((43 : Nat) : Int) by decide) f1
  have f2 := frs_c (e := (36, 8, -4)) (show (36 : Int) < ((43 : Nat) : Int) by decide) f2
  have f2 := frs_c (e := (36, 7, -4)) (show (36 : Int) < ((43 : Nat) : Int) by decide) f2
  have f2 := frs_c (e := (36, 6, -4)) (show (36 : Int) < ((43 : Nat) : Int) by decide) f2
  have f2 := frs_c (e := (36, 5, -4)) (show (36 : Int) < ((43 : Nat) : Int) by decide) f2
  have f2 := frs_c (e := (36, 4, -4)) (show (36 : Int) < ((43 : Nat) : Int) by decide) f2
  have f2 := frs_c (e := (36, 3, -4)) (show (36 : Int) < ((43 : Nat) : Int) by decide) f2
  have f2 := frs_c (e := (36, 2, -4)) (show (36 : Int) < ((43 : Nat) : Int) by decide) f2
  have f2 := frs_c (e := (36, 1, -4)) (show (36 : Int) < ((43 : Nat) : Int) by decide) f2
  have f2 := frs_c (e := (36, 0, -4)) (show (36 : Int) < ((43 : Nat) : Int) by decide) f2
  refine c_putF C hnm fFX10_31 ⟨rfl, by decide, by decide⟩ (by decide) dX10_init_68 71 rfl ?_
  have f1 := frs_c (e := (0, 4, 33)) (show (0 : Int) < ((43 : Nat) : Int) by decide) f1
  refine z_aload_n C 0 rfl 0 rfl dX10_init_71 72 rfl ?_
  refine c_new C hR cf3 rfl (uw_in tb_139 rfl) (uw_in tb_140 rfl) (uw_in tb_5 rfl) f1 f2 (by decide) dX10_init_72 75 rfl (k := 43) rfl ?_
  refine zn (43, 583) rfl 44 rfl ?_
  have f1 := frs_m f1 (show 43 ≤ 44 by decide)
  have f2 := frs_m f2 (show 43 ≤ 44 by decide)
  refine z_dup C rfl dX10_init_75 76 rfl ?_
  refine c_callI C hR (ti_43 (mL X) G _ _ f1 f2) mwX3_init miX3_init rfl (Or.inr ⟨RX10, by decide⟩) rfl rfl (Nat.le_of_ble_eq_true rfl) (by decide) (by decide) dX10_init_76 79 rfl ?_
  refine zn (49, 6434) rfl 50 rfl ?_
  have f1 := frs_m f1 (show 44 ≤ 50 by decide)
  have f2 := frs_m f2 (show 44 ≤ 50 by decide)
  have f1 := frs_c (e := (43, 0, 44)) (show (43 : Int) < ((50 : Nat) : Int) by decide) f1
  have f1 := frs_c (e := (45, 0, 46)) (show (45 : Int) < ((50 : Nat) : Int) by decide) f1
  have f1 := frs_c (e := (45, 1, 47)) (show (45 : Int) < ((50 : Nat) : Int) by decide) f1
  have f1 := frs_c (e := (45, 2, 48)) (show (45 : Int) < ((50 : Nat) : Int) by decide) f1
  have f1 := frs_c (e := (43, 2, 45)) (show (43 : Int) < ((50 : Nat) : Int) by decide) f1
  have f1 := frs_c (e := (43, 3, 49)) (show (43 : Int) < ((50 : Nat) : Int) by decide) f1
  have f2 := frs_c (e := (43, 4, -1)) (show (43 : Int) < ((50 : Nat) : Int) by decide) f2
  refine c_putF C hnm fFX10_37 ⟨rfl, by decide, by decide⟩ (by decide) dX10_init_79 82 rfl ?_
  have f1 := frs_c (e := (0, 5, 43)) (show (0 : Int) < ((50 : Nat) : Int) by decide) f1
  refine z_aload_n C 0 rfl 0 rfl dX10_init_82 83 rfl ?_
  refine c_new C hR cf1 rfl (uw_in tb_190 rfl) (uw_in tb_191 rfl) (uw_in tb_7 rfl) f1 f2 (by decide) dX10_init_83 86 rfl (k := 50) rfl ?_
  refine zn (50, 6440) rfl 51 rfl ?_
  have f1 := frs_m f1 (show 50 ≤ 51 by decide)
  have f2 := frs_m f2 (show 50 ≤ 51 by decide)
  refine z_dup C rfl dX10_init_86 87 rfl ?_
  refine z_aload_n C 0 rfl 0 rfl dX10_init_87 88 rfl ?_
  refine c_getR (k2 := 1) C fX10_10 ⟨rfl, by decide, by decide⟩ (by simp [LL]) dX10_init_88 91 rfl ?_
  refine c_callI C hR (ti_50 (mL X) G _ _ f1 f2) mwX1_init miX1_init rfl (Or.inl lkX10_43) rfl rfl (Nat.le_of_ble_eq_true rfl) (by decide) (by decide) dX10_init_91 94 rfl ?_
  refine zn (56, 9697) rfl 57 rfl ?_
  have f1 := frs_m f1 (show 51 ≤ 57 by decide)
  have f2 := frs_m f2 (show 51 ≤ 57 by decide)
  have f1 := frs_c (e := (50, 0, 51)) (show (50 : Int) < ((57 : Nat) : Int) by decide) f1
  have f1 := frs_c (e := (52, 0, 53)) (show (52 : Int) < ((57 : Nat) : Int) by decide) f1
  have f1 := frs_c (e := (52, 1, 54)) (show (52 : Int) < ((57 : Nat) : Int) by decide) f1
  have f1 := frs_c (e := (52, 2, 55)) (show (52 : Int) < ((57 : Nat) : Int) by decide) f1
  have f1 := frs_c (e := (50, 3, 52)) (show (50 : Int) < ((57 : Nat) : Int) by decide) f1
  have f1 := frs_c (e := (50, 4, 56)) (show (50 : Int) < ((57 : Nat) : Int) by decide) f1
  have f1 := frs_c (e := (50, 2, 1)) (show (50 : Int) < ((57 : Nat) : Int) by decide) f1
  have f2 := frs_c (e := (50, 5, -1)) (show (50 : Int) < ((57 : Nat) : Int) by decide) f2
  refine c_putF C hnm fFX10_44 ⟨rfl, by decide, by decide⟩ (by decide) dX10_init_94 97 rfl ?_
  have f1 := frs_c (e := (0, 6, 50)) (show (0 : Int) < ((57 : Nat) : Int) by decide) f1
  refine z_aload_n C 0 rfl 0 rfl dX10_init_97 98 rfl ?_
  refine c_new C hR cf8 rfl (uw_in tb_220 rfl) (uw_in tb_221 rfl) (uw_in tb_8 rfl) f1 f2 (by decide) dX10_init_98 101 rfl (k := 57) rfl ?_
  refine zn (57, 9705) rfl 58 rfl ?_
  have f1 := frs_m f1 (show 57 ≤ 58 by decide)
  have f2 := frs_m f2 (show 57 ≤ 58 by decide)
  refine z_dup C rfl dX10_init_101 102 rfl ?_
  refine c_callI C hR (ti_57 (mL X) G _ _ f1 f2) mwX8_init miX8_init rfl (Or.inr ⟨RX10, by decide⟩) rfl rfl (Nat.le_of_ble_eq_true rfl) (by decide) (by decide) dX10_init_102 105 rfl ?_
  refine zn (58, 9865) rfl 59 rfl ?_
  have f1 := frs_m f1 (show 58 ≤ 59 by decide)
  have f2 := frs_m f2 (show 58 ≤ 59 by decide)
  have f1 := frs_c (e := (57, 3, 58)) (show (57 : Int) < ((59 : Nat) : Int) by decide) f1
  refine c_putF C hnm fFX10_51 ⟨rfl, by decide, by decide⟩ (by decide) dX10_init_105 108 rfl ?_
  have f1 := frs_c (e := (0, 7, 57)) (show (0 : Int) < ((59 : Nat) : Int) by decide) f1
  refine z_aload_n C 0 rfl 0 rfl dX10_init_108 109 rfl ?_
  refine z_bipush C (by decide) dX10_init_109 111 rfl ?_
  refine c_anew (t := 0) (N := 6) C hR (by decide) (uw_in tb_254 rfl) rfl f1 ⟨w32_id (a := 6) (by decide), by decide⟩ (by decide) dX10_init_111 114 rfl (k := 59) rfl ?_
  refine zn (59, 9871) rfl 60 rfl ?_
  have f1 := frs_m f1 (show 59 ≤ 60 by decide)
  have f2 := frs_m f2 (show 59 ≤ 60 by decide)
  refine c_putF C hnm fFX10_57 ⟨rfl, by decide, by decide⟩ (by decide) dX10_init_114 117 rfl ?_
  have f1 := frs_c (e := (0, 8, 59)) (show (0 : Int) < ((60 : Nat) : Int) by decide) f1
  refine z_aload_n C 0 rfl 0 rfl dX10_init_117 118 rfl ?_
  refine z_iconst C dX10_init_118 119 rfl ?_
  refine c_anew (t := 1) (N := 4) C hR (by decide) (uw_in tb_256 rfl) rfl f1 ⟨w32_id (a := 4) (by decide), by decide⟩ (by decide) dX10_init_119 122 rfl (k := 60) rfl ?_
  refine zn (60, 9875) rfl 61 rfl ?_
  have f1 := frs_m f1 (show 60 ≤ 61 by decide)
  have f2 := frs_m f2 (show 60 ≤ 61 by decide)
  refine c_putF C hnm fFX10_63 ⟨rfl, by decide, by decide⟩ (by decide) dX10_init_122 125 rfl ?_
  have f1 := frs_c (e := (0, 9, 60)) (show (0 : Int) < ((61 : Nat) : Int) by decide) f1
  refine z_aload_n C 0 rfl 0 rfl dX10_init_125 126 rfl ?_
  refine z_bipush C (by decide) dX10_init_126 128 rfl ?_
  refine c_newa (t := 1) (N := 9) C hR (uw_in tb_82 rfl) (Or.inl ⟨rfl, rfl⟩) rfl f2 ⟨w32_id (a := 9) (by decide), by decide⟩ (by decide) dX10_init_128 130 rfl (k := 61) rfl ?_
  refine zn (61, 9884) rfl 62 rfl ?_
  have f1 := frs_m f1 (show 61 ≤ 62 by decide)
  have f2 := frs_m f2 (show 61 ≤ 62 by decide)
  refine c_putF C hnm fFX10_67 ⟨rfl, by decide, by decide⟩ (by decide) dX10_init_130 133 rfl ?_
  have f1 := frs_c (e := (0, 10, 61)) (show (0 : Int) < ((62 : Nat) : Int) by decide) f1
  refine z_aload_n C 0 rfl 0 rfl dX10_init_133 134 rfl ?_
  refine z_bipush C (by decide) dX10_init_134 136 rfl ?_
  refine c_newa (t := 1) (N := 6) C hR (uw_in tb_82 rfl) (Or.inl ⟨rfl, rfl⟩) rfl f2 ⟨w32_id (a := 6) (by decide), by decide⟩ (by decide) dX10_init_136 138 rfl (k := 62) rfl ?_
  refine zn (62, 9890) rfl 63 rfl ?_
  have f1 := frs_m f1 (show 62 ≤ 63 by decide)
  have f2 := frs_m f2 (show 62 ≤ 63 by decide)
  refine c_putF C hnm fFX10_71 ⟨rfl, by decide, by decide⟩ (by decide) dX10_init_138 141 rfl ?_
  have f1 := frs_c (e := (0, 11, 62)) (show (0 : Int) < ((63 : Nat) : Int) by decide) f1
  refine z_iconst C dX10_init_141 142 rfl ?_
  refine z_istore_n (lv' := [(1, vi 0), (0, vr G 0)]) C 1 rfl (by decide) dX10_init_142 143 rfl rfl ?_
  refine z_iload_n C 1 rfl 0 rfl dX10_init_143 144 rfl ?_
  refine z_bipush C (by decide) dX10_init_144 146 rfl ?_
  refine c_ge_no C dX10_init_146 168 (by decide) 149 rfl (by decide) ?_
  refine z_aload_n C 0 rfl 1 rfl dX10_init_149 150 rfl ?_
  refine c_getR (k2 := 59) C fX10_57 ⟨rfl, by decide, by decide⟩ (by simp [LL]) dX10_init_150 153 rfl ?_
  refine z_iload_n C 1 rfl 0 rfl dX10_init_153 154 rfl ?_
  refine c_new C hR cf5 rfl (uw_in tb_254 rfl) (uw_in tb_258 rfl) (uw_in tb_9 rfl) f1 f2 (by decide) dX10_init_154 157 rfl (k := 63) rfl ?_
  refine zn (63, 9901) rfl 64 rfl ?_
  have f1 := frs_m f1 (show 63 ≤ 64 by decide)
  have f2 := frs_m f2 (show 63 ≤ 64 by decide)
  refine z_dup C rfl dX10_init_157 158 rfl ?_
  refine c_callI C hR (ti_63 (mL X) G _ _ f1 f2) mwX5_init miX5_init rfl (Or.inl lkX10_74) rfl rfl (Nat.le_of_ble_eq_true rfl) (by decide) (by decide) dX10_init_158 161 rfl ?_
  refine zn (74, 9950) rfl 75 rfl ?_
  have f1 := frs_m f1 (show 64 ≤ 75 by decide)
  have f2 := frs_m f2 (show 64 ≤ 75 by decide)
  have f1 := frs_c (e := (63, 0, 64)) (show (63 : Int) < ((75 : Nat) : Int) by decide) f1
  have f1 := frs_c (e := (63, 1, 65)) (show (63 : Int) < ((75 : Nat) : Int) by decide) f1
  have f1 := frs_c (e := (63, 2, 66)) (show (63 : Int) < ((75 : Nat) : Int) by decide) f1
  have f1 := frs_c (e := (63, 3, 67)) (show (63 : Int) < ((75 : Nat) : Int) by decide) f1
  have f1 := frs_c (e := (63, 4, 68)) (show (63 : Int) < ((75 : Nat) : Int) by decide) f1
  have f1 := frs_c (e := (63, 5, 69)) (show (63 : Int) < ((75 : Nat) : Int) by decide) f1
  have f1 := frs_c (e := (63, 6, 70)) (show (63 : Int) < ((75 : Nat) : Int) by decide) f1
  have f1 := frs_c (e := (63, 7, 71)) (show (63 : Int) < ((75 : Nat) : Int) by decide) f1
  have f1 := frs_c (e := (71, 0, 72)) (show (71 : Int) < ((75 : Nat) : Int) by decide) f1
  have f1 := frs_c (e := (71, 1, 73)) (show (71 : Int) < ((75 : Nat) : Int) by decide) f1
  have f1 := frs_c (e := (71, 2, 74)) (show (71 : Int) < ((75 : Nat) : Int) by decide) f1
  have f2 := frs_c (e := (69, 0, -1)) (show (69 : Int) < ((75 : Nat) : Int) by decide) f2
  have f2 := frs_c (e := (70, 0, -1)) (show (70 : Int) < ((75 : Nat) : Int) by decide) f2
  refine c_aast (t := 0) (N := 6) C (by decide) cf5 rfl ⟨rfl, by decide, by decide⟩ ⟨rfl, by decide, by decide⟩ dX10_init_161 162 rfl (w32_id (a := 0) (by decide)) (by decide) ?_
  have f1 := frs_c (e := (59, 0, 63)) (show (59 : Int) < ((75 : Nat) : Int) by decide) f1
  refine z_iinc (lv' := [(1, vi 1), (0, vr G 0)]) C (by decide) 0 rfl dX10_init_162 165 rfl rfl ?_
  refine z_goto C dX10_init_165 143 (by decide) ?_
  refine z_iload_n C 1 rfl 0 rfl dX10_init_143 144 rfl ?_
  refine z_bipush C (by decide) dX10_init_144 146 rfl ?_
  refine c_ge_no C dX10_init_146 168 (by decide) 149 rfl (by decide) ?_
  refine z_aload_n C 0 rfl 1 rfl dX10_init_149 150 rfl ?_
  refine c_getR (k2 := 59) C fX10_57 ⟨rfl, by decide, by decide⟩ (by simp [LL]) dX10_init_150 153 rfl ?_
  refine z_iload_n C 1 rfl 0 rfl dX10_init_153 154 rfl ?_
  refine c_new C hR cf5 rfl (uw_in tb_254 rfl) (uw_in tb_258 rfl) (uw_in tb_9 rfl) f1 f2 (by decide) dX10_init_154 157 rfl (k := 75) rfl ?_
  refine zn (75, 9961) rfl 76 rfl ?_
  have f1 := frs_m f1 (show 75 ≤ 76 by decide)
  have f2 := frs_m f2 (show 75 ≤ 76 by decide)
  refine z_dup C rfl dX10_init_157 158 rfl ?_
  refine c_callI C hR (ti_75 (mL X) G _ _ f1 f2) mwX5_init miX5_init rfl (Or.inl lkX10_74) rfl rfl (Nat.le_of_ble_eq_true rfl) (by decide) (by decide) dX10_init_158 161 rfl ?_
  refine zn (86, 10010) rfl 87 rfl ?_
  have f1 := frs_m f1 (show 76 ≤ 87 by decide)
  have f2 := frs_m f2 (show 76 ≤ 87 by decide)
  have f1 := frs_c (e := (75, 0, 76)) (show (75 : Int) < ((87 : Nat) : Int) by decide) f1
  have f1 := frs_c (e := (75, 1, 77)) (show (75 : Int) < ((87 : Nat) : Int) by decide) f1
  have f1 := frs_c (e := (75, 2, 78)) (show (75 : Int) < ((87 : Nat) : Int) by decide) f1
  have f1 := frs_c (e := (75, 3, 79)) (show (75 : Int) < ((87 : Nat) : Int) by decide) f1
  have f1 := frs_c (e := (75, 4, 80)) (show (75 : Int) < ((87 : Nat) : Int) by decide) f1
  have f1 := frs_c (e := (75, 5, 81)) (show (75 : Int) < ((87 : Nat) : Int) by decide) f1
  have f1 := frs_c (e := (75, 6, 82)) (show (75 : Int) < ((87 : Nat) : Int) by decide) f1
  have f1 := frs_c (e := (75, 7, 83)) (show (75 : Int) < ((87 : Nat) : Int) by decide) f1
  have f1 := frs_c (e := (83, 0, 84)) (show (83 : Int) < ((87 : Nat) : Int) by decide) f1
  have f1 := frs_c (e := (83, 1, 85)) (show (83 : Int) < ((87 : Nat) : Int) by decide) f1
  have f1 := frs_c (e := (83, 2, 86)) (show (83 : Int) < ((87 : Nat) : Int) by decide) f1
  have f2 := frs_c (e := (81, 0, -1)) (show (81 : Int) < ((87 : Nat) : Int) by decide) f2
  have f2 := frs_c (e := (82, 0, -1)) (show (82 : Int) < ((87 : Nat) : Int) by decide) f2
  refine c_aast (t := 0) (N := 6) C (by decide) cf5 rfl ⟨rfl, by decide, by decide⟩ ⟨rfl, by decide, by decide⟩ dX10_init_161 162 rfl (w32_id (a := 1) (by decide)) (by decide) ?_
  have f1 := frs_c (e := (59, 1, 75)) (show (59 : Int) < ((87 : Nat) : Int) by decide) f1
  refine z_iinc (lv' := [(1, vi 2), (0, vr G 0)]) C (by decide) 0 rfl dX10_init_162 165 rfl rfl ?_
  refine z_goto C dX10_init_165 143 (by decide) ?_
  refine z_iload_n C 1 rfl 0 rfl dX10_init_143 144 rfl ?_
  refine z_bipush C (by decide) dX10_init_144 146 rfl ?_
  refine c_ge_no C dX10_init_146 168 (by decide) 149 rfl (by decide) ?_
  refine z_aload_n C 0 rfl 1 rfl dX10_init_149 150 rfl ?_
  refine c_getR (k2 := 59) C fX10_57 ⟨rfl, by decide, by decide⟩ (by simp [LL]) dX10_init_150 153 rfl ?_
  refine z_iload_n C 1 rfl 0 rfl dX10_init_153 154 rfl ?_
  refine c_new C hR cf5 rfl (uw_in tb_254 rfl) (uw_in tb_258 rfl) (uw_in tb_9 rfl) f1 f2 (by decide) dX10_init_154 157 rfl (k := 87) rfl ?_
  refine zn (87, 10021) rfl 88 rfl ?_
  have f1 := frs_m f1 (show 87 ≤ 88 by decide)
  have f2 := frs_m f2 (show 87 ≤ 88 by decide)
  refine z_dup C rfl dX10_init_157 158 rfl ?_
  refine c_callI C hR (ti_87 (mL X) G _ _ f1 f2) mwX5_init miX5_init rfl (Or.inl lkX10_74) rfl rfl (Nat.le_of_ble_eq_true rfl) (by decide) (by decide) dX10_init_158 161 rfl ?_
  refine zn (98, 10070) rfl 99 rfl ?_
  have f1 := frs_m f1 (show 88 ≤ 99 by decide)
  have f2 := frs_m f2 (show 88 ≤ 99 by decide)
  have f1 := frs_c (e := (87, 0, 88)) (show (87 : Int) < ((99 : Nat) : Int) by decide) f1
  have f1 := frs_c (e := (87, 1, 89)) (show (87 : Int) < ((99 : Nat) : Int) by decide) f1
  have f1 := frs_c (e := (87, 2, 90)) (show (87 : Int) < ((99 : Nat) : Int) by decide) f1
  have f1 := frs_c (e := (87, 3, 91)) (show (87 : Int) < ((99 : Nat) : Int) by decide) f1
  have f1 := frs_c (e := (87, 4, 92)) (show (87 : Int) < ((99 : Nat) : Int) by decide) f1
  have f1 := frs_c (e := (87, 5, 93)) (show (87 : Int) < ((99 : Nat) : Int) by decide) f1
  have f1 := frs_c (e := (87, 6, 94)) (show (87 : Int) < ((99 : Nat) : Int) by decide) f1
  have f1 := frs_c (e := (87, 7, 95)) (show (87 : Int) < ((99 : Nat) : Int) by decide) f1
  have f1 := frs_c (e := (95, 0, 96)) (show (95 : Int) < ((99 : Nat) : Int) by decide) f1
  have f1 := frs_c (e := (95, 1, 97)) (show (95 : Int) < ((99 : Nat) : Int) by decide) f1
  have f1 := frs_c (e := (95, 2, 98)) (show (95 : Int) < ((99 : Nat) : Int) by decide) f1
  have f2 := frs_c (e := (93, 0, -1)) (show (93 : Int) < ((99 : Nat) : Int) by decide) f2
  have f2 := frs_c (e := (94, 0, -1)) (show (94 : Int) < ((99 : Nat) : Int) by decide) f2
  refine c_aast (t := 0) (N := 6) C (by decide) cf5 rfl ⟨rfl, by decide, by decide⟩ ⟨rfl, by decide, by decide⟩ dX10_init_161 162 rfl (w32_id (a := 2) (by decide)) (by decide) ?_
  have f1 := frs_c (e := (59, 2, 87)) (show (59 : Int) < ((99 : Nat) : Int) by decide) f1
  refine z_iinc (lv' := [(1, vi 3), (0, vr G 0)]) C (by decide) 0 rfl dX10_init_162 165 rfl rfl ?_
  refine z_goto C dX10_init_165 143 (by decide) ?_
  refine z_iload_n C 1 rfl 0 rfl dX10_init_143 144 rfl ?_
  refine z_bipush C (by decide) dX10_init_144 146 rfl ?_
  refine c_ge_no C dX10_init_146 168 (by decide) 149 rfl (by decide) ?_
  refine z_aload_n C 0 rfl 1 rfl dX10_init_149 150 rfl ?_
  refine c_getR (k2 := 59) C fX10_57 ⟨rfl, by decide, by decide⟩ (by simp [LL]) dX10_init_150 153 rfl ?_
  refine z_iload_n C 1 rfl 0 rfl dX10_init_153 154 rfl ?_
  refine c_new C hR cf5 rfl (uw_in tb_254 rfl) (uw_in tb_258 rfl) (uw_in tb_9 rfl) f1 f2 (by decide) dX10_init_154 157 rfl (k := 99) rfl ?_
  refine zn (99, 10081) rfl 100 rfl ?_
  have f1 := frs_m f1 (show 99 ≤ 100 by decide)
  have f2 := frs_m f2 (show 99 ≤ 100 by decide)
  refine z_dup C rfl dX10_init_157 158 rfl ?_
  refine c_callI C hR (ti_99 (mL X) G _ _ f1 f2) mwX5_init miX5_init rfl (Or.inl lkX10_74) rfl rfl (Nat.le_of_ble_eq_true rfl) (by decide) (by decide) dX10_init_158 161 rfl ?_
  refine zn (110, 10130) rfl 111 rfl ?_
  have f1 := frs_m f1 (show 100 ≤ 111 by decide)
  have f2 := frs_m f2 (show 100 ≤ 111 by decide)
  have f1 := frs_c (e := (99, 0, 100)) (show (99 : Int) < ((111 : Nat) : Int) by decide) f1
  have f1 := frs_c (e := (99, 1, 101)) (show (99 : Int) < ((111 : Nat) : Int) by decide) f1
  have f1 := frs_c (e := (99, 2, 102)) (show (99 : Int) < ((111 : Nat) : Int) by decide) f1
  have f1 := frs_c (e := (99, 3, 103)) (show (99 : Int) < ((111 : Nat) : Int) by decide) f1
  have f1 := frs_c (e := (99, 4, 104)) (show (99 : Int) < ((111 : Nat) : Int) by decide) f1
  have f1 := frs_c (e := (99, 5, 105)) (show (99 : Int) < ((111 : Nat) : Int) by decide) f1
  have f1 := frs_c (e := (99, 6, 106)) (show (99 : Int) < ((111 : Nat) : Int) by decide) f1
  have f1 := frs_c (e := (99, 7, 107)) (show (99 : Int) < ((111 : Nat) : Int) by decide) f1
  have f1 := frs_c (e := (107, 0, 108)) (show (107 : Int) < ((111 : Nat) : Int) by decide) f1
  have f1 := frs_c (e := (107, 1, 109)) (show (107 : Int) < ((111 : Nat) : Int) by decide) f1
  have f1 := frs_c (e := (107, 2, 110)) (show (107 : Int) < ((111 : Nat) : Int) by decide) f1
  have f2 := frs_c (e := (105, 0, -1)) (show (105 : Int) < ((111 : Nat) : Int) by decide) f2
  have f2 := frs_c (e := (106, 0, -1)) (show (106 : Int) < ((111 : Nat) : Int) by decide) f2
  refine c_aast (t := 0) (N := 6) C (by decide) cf5 rfl ⟨rfl, by decide, by decide⟩ ⟨rfl, by decide, by decide⟩ dX10_init_161 162 rfl (w32_id (a := 3) (by decide)) (by decide) ?_
  have f1 := frs_c (e := (59, 3, 99)) (show (59 : Int) < ((111 : Nat) : Int) by decide) f1
  refine z_iinc (lv' := [(1, vi 4), (0, vr G 0)]) C (by decide) 0 rfl dX10_init_162 165 rfl rfl ?_
  refine z_goto C dX10_init_165 143 (by decide) ?_
  refine z_iload_n C 1 rfl 0 rfl dX10_init_143 144 rfl ?_
  refine z_bipush C (by decide) dX10_init_144 146 rfl ?_
  refine c_ge_no C dX10_init_146 168 (by decide) 149 rfl (by decide) ?_
  refine z_aload_n C 0 rfl 1 rfl dX10_init_149 150 rfl ?_
  refine c_getR (k2 := 59) C fX10_57 ⟨rfl, by decide, by decide⟩ (by simp [LL]) dX10_init_150 153 rfl ?_
  refine z_iload_n C 1 rfl 0 rfl dX10_init_153 154 rfl ?_
  refine c_new C hR cf5 rfl (uw_in tb_254 rfl) (uw_in tb_258 rfl) (uw_in tb_9 rfl) f1 f2 (by decide) dX10_init_154 157 rfl (k := 111) rfl ?_
  refine zn (111, 10141) rfl 112 rfl ?_
  have f1 := frs_m f1 (show 111 ≤ 112 by decide)
  have f2 := frs_m f2 (show 111 ≤ 112 by decide)
  refine z_dup C rfl dX10_init_157 158 rfl ?_
  refine c_callI C hR (ti_111 (mL X) G _ _ f1 f2) mwX5_init miX5_init rfl (Or.inl lkX10_74) rfl rfl (Nat.le_of_ble_eq_true rfl) (by decide) (by decide) dX10_init_158 161 rfl ?_
  refine zn (122, 10190) rfl 123 rfl ?_
  have f1 := frs_m f1 (show 112 ≤ 123 by decide)
  have f2 := frs_m f2 (show 112 ≤ 123 by decide)
  have f1 := frs_c (e := (111, 0, 112)) (show (111 : Int) < ((123 : Nat) : Int) by decide) f1
  have f1 := frs_c (e := (111, 1, 113)) (show (111 : Int) < ((123 : Nat) : Int) by decide) f1
  have f1 := frs_c (e := (111, 2, 114)) (show (111 : Int) < ((123 : Nat) : Int) by decide) f1
  have f1 := frs_c (e := (111, 3, 115)) (show (111 : Int) < ((123 : Nat) : Int) by decide) f1
  have f1 := frs_c (e := (111, 4, 116)) (show (111 : Int) < ((123 : Nat) : Int) by decide) f1
  have f1 := frs_c (e := (111, 5, 117)) (show (111 : Int) < ((123 : Nat) : Int) by decide) f1
  have f1 := frs_c (e := (111, 6, 118)) (show (111 : Int) < ((123 : Nat) : Int) by decide) f1
  have f1 := frs_c (e := (111, 7, 119)) (show (111 : Int) < ((123 : Nat) : Int) by decide) f1
  have f1 := frs_c (e := (119, 0, 120)) (show (119 : Int) < ((123 : Nat) : Int) by decide) f1
  have f1 := frs_c (e := (119, 1, 121)) (show (119 : Int) < ((123 : Nat) : Int) by decide) f1
  have f1 := frs_c (e := (119, 2, 122)) (show (119 : Int) < ((123 : Nat) : Int) by decide) f1
  have f2 := frs_c (e := (117, 0, -1)) (show (117 : Int) < ((123 : Nat) : Int) by decide) f2
  have f2 := frs_c (e := (118, 0, -1)) (show (118 : Int) < ((123 : Nat) : Int) by decide) f2
  refine c_aast (t := 0) (N := 6) C (by decide) cf5 rfl ⟨rfl, by decide, by decide⟩ ⟨rfl, by decide, by decide⟩ dX10_init_161 162 rfl (w32_id (a := 4) (by decide)) (by decide) ?_
  have f1 := frs_c (e := (59, 4, 111)) (show (59 : Int) < ((123 : Nat) : Int) by decide) f1
  refine z_iinc (lv' := [(1, vi 5), (0, vr G 0)]) C (by decide) 0 rfl dX10_init_162 165 rfl rfl ?_
  refine z_goto C dX10_init_165 143 (by decide) ?_
  refine z_iload_n C 1 rfl 0 rfl dX10_init_143 144 rfl ?_
  refine z_bipush C (by decide) dX10_init_144 146 rfl ?_
  refine c_ge_no C dX10_init_146 168 (by decide) 149 rfl (by decide) ?_
  refine z_aload_n C 0 rfl 1 rfl dX10_init_149 150 rfl ?_
  refine c_getR (k2 := 59) C fX10_57 ⟨rfl, by decide, by decide⟩ (by simp [LL]) dX10_init_150 153 rfl ?_
  refine z_iload_n C 1 rfl 0 rfl dX10_init_153 154 rfl ?_
  refine c_new C hR cf5 rfl (uw_in tb_254 rfl) (uw_in tb_258 rfl) (uw_in tb_9 rfl) f1 f2 (by decide) dX10_init_154 157 rfl (k := 123) rfl ?_
  refine zn (123, 10201) rfl 124 rfl ?_
  have f1 := frs_m f1 (show 123 ≤ 124 by decide)
  have f2 := frs_m f2 (show 123 ≤ 124 by decide)
  refine z_dup C rfl dX10_init_157 158 rfl ?_
  refine c_callI C hR (ti_123 (mL X) G _ _ f1 f2) mwX5_init miX5_init rfl (Or.inl lkX10_74) rfl rfl (Nat.le_of_ble_eq_true rfl) (by decide) (by decide) dX10_init_158 161 rfl ?_
  refine zn (134, 10250) rfl 135 rfl ?_
  have f1 := frs_m f1 (show 124 ≤ 135 by decide)
  have f2 := frs_m f2 (show 124 ≤ 135 by decide)
  have f1 := frs_c (e := (123, 0, 124)) (show (123 : Int) < ((135 : Nat) : Int) by decide) f1
  have f1 := frs_c (e := (123, 1, 125)) (show (123 : Int) < ((135 : Nat) : Int) by decide) f1
  have f1 := frs_c (e := (123, 2, 126)) (show (123 : Int) < ((135 : Nat) : Int) by decide) f1
  have f1 := frs_c (e := (123, 3, 127)) (show (123 : Int) < ((135 : Nat) : Int) by decide) f1
  have f1 := frs_c (e := (123, 4, 128)) (show (123 : Int) < ((135 : Nat) : Int) by decide) f1
  have f1 := frs_c (e := (123, 5, 129)) (show (123 : Int) < ((135 : Nat) : Int) by decide) f1
  have f1 := frs_c (e := (123, 6, 130)) (show (123 : Int) < ((135 : Nat) : Int) by decide) f1
  have f1 := frs_c (e := (123, 7, 131)) (show (123 : Int) < ((135 : Nat) : Int) by decide) f1
  have f1 := frs_c (e := (131, 0, 132)) (show (131 : Int) < ((135 : Nat) : Int) by decide) f1
  have f1 := frs_c (e := (131, 1, 133)) (show (131 : Int) < ((135 : Nat) : Int) by decide) f1
  have f1 := frs_c (e := (131, 2, 134)) (show (131 : Int) < ((135 : Nat) : Int) by decide) f1
  have f2 := frs_c (e := (129, 0, -1)) (show (129 : Int) < ((135 : Nat) : Int) by decide) f2
  have f2 := frs_c (e := (130, 0, -1)) (show (130 : Int) < ((135 : Nat) : Int) by decide) f2
  refine c_aast (t := 0) (N := 6) C (by decide) cf5 rfl ⟨rfl, by decide, by decide⟩ ⟨rfl, by decide, by decide⟩ dX10_init_161 162 rfl (w32_id (a := 5) (by decide)) (by decide) ?_
  have f1 := frs_c (e := (59, 5, 123)) (show (59 : Int) < ((135 : Nat) : Int) by decide) f1
  refine z_iinc (lv' := [(1, vi 6), (0, vr G 0)]) C (by decide) 0 rfl dX10_init_162 165 rfl rfl ?_
  refine z_goto C dX10_init_165 143 (by decide) ?_
  refine z_iload_n C 1 rfl 0 rfl dX10_init_143 144 rfl ?_
  refine z_bipush C (by decide) dX10_init_144 146 rfl ?_
  refine c_ge_yes C dX10_init_146 168 (by decide) 149 rfl (by decide) ?_
  refine z_iconst C dX10_init_168 169 rfl ?_
  refine z_istore_n (lv' := [(1, vi 0), (0, vr G 0)]) C 1 rfl (by decide) dX10_init_169 170 rfl rfl ?_
  refine z_iload_n C 1 rfl 0 rfl dX10_init_170 171 rfl ?_
  refine z_iconst C dX10_init_171 172 rfl ?_
  refine c_ge_no C dX10_init_172 194 (by decide) 175 rfl (by decide) ?_
  refine z_aload_n C 0 rfl 1 rfl dX10_init_175 176 rfl ?_
  refine c_getR (k2 := 60) C fX10_63 ⟨rfl, by decide, by decide⟩ (by simp [LL]) dX10_init_176 179 rfl ?_
  refine z_iload_n C 1 rfl 0 rfl dX10_init_179 180 rfl ?_
  refine c_new C hR cf6 rfl (uw_in tb_256 rfl) (uw_in tb_365 rfl) (uw_in tb_12 rfl) f1 f2 (by decide) dX10_init_180 183 rfl (k := 135) rfl ?_
  refine zn (135, 10253) rfl 136 rfl ?_
  have f1 := frs_m f1 (show 135 ≤ 136 by decide)
  have f2 := frs_m f2 (show 135 ≤ 136 by decide)
  refine z_dup C rfl dX10_init_183 184 rfl ?_
  refine c_callI C hR (ti_135 (mL X) G _ _ f1 f2) mwX6_init miX6_init rfl (Or.inr ⟨RX10, by decide⟩) rfl rfl (Nat.le_of_ble_eq_true rfl) (by decide) (by decide) dX10_init_184 187 rfl ?_
  refine zn (136, 10317) rfl 137 rfl ?_
  have f1 := frs_m f1 (show 136 ≤ 137 by decide)
  have f2 := frs_m f2 (show 136 ≤ 137 by decide)
  have f1 := frs_c (e := (135, 0, 136)) (show (135 : Int) < ((137 : Nat) : Int) by decide) f1
  have f2 := frs_c (e := (135, 1, -4)) (show (135 : Int) < ((137 : Nat) : Int) by decide) f2
  refine c_aast (t := 1) (N := 4) C (by decide) cf6 rfl ⟨rfl, by decide, by decide⟩ ⟨rfl, by decide, by decide⟩ dX10_init_187 188 rfl (w32_id (a := 0) (by decide)) (by decide) ?_
  have f1 := frs_c (e := (60, 0, 135)) (show (60 : Int) < ((137 : Nat) : Int) by decide) f1
  refine z_iinc (lv' := [(1, vi 1), (0, vr G 0)]) C (by decide) 0 rfl dX10_init_188 191 rfl rfl ?_
  refine z_goto C dX10_init_191 170 (by decide) ?_
  refine z_iload_n C 1 rfl 0 rfl dX10_init_170 171 rfl ?_
  refine z_iconst C dX10_init_171 172 rfl ?_
  refine c_ge_no C dX10_init_172 194 (by decide) 175 rfl (by decide) ?_
  refine z_aload_n C 0 rfl 1 rfl dX10_init_175 176 rfl ?_
  refine c_getR (k2 := 60) C fX10_63 ⟨rfl, by decide, by decide⟩ (by simp [LL]) dX10_init_176 179 rfl ?_
  refine z_iload_n C 1 rfl 0 rfl dX10_init_179 180 rfl ?_
  refine c_new C hR cf6 rfl (uw_in tb_256 rfl) (uw_in tb_365 rfl) (uw_in tb_12 rfl) f1 f2 (by decide) dX10_init_180 183 rfl (k := 137) rfl ?_
  refine zn (137, 10320) rfl 138 rfl ?_
  have f1 := frs_m f1 (show 137 ≤ 138 by decide)
  have f2 := frs_m f2 (show 137 ≤ 138 by decide)
  refine z_dup C rfl dX10_init_183 184 rfl ?_
  refine c_callI C hR (ti_137 (mL X) G _ _ f1 f2) mwX6_init miX6_init rfl (Or.inr ⟨RX10, by decide⟩) rfl rfl (Nat.le_of_ble_eq_true rfl) (by decide) (by decide) dX10_init_184 187 rfl ?_
  refine zn (138, 10384) rfl 139 rfl ?_
  have f1 := frs_m f1 (show 138 ≤ 139 by decide)
  have f2 := frs_m f2 (show 138 ≤ 139 by decide)
  have f1 := frs_c (e := (137, 0, 138)) (show (137 : Int) < ((139 : Nat) : Int) by decide) f1
  have f2 := frs_c (e := (137, 1, -4)) (show (137 : Int) < ((139 : Nat) : Int) by decide) f2
  refine c_aast (t := 1) (N := 4) C (by decide) cf6 rfl ⟨rfl, by decide, by decide⟩ ⟨rfl, by decide, by decide⟩ dX10_init_187 188 rfl (w32_id (a := 1) (by decide)) (by decide) ?_
  have f1 := frs_c (e := (60, 1, 137)) (show (60 : Int) < ((139 : Nat) : Int) by decide) f1
  refine z_iinc (lv' := [(1, vi 2), (0, vr G 0)]) C (by decide) 0 rfl dX10_init_188 191 rfl rfl ?_
  refine z_goto C dX10_init_191 170 (by decide) ?_
  refine z_iload_n C 1 rfl 0 rfl dX10_init_170 171 rfl ?_
  refine z_iconst C dX10_init_171 172 rfl ?_
  refine c_ge_no C dX10_init_172 194 (by decide) 175 rfl (by decide) ?_
  refine z_aload_n C 0 rfl 1 rfl dX10_init_175 176 rfl ?_
  refine c_getR (k2 := 60) C fX10_63 ⟨rfl, by decide, by decide⟩ (by simp [LL]) dX10_init_176 179 rfl ?_
  refine z_iload_n C 1 rfl 0 rfl dX10_init_179 180 rfl ?_
  refine c_new C hR cf6 rfl (uw_in tb_256 rfl) (uw_in tb_365 rfl) (uw_in tb_12 rfl) f1 f2 (by decide) dX10_init_180 183 rfl (k := 139) rfl ?_
  refine zn (139, 10387) rfl 140 rfl ?_
  have f1 := frs_m f1 (show 139 ≤ 140 by decide)
  have f2 := frs_m f2 (show 139 ≤ 140 by decide)
  refine z_dup C rfl dX10_init_183 184 rfl ?_
  refine c_callI C hR (ti_139 (mL X) G _ _ f1 f2) mwX6_init miX6_init rfl (Or.inr ⟨RX10, by decide⟩) rfl rfl (Nat.le_of_ble_eq_true rfl) (by decide) (by decide) dX10_init_184 187 rfl ?_
  refine zn (140, 10451) rfl 141 rfl ?_
  have f1 := frs_m f1 (show 140 ≤ 141 by decide)
  have f2 := frs_m f2 (show 140 ≤ 141 by decide)
  have f1 := frs_c (e := (139, 0, 140)) (show (139 : Int) < ((141 : Nat) : Int) by decide) f1
  have f2 := frs_c (e := (139, 1, -4)) (show (139 : Int) < ((141 : Nat) : Int) by decide) f2
  refine c_aast (t := 1) (N := 4) C (by decide) cf6 rfl ⟨rfl, by decide, by decide⟩ ⟨rfl, by decide, by decide⟩ dX10_init_187 188 rfl (w32_id (a := 2) (by decide)) (by decide) ?_
  have f1 := frs_c (e := (60, 2, 139)) (show (60 : Int) < ((141 : Nat) : Int) by decide) f1
  refine z_iinc (lv' := [(1, vi 3), (0, vr G 0)]) C (by decide) 0 rfl dX10_init_188 191 rfl rfl ?_
  refine z_goto C dX10_init_191 170 (by decide) ?_
  refine z_iload_n C 1 rfl 0 rfl dX10_init_170 171 rfl ?_
  refine z_iconst C dX10_init_171 172 rfl ?_
  refine c_ge_no C dX10_init_172 194 (by decide) 175 rfl (by decide) ?_
  refine z_aload_n C 0 rfl 1 rfl dX10_init_175 176 rfl ?_
  refine c_getR (k2 := 60) C fX10_63 ⟨rfl, by decide, by decide⟩ (by simp [LL]) dX10_init_176 179 rfl ?_
  refine z_iload_n C 1 rfl 0 rfl dX10_init_179 180 rfl ?_
  refine c_new C hR cf6 rfl (uw_in tb_256 rfl) (uw_in tb_365 rfl) (uw_in tb_12 rfl) f1 f2 (by decide) dX10_init_180 183 rfl (k := 141) rfl ?_
  refine zn (141, 10454) rfl 142 rfl ?_
  have f1 := frs_m f1 (show 141 ≤ 142 by decide)
  have f2 := frs_m f2 (show 141 ≤ 142 by decide)
  refine z_dup C rfl dX10_init_183 184 rfl ?_
  refine c_callI C hR (ti_141 (mL X) G _ _ f1 f2) mwX6_init miX6_init rfl (Or.inr ⟨RX10, by decide⟩) rfl rfl (Nat.le_of_ble_eq_true rfl) (by decide) (by decide) dX10_init_184 187 rfl ?_
  refine zn (142, 10518) rfl 143 rfl ?_
  have f1 := frs_m f1 (show 142 ≤ 143 by decide)
  have f2 := frs_m f2 (show 142 ≤ 143 by decide)
  have f1 := frs_c (e := (141, 0, 142)) (show (141 : Int) < ((143 : Nat) : Int) by decide) f1
  have f2 := frs_c (e := (141, 1, -4)) (show (141 : Int) < ((143 : Nat) : Int) by decide) f2
  refine c_aast (t := 1) (N := 4) C (by decide) cf6 rfl ⟨rfl, by decide, by decide⟩ ⟨rfl, by decide, by decide⟩ dX10_init_187 188 rfl (w32_id (a := 3) (by decide)) (by decide) ?_
  have f1 := frs_c (e := (60, 3, 141)) (show (60 : Int) < ((143 : Nat) : Int) by decide) f1
  refine z_iinc (lv' := [(1, vi 4), (0, vr G 0)]) C (by decide) 0 rfl dX10_init_188 191 rfl rfl ?_
  refine z_goto C dX10_init_191 170 (by decide) ?_
  refine z_iload_n C 1 rfl 0 rfl dX10_init_170 171 rfl ?_
  refine z_iconst C dX10_init_171 172 rfl ?_
  refine c_ge_yes C dX10_init_172 194 (by decide) 175 rfl (by decide) ?_
  exact z_vret C R rfl rfl dX10_init_194
theorem loX11 : Cond.methodLink RX11 1 Lib.objectInit ∈ UW := uw_in tb_1080 rfl
theorem fFX11_7 : FLF RX11 7 11 1 ∧ isRefTy (tyOf 11 1) = true ∧ ((1 : Nat) : Int) = 1 := ⟨⟨RX11, TX11, 59, cf11, by decide, uw_in tb_1082 rfl, rfl, rfl⟩, rfl, rfl⟩
theorem fFX11_13 : FLF RX11 13 11 2 ∧ isRefTy (tyOf 11 2) = true ∧ ((2 : Nat) : Int) = 2 := ⟨⟨RX11, TX11, 59, cf11, by decide, uw_in tb_1083 rfl, rfl, rfl⟩, rfl, rfl⟩
theorem fFX11_16 : FLF RX11 16 11 3 ∧ isRefTy (tyOf 11 3) = true ∧ ((3 : Nat) : Int) = 3 := ⟨⟨RX11, TX11, 59, cf11, by decide, uw_in tb_1084 rfl, rfl, rfl⟩, rfl, rfl⟩
theorem fFX11_19 : FLF RX11 19 11 5 ∧ isRefTy (tyOf 11 5) = true ∧ ((5 : Nat) : Int) = 5 := ⟨⟨RX11, TX11, 59, cf11, by decide, uw_in tb_1086 rfl, rfl, rfl⟩, rfl, rfl⟩
theorem fFX11_22 : FLF RX11 22 11 6 ∧ isRefTy (tyOf 11 6) = true ∧ ((6 : Nat) : Int) = 6 := ⟨⟨RX11, TX11, 59, cf11, by decide, uw_in tb_1087 rfl, rfl, rfl⟩, rfl, rfl⟩
theorem fFX11_25 : FLF RX11 25 11 7 ∧ isRefTy (tyOf 11 7) = true ∧ ((7 : Nat) : Int) = 7 := ⟨⟨RX11, TX11, 59, cf11, by decide, uw_in tb_1088 rfl, rfl, rfl⟩, rfl, rfl⟩
theorem fFX11_28 : FLF RX11 28 11 17 ∧ isRefTy (tyOf 11 17) = true ∧ ((17 : Nat) : Int) = 17 := ⟨⟨RX11, TX11, 59, cf11, by decide, uw_in tb_1098 rfl, rfl, rfl⟩, rfl, rfl⟩
theorem fFX11_31 : FLF RX11 31 11 18 ∧ isRefTy (tyOf 11 18) = true ∧ ((18 : Nat) : Int) = 18 := ⟨⟨RX11, TX11, 59, cf11, by decide, uw_in tb_1099 rfl, rfl, rfl⟩, rfl, rfl⟩
theorem fFX11_34 : FLF RX11 34 11 19 ∧ isRefTy (tyOf 11 19) = true ∧ ((19 : Nat) : Int) = 19 := ⟨⟨RX11, TX11, 59, cf11, by decide, uw_in tb_1100 rfl, rfl, rfl⟩, rfl, rfl⟩
theorem fFX11_37 : FLF RX11 37 11 20 ∧ isRefTy (tyOf 11 20) = true ∧ ((20 : Nat) : Int) = 20 := ⟨⟨RX11, TX11, 59, cf11, by decide, uw_in tb_1101 rfl, rfl, rfl⟩, rfl, rfl⟩
theorem fFX11_40 : FLF RX11 40 11 21 ∧ isRefTy (tyOf 11 21) = true ∧ ((21 : Nat) : Int) = 21 := ⟨⟨RX11, TX11, 59, cf11, by decide, uw_in tb_1102 rfl, rfl, rfl⟩, rfl, rfl⟩
theorem fFX11_43 : FLF RX11 43 11 22 ∧ isRefTy (tyOf 11 22) = true ∧ ((22 : Nat) : Int) = 22 := ⟨⟨RX11, TX11, 59, cf11, by decide, uw_in tb_1103 rfl, rfl, rfl⟩, rfl, rfl⟩
theorem fFX11_46 : FLF RX11 46 11 23 ∧ isRefTy (tyOf 11 23) = true ∧ ((23 : Nat) : Int) = 23 := ⟨⟨RX11, TX11, 59, cf11, by decide, uw_in tb_1104 rfl, rfl, rfl⟩, rfl, rfl⟩
theorem fFX11_49 : FLF RX11 49 11 24 ∧ isRefTy (tyOf 11 24) = true ∧ ((24 : Nat) : Int) = 24 := ⟨⟨RX11, TX11, 59, cf11, by decide, uw_in tb_1105 rfl, rfl, rfl⟩, rfl, rfl⟩
theorem fFX11_52 : FLF RX11 52 11 25 ∧ isRefTy (tyOf 11 25) = true ∧ ((25 : Nat) : Int) = 25 := ⟨⟨RX11, TX11, 59, cf11, by decide, uw_in tb_1106 rfl, rfl, rfl⟩, rfl, rfl⟩
theorem fFX11_55 : FLF RX11 55 11 28 ∧ isRefTy (tyOf 11 28) = true ∧ ((28 : Nat) : Int) = 28 := ⟨⟨RX11, TX11, 59, cf11, by decide, uw_in tb_1109 rfl, rfl, rfl⟩, rfl, rfl⟩
theorem fFX11_58 : FLF RX11 58 11 29 ∧ isRefTy (tyOf 11 29) = true ∧ ((29 : Nat) : Int) = 29 := ⟨⟨RX11, TX11, 59, cf11, by decide, uw_in tb_1110 rfl, rfl, rfl⟩, rfl, rfl⟩
theorem fFX11_61 : FLF RX11 61 11 30 ∧ isRefTy (tyOf 11 30) = true ∧ ((30 : Nat) : Int) = 30 := ⟨⟨RX11, TX11, 59, cf11, by decide, uw_in tb_1111 rfl, rfl, rfl⟩, rfl, rfl⟩
theorem fFX11_64 : FLF RX11 64 11 31 ∧ isRefTy (tyOf 11 31) = true ∧ ((31 : Nat) : Int) = 31 := ⟨⟨RX11, TX11, 59, cf11, by decide, uw_in tb_1112 rfl, rfl, rfl⟩, rfl, rfl⟩
theorem fFX11_67 : FLF RX11 67 11 32 ∧ isRefTy (tyOf 11 32) = true ∧ ((32 : Nat) : Int) = 32 := ⟨⟨RX11, TX11, 59, cf11, by decide, uw_in tb_1113 rfl, rfl, rfl⟩, rfl, rfl⟩
theorem fFX11_70 : FLF RX11 70 11 33 ∧ isRefTy (tyOf 11 33) = true ∧ ((33 : Nat) : Int) = 33 := ⟨⟨RX11, TX11, 59, cf11, by decide, uw_in tb_1114 rfl, rfl, rfl⟩, rfl, rfl⟩
theorem fFX11_73 : FLF RX11 73 11 34 ∧ isRefTy (tyOf 11 34) = true ∧ ((34 : Nat) : Int) = 34 := ⟨⟨RX11, TX11, 59, cf11, by decide, uw_in tb_1115 rfl, rfl, rfl⟩, rfl, rfl⟩
theorem fFX11_76 : FLF RX11 76 11 37 ∧ isRefTy (tyOf 11 37) = true ∧ ((37 : Nat) : Int) = 37 := ⟨⟨RX11, TX11, 59, cf11, by decide, uw_in tb_1118 rfl, rfl, rfl⟩, rfl, rfl⟩
theorem fFX11_79 : FLF RX11 79 11 38 ∧ isRefTy (tyOf 11 38) = true ∧ ((38 : Nat) : Int) = 38 := ⟨⟨RX11, TX11, 59, cf11, by decide, uw_in tb_1119 rfl, rfl, rfl⟩, rfl, rfl⟩
theorem fFX11_82 : FLF RX11 82 11 39 ∧ isRefTy (tyOf 11 39) = true ∧ ((39 : Nat) : Int) = 39 := ⟨⟨RX11, TX11, 59, cf11, by decide, uw_in tb_1120 rfl, rfl, rfl⟩, rfl, rfl⟩
theorem fFX11_85 : FLF RX11 85 11 41 ∧ isRefTy (tyOf 11 41) = true ∧ ((41 : Nat) : Int) = 41 := ⟨⟨RX11, TX11, 59, cf11, by decide, uw_in tb_1122 rfl, rfl, rfl⟩, rfl, rfl⟩
theorem fFX11_88 : FLF RX11 88 11 42 ∧ isRefTy (tyOf 11 42) = true ∧ ((42 : Nat) : Int) = 42 := ⟨⟨RX11, TX11, 59, cf11, by decide, uw_in tb_1123 rfl, rfl, rfl⟩, rfl, rfl⟩
theorem fFX11_91 : FLF RX11 91 11 47 ∧ isRefTy (tyOf 11 47) = true ∧ ((47 : Nat) : Int) = 47 := ⟨⟨RX11, TX11, 59, cf11, by decide, uw_in tb_1128 rfl, rfl, rfl⟩, rfl, rfl⟩
theorem fFX11_95 : FLF RX11 95 11 48 ∧ isRefTy (tyOf 11 48) = true ∧ ((48 : Nat) : Int) = 48 := ⟨⟨RX11, TX11, 59, cf11, by decide, uw_in tb_1129 rfl, rfl, rfl⟩, rfl, rfl⟩
theorem fFX11_98 : FLF RX11 98 11 49 ∧ isRefTy (tyOf 11 49) = true ∧ ((49 : Nat) : Int) = 49 := ⟨⟨RX11, TX11, 59, cf11, by decide, uw_in tb_1130 rfl, rfl, rfl⟩, rfl, rfl⟩
theorem fFX11_101 : FLF RX11 101 11 50 ∧ isRefTy (tyOf 11 50) = true ∧ ((50 : Nat) : Int) = 50 := ⟨⟨RX11, TX11, 59, cf11, by decide, uw_in tb_1131 rfl, rfl, rfl⟩, rfl, rfl⟩
theorem fFX11_104 : FLF RX11 104 11 51 ∧ isRefTy (tyOf 11 51) = true ∧ ((51 : Nat) : Int) = 51 := ⟨⟨RX11, TX11, 59, cf11, by decide, uw_in tb_1132 rfl, rfl, rfl⟩, rfl, rfl⟩
theorem fFX11_107 : FLF RX11 107 11 52 ∧ isRefTy (tyOf 11 52) = true ∧ ((52 : Nat) : Int) = 52 := ⟨⟨RX11, TX11, 59, cf11, by decide, uw_in tb_1133 rfl, rfl, rfl⟩, rfl, rfl⟩
theorem fFX11_110 : FLF RX11 110 11 55 ∧ isRefTy (tyOf 11 55) = true ∧ ((55 : Nat) : Int) = 55 := ⟨⟨RX11, TX11, 59, cf11, by decide, uw_in tb_1136 rfl, rfl, rfl⟩, rfl, rfl⟩
theorem fFX11_113 : FLF RX11 113 11 56 ∧ isRefTy (tyOf 11 56) = true ∧ ((56 : Nat) : Int) = 56 := ⟨⟨RX11, TX11, 59, cf11, by decide, uw_in tb_1137 rfl, rfl, rfl⟩, rfl, rfl⟩
theorem fFX11_116 : FLF RX11 116 11 57 ∧ isRefTy (tyOf 11 57) = true ∧ ((57 : Nat) : Int) = 57 := ⟨⟨RX11, TX11, 59, cf11, by decide, uw_in tb_1138 rfl, rfl, rfl⟩, rfl, rfl⟩
theorem fFX11_119 : FLF RX11 119 11 58 ∧ isRefTy (tyOf 11 58) = true ∧ ((58 : Nat) : Int) = 58 := ⟨⟨RX11, TX11, 59, cf11, by decide, uw_in tb_1139 rfl, rfl, rfl⟩, rfl, rfl⟩
def rmI143 : Room := { frames := 1, cells := 37, slots := 10750, locals := 30 }
set_option maxRecDepth 100000 in
set_option maxHeartbeats 4000000 in
theorem ti_143 (l : Launch) (G : GG) (l1 l2 : List (Int × Int × Int)) (f1 : frs 144 l1) (f2 : frs 144 l2) : Ctr l G yX11_init cX11_init 1 none rmI143 [vr G 143] (wl 144 l1 l2) (fun _ : Unit => none) (fun _ : Unit => wl 181 ((143, 58, 180) :: (143, 57, 179) :: (143, 56, 178) :: (143, 55, 177) :: (143, 52, 176) :: (143, 51, 175) :: (143, 50, 174) :: (143, 49, 173) :: (143, 48, 172) :: (143, 47, 171) :: (143, 42, 170) :: (143, 41, 169) :: (143, 39, 168) :: (143, 38, 167) :: (143, 37, 166) :: (143, 34, 165) :: (143, 33, 164) :: (143, 32, 163) :: (143, 31, 162) :: (143, 30, 161) :: (143, 29, 160) :: (143, 28, 159) :: (143, 25, 158) :: (143, 24, 157) :: (143, 23, 156) :: (143, 22, 155) :: (143, 21, 154) :: (143, 20, 153) :: (143, 19, 152) :: (143, 18, 151) :: (143, 17, 150) :: (143, 7, 149) :: (143, 6, 148) :: (143, 5, 147) :: (143, 3, 146) :: (143, 2, 145) :: (143, 1, 144) :: l1) ((178, 3, -4) :: (178, 2, -4) :: (178, 1, -4) :: (178, 0, -4) :: (158, 37, 112) :: (158, 36, 111) :: (158, 35, 114) :: (158, 34, 100) :: (158, 33, 100) :: (158, 32, 110) :: (158, 31, 97) :: (158, 30, 102) :: (158, 29, 105) :: (158, 28, 121) :: (158, 27, 98) :: (158, 26, 114) :: (158, 25, 101) :: (158, 24, 98) :: (158, 23, 109) :: (158, 22, 117) :: (158, 21, 110) :: (158, 20, 100) :: (158, 19, 105) :: (158, 18, 97) :: (158, 17, 112) :: (158, 16, 107) :: (158, 15, 110) :: (158, 14, 97) :: (158, 13, 114) :: (158, 12, 109) :: (158, 11, 111) :: (158, 10, 111) :: (158, 9, 114) :: (158, 8, 116) :: (158, 7, 102) :: (158, 6, 101) :: (158, 5, 108) :: (158, 4, 104) :: (158, 3, 116) :: (158, 2, 114) :: (158, 1, 111) :: (158, 0, 119) :: (157, 10, 38) :: (157, 9, 34) :: (157, 8, 31) :: (157, 7, 29) :: (157, 6, 27) :: (157, 5, 21) :: (157, 4, 17) :: (157, 3, 13) :: (157, 2, 9) :: (157, 1, 5) :: (157, 0, 0) :: l2)) (some ()) := by
  refine ctr_of (by decide) (Nat.le_of_ble_eq_true rfl) mwX11_init.1 (fun X hl hR C R hnm => ?_)
  subst hl
  refine z_lv (lv' := [(0, vr G 143)]) [0] rfl ?_
  refine z_aload_n C 0 rfl 0 rfl dX11_init_0 1 rfl ?_
  refine c_obj C hR loX11 (Nat.le_of_ble_eq_true rfl) (by decide) dX11_init_1 4 rfl ?_
  refine z_aload_n C 0 rfl 0 rfl dX11_init_4 5 rfl ?_
  refine z_bipush C (by decide) dX11_init_5 7 rfl ?_
  refine c_newa (t := 1) (N := 6) C hR (uw_in tb_82 rfl) (Or.inl ⟨rfl, rfl⟩) rfl f2 ⟨w32_id (a := 6) (by decide), by decide⟩ (by decide) dX11_init_7 9 rfl (k := 144) rfl ?_
  refine zn (1, 6) rfl 145 rfl ?_
  have f1 := frs_m f1 (show 144 ≤ 145 by decide)
  have f2 := frs_m f2 (show 144 ≤ 145 by decide)
  refine c_putF C hnm fFX11_7 ⟨rfl, by decide, by decide⟩ (by decide) dX11_init_9 12 rfl ?_
  have f1 := frs_c (e := (143, 1, 144)) (show (143 : Int) < ((145 : Nat) : Int) by decide) f1
  refine z_aload_n C 0 rfl 0 rfl dX11_init_12 13 rfl ?_
  refine z_bipush C (by decide) dX11_init_13 15 rfl ?_
  refine c_newa (t := 1) (N := 6) C hR (uw_in tb_82 rfl) (Or.inl ⟨rfl, rfl⟩) rfl f2 ⟨w32_id (a := 6) (by decide), by decide⟩ (by decide) dX11_init_15 17 rfl (k := 145) rfl ?_
  refine zn (2, 12) rfl 146 rfl ?_
  have f1 := frs_m f1 (show 145 ≤ 146 by decide)
  have f2 := frs_m f2 (show 145 ≤ 146 by decide)
  refine c_putF C hnm fFX11_13 ⟨rfl, by decide, by decide⟩ (by decide) dX11_init_17 20 rfl ?_
  have f1 := frs_c (e := (143, 2, 145)) (show (143 : Int) < ((146 : Nat) : Int) by decide) f1
  refine z_aload_n C 0 rfl 0 rfl dX11_init_20 21 rfl ?_
  refine z_bipush C (by decide) dX11_init_21 23 rfl ?_
  refine c_newa (t := 1) (N := 6) C hR (uw_in tb_82 rfl) (Or.inl ⟨rfl, rfl⟩) rfl f2 ⟨w32_id (a := 6) (by decide), by decide⟩ (by decide) dX11_init_23 25 rfl (k := 146) rfl ?_
  refine zn (3, 18) rfl 147 rfl ?_
  have f1 := frs_m f1 (show 146 ≤ 147 by decide)
  have f2 := frs_m f2 (show 146 ≤ 147 by decide)
  refine c_putF C hnm fFX11_16 ⟨rfl, by decide, by decide⟩ (by decide) dX11_init_25 28 rfl ?_
  have f1 := frs_c (e := (143, 3, 146)) (show (143 : Int) < ((147 : Nat) : Int) by decide) f1
  refine z_aload_n C 0 rfl 0 rfl dX11_init_28 29 rfl ?_
  refine z_bipush C (by decide) dX11_init_29 31 rfl ?_
  refine c_newa (t := 1) (N := 9) C hR (uw_in tb_82 rfl) (Or.inl ⟨rfl, rfl⟩) rfl f2 ⟨w32_id (a := 9) (by decide), by decide⟩ (by decide) dX11_init_31 33 rfl (k := 147) rfl ?_
  refine zn (4, 27) rfl 148 rfl ?_
  have f1 := frs_m f1 (show 147 ≤ 148 by decide)
  have f2 := frs_m f2 (show 147 ≤ 148 by decide)
  refine c_putF C hnm fFX11_19 ⟨rfl, by decide, by decide⟩ (by decide) dX11_init_33 36 rfl ?_
  have f1 := frs_c (e := (143, 5, 147)) (show (143 : Int) < ((148 : Nat) : Int) by decide) f1
  refine z_aload_n C 0 rfl 0 rfl dX11_init_36 37 rfl ?_
  refine z_bipush C (by decide) dX11_init_37 39 rfl ?_
  refine c_newa (t := 1) (N := 54) C hR (uw_in tb_82 rfl) (Or.inl ⟨rfl, rfl⟩) rfl f2 ⟨w32_id (a := 54) (by decide), by decide⟩ (by decide) dX11_init_39 41 rfl (k := 148) rfl ?_
  refine zn (5, 81) rfl 149 rfl ?_
  have f1 := frs_m f1 (show 148 ≤ 149 by decide)
  have f2 := frs_m f2 (show 148 ≤ 149 by decide)
  refine c_putF C hnm fFX11_22 ⟨rfl, by decide, by decide⟩ (by decide) dX11_init_41 44 rfl ?_
  have f1 := frs_c (e := (143, 6, 148)) (show (143 : Int) < ((149 : Nat) : Int) by decide) f1
  refine z_aload_n C 0 rfl 0 rfl dX11_init_44 45 rfl ?_
  refine z_sipush C (by decide) dX11_init_45 48 rfl ?_
  refine c_newa (t := 1) (N := 160) C hR (uw_in tb_82 rfl) (Or.inl ⟨rfl, rfl⟩) rfl f2 ⟨w32_id (a := 160) (by decide), by decide⟩ (by decide) dX11_init_48 50 rfl (k := 149) rfl ?_
  refine zn (6, 241) rfl 150 rfl ?_
  have f1 := frs_m f1 (show 149 ≤ 150 by decide)
  have f2 := frs_m f2 (show 149 ≤ 150 by decide)
  refine c_putF C hnm fFX11_25 ⟨rfl, by decide, by decide⟩ (by decide) dX11_init_50 53 rfl ?_
  have f1 := frs_c (e := (143, 7, 149)) (show (143 : Int) < ((150 : Nat) : Int) by decide) f1
  refine z_aload_n C 0 rfl 0 rfl dX11_init_53 54 rfl ?_
  refine z_bipush C (by decide) dX11_init_54 56 rfl ?_
  refine c_newa (t := 1) (N := 6) C hR (uw_in tb_82 rfl) (Or.inl ⟨rfl, rfl⟩) rfl f2 ⟨w32_id (a := 6) (by decide), by decide⟩ (by decide) dX11_init_56 58 rfl (k := 150) rfl ?_
  refine zn (7, 247) rfl 151 rfl ?_
  have f1 := frs_m f1 (show 150 ≤ 151 by decide)
  have f2 := frs_m f2 (show 150 ≤ 151 by decide)
  refine c_putF C hnm fFX11_28 ⟨rfl, by decide, by decide⟩ (by decide) dX11_init_58 61 rfl ?_
  have f1 := frs_c (e := (143, 17, 150)) (show (143 : Int) < ((151 : Nat) : Int) by decide) f1
  refine z_aload_n C 0 rfl 0 rfl dX11_init_61 62 rfl ?_
  refine z_bipush C (by decide) dX11_init_62 64 rfl ?_
  refine c_newa (t := 1) (N := 36) C hR (uw_in tb_82 rfl) (Or.inl ⟨rfl, rfl⟩) rfl f2 ⟨w32_id (a := 36) (by decide), by decide⟩ (by decide) dX11_init_64 66 rfl (k := 151) rfl ?_
  refine zn (8, 283) rfl 152 rfl ?_
  have f1 := frs_m f1 (show 151 ≤ 152 by decide)
  have f2 := frs_m f2 (show 151 ≤ 152 by decide)
  refine c_putF C hnm fFX11_31 ⟨rfl, by decide, by decide⟩ (by decide) dX11_init_66 69 rfl ?_
  have f1 := frs_c (e := (143, 18, 151)) (show (143 : Int) < ((152 : Nat) : Int) by decide) f1
  refine z_aload_n C 0 rfl 0 rfl dX11_init_69 70 rfl ?_
  refine z_bipush C (by decide) dX11_init_70 72 rfl ?_
  refine c_newa (t := 1) (N := 6) C hR (uw_in tb_82 rfl) (Or.inl ⟨rfl, rfl⟩) rfl f2 ⟨w32_id (a := 6) (by decide), by decide⟩ (by decide) dX11_init_72 74 rfl (k := 152) rfl ?_
  refine zn (9, 289) rfl 153 rfl ?_
  have f1 := frs_m f1 (show 152 ≤ 153 by decide)
  have f2 := frs_m f2 (show 152 ≤ 153 by decide)
  refine c_putF C hnm fFX11_34 ⟨rfl, by decide, by decide⟩ (by decide) dX11_init_74 77 rfl ?_
  have f1 := frs_c (e := (143, 19, 152)) (show (143 : Int) < ((153 : Nat) : Int) by decide) f1
  refine z_aload_n C 0 rfl 0 rfl dX11_init_77 78 rfl ?_
  refine z_bipush C (by decide) dX11_init_78 80 rfl ?_
  refine c_newa (t := 1) (N := 24) C hR (uw_in tb_82 rfl) (Or.inl ⟨rfl, rfl⟩) rfl f2 ⟨w32_id (a := 24) (by decide), by decide⟩ (by decide) dX11_init_80 82 rfl (k := 153) rfl ?_
  refine zn (10, 313) rfl 154 rfl ?_
  have f1 := frs_m f1 (show 153 ≤ 154 by decide)
  have f2 := frs_m f2 (show 153 ≤ 154 by decide)
  refine c_putF C hnm fFX11_37 ⟨rfl, by decide, by decide⟩ (by decide) dX11_init_82 85 rfl ?_
  have f1 := frs_c (e := (143, 20, 153)) (show (143 : Int) < ((154 : Nat) : Int) by decide) f1
  refine z_aload_n C 0 rfl 0 rfl dX11_init_85 86 rfl ?_
  refine z_bipush C (by decide) dX11_init_86 88 rfl ?_
  refine c_newa (t := 1) (N := 24) C hR (uw_in tb_82 rfl) (Or.inl ⟨rfl, rfl⟩) rfl f2 ⟨w32_id (a := 24) (by decide), by decide⟩ (by decide) dX11_init_88 90 rfl (k := 154) rfl ?_
  refine zn (11, 337) rfl 155 rfl ?_
  have f1 := frs_m f1 (show 154 ≤ 155 by decide)
  have f2 := frs_m f2 (show 154 ≤ 155 by decide)
  refine c_putF C hnm fFX11_40 ⟨rfl, by decide, by decide⟩ (by decide) dX11_init_90 93 rfl ?_
  have f1 := frs_c (e := (143, 21, 154)) (show (143 : Int) < ((155 : Nat) : Int) by decide) f1
  refine z_aload_n C 0 rfl 0 rfl dX11_init_93 94 rfl ?_
  refine z_bipush C (by decide) dX11_init_94 96 rfl ?_
  refine c_newa (t := 1) (N := 24) C hR (uw_in tb_82 rfl) (Or.inl ⟨rfl, rfl⟩) rfl f2 ⟨w32_id (a := 24) (by decide), by decide⟩ (by decide) dX11_init_96 98 rfl (k := 155) rfl ?_
  refine zn (12, 361) rfl 156 rfl ?_
  have f1 := frs_m f1 (show 155 ≤ 156 by decide)
  have f2 := frs_m f2 (show 155 ≤ 156 by decide)
  refine c_putF C hnm fFX11_43 ⟨rfl, by decide, by decide⟩ (by decide) dX11_init_98 101 rfl ?_
  have f1 := frs_c (e := (143, 22, 155)) (show (143 : Int) < ((156 : Nat) : Int) by decide) f1
  refine z_aload_n C 0 rfl 0 rfl dX11_init_101 102 rfl ?_
  refine z_bipush C (by decide) dX11_init_102 104 rfl ?_
  refine c_newa (t := 1) (N := 6) C hR (uw_in tb_82 rfl) (Or.inl ⟨rfl, rfl⟩) rfl f2 ⟨w32_id (a := 6) (by decide), by decide⟩ (by decide) dX11_init_104 106 rfl (k := 156) rfl ?_
  refine zn (13, 367) rfl 157 rfl ?_
  have f1 := frs_m f1 (show 156 ≤ 157 by decide)
  have f2 := frs_m f2 (show 156 ≤ 157 by decide)
  refine c_putF C hnm fFX11_46 ⟨rfl, by decide, by decide⟩ (by decide) dX11_init_106 109 rfl ?_
  have f1 := frs_c (e := (143, 23, 156)) (show (143 : Int) < ((157 : Nat) : Int) by decide) f1
  refine z_aload_n C 0 rfl 0 rfl dX11_init_109 110 rfl ?_
  refine z_bipush C (by decide) dX11_init_110 112 rfl ?_
  refine c_newa (t := 1) (N := 11) C hR (uw_in tb_82 rfl) (Or.inl ⟨rfl, rfl⟩) rfl f2 ⟨w32_id (a := 11) (by decide), by decide⟩ (by decide) dX11_init_112 114 rfl (k := 157) rfl ?_
  refine zn (14, 378) rfl 158 rfl ?_
  have f1 := frs_m f1 (show 157 ≤ 158 by decide)
  have f2 := frs_m f2 (show 157 ≤ 158 by decide)
  refine z_dup C rfl dX11_init_114 115 rfl ?_
  refine z_iconst C dX11_init_115 116 rfl ?_
  refine z_iconst C dX11_init_116 117 rfl ?_
  refine c_iast (N := 11) C ⟨rfl, by decide, by decide⟩ dX11_init_117 118 rfl (w32_id (a := 0) (by decide)) (by decide) ?_
  have f2 := frs_c (e := (157, 0, 0)) (show (157 : Int) < ((158 : Nat) : Int) by decide) f2
  refine z_dup C rfl dX11_init_118 119 rfl ?_
  refine z_iconst C dX11_init_119 120 rfl ?_
  refine z_iconst C dX11_init_120 121 rfl ?_
  refine c_iast (N := 11) C ⟨rfl, by decide, by decide⟩ dX11_init_121 122 rfl (w32_id (a := 1) (by decide)) (by decide) ?_
  have f2 := frs_c (e := (157, 1, 5)) (show (157 : Int) < ((158 : Nat) : Int) by decide) f2
  refine z_dup C rfl dX11_init_122 123 rfl ?_
  refine z_iconst C dX11_init_123 124 rfl ?_
  refine z_bipush C (by decide) dX11_init_124 126 rfl ?_
  refine c_iast (N := 11) C ⟨rfl, by decide, by decide⟩ dX11_init_126 127 rfl (w32_id (a := 2) (by decide)) (by decide) ?_
  have f2 := frs_c (e := (157, 2, 9)) (show (157 : Int) < ((158 : Nat) : Int) by decide) f2
  refine z_dup C rfl dX11_init_127 128 rfl ?_
  refine z_iconst C dX11_init_128 129 rfl ?_
  refine z_bipush C (by decide) dX11_init_129 131 rfl ?_
  refine c_iast (N := 11) C ⟨rfl, by decide, by decide⟩ dX11_init_131 132 rfl (w32_id (a := 3) (by decide)) (by decide) ?_
  have f2 := frs_c (e := (157, 3, 13)) (show (157 : Int) < ((158 : Nat) : Int) by decide) f2
  refine z_dup C rfl dX11_init_132 133 rfl ?_
  refine z_iconst C dX11_init_133 134 rfl ?_
  refine z_bipush C (by decide) dX11_init_134 136 rfl ?_
  refine c_iast (N := 11) C ⟨rfl, by decide, by decide⟩ dX11_init_136 137 rfl (w32_id (a := 4) (by decide)) (by decide) ?_
  have f2 := frs_c (e := (157, 4, 17)) (show (157 : Int) < ((158 : Nat) : Int) by decide) f2
  refine z_dup C rfl dX11_init_137 138 rfl ?_
  refine z_iconst C dX11_init_138 139 rfl ?_
  refine z_bipush C (by decide) dX11_init_139 141 rfl ?_
  refine c_iast (N := 11) C ⟨rfl, by decide, by decide⟩ dX11_init_141 142 rfl (w32_id (a := 5) (by decide)) (by decide) ?_
  have f2 := frs_c (e := (157, 5, 21)) (show (157 : Int) < ((158 : Nat) : Int) by decide) f2
  refine z_dup C rfl dX11_init_142 143 rfl ?_
  refine z_bipush C (by decide) dX11_init_143 145 rfl ?_
  refine z_bipush C (by decide) dX11_init_145 147 rfl ?_
  refine c_iast (N := 11) C ⟨rfl, by decide, by decide⟩ dX11_init_147 148 rfl (w32_id (a := 6) (by decide)) (by decide) ?_
  have f2 := frs_c (e := (157, 6, 27)) (show (157 : Int) < ((158 : Nat) : Int) by decide) f2
  refine z_dup C rfl dX11_init_148 149 rfl ?_
  refine z_bipush C (by decide) dX11_init_149 151 rfl ?_
  refine z_bipush C (by decide) dX11_init_151 153 rfl ?_
  refine c_iast (N := 11) C ⟨rfl, by decide, by decide⟩ dX11_init_153 154 rfl (w32_id (a := 7) (by decide)) (by decide) ?_
  have f2 := frs_c (e := (157, 7, 29)) (show (157 : Int) < ((158 : Nat) : Int) by decide) f2
  refine z_dup C rfl dX11_init_154 155 rfl ?_
  refine z_bipush C (by decide) dX11_init_155 157 rfl ?_
  refine z_bipush C (by decide) dX11_init_157 159 rfl ?_
  refine c_iast (N := 11) C ⟨rfl, by decide, by decide⟩ dX11_init_159 160 rfl (w32_id (a := 8) (by decide)) (by decide) ?_
  have f2 := frs_c (e := (157, 8, 31)) (show (157 : Int) < ((158 : Nat) : Int) by decide) f2
  refine z_dup C rfl dX11_init_160 161 rfl ?_
  refine z_bipush C (by decide) dX11_init_161 163 rfl ?_
  refine z_bipush C (by decide) dX11_init_163 165 rfl ?_
  refine c_iast (N := 11) C ⟨rfl, by decide, by decide⟩ dX11_init_165 166 rfl (w32_id (a := 9) (by decide)) (by decide) ?_
  have f2 := frs_c (e := (157, 9, 34)) (show (157 : Int) < ((158 : Nat) : Int) by decide) f2
  refine z_dup C rfl dX11_init_166 167 rfl ?_
  refine z_bipush C (by decide) dX11_init_167 169 rfl ?_
  refine z_bipush C (by decide) dX11_init_169 171 rfl ?_
  refine c_iast (N := 11) C ⟨rfl, by decide, by decide⟩ dX11_init_171 172 rfl (w32_id (a := 10) (by decide)) (by decide) ?_
  have f2 := frs_c (e := (157, 10, 38)) (show (157 : Int) < ((158 : Nat) : Int) by decide) f2
  refine c_putF C hnm fFX11_49 ⟨rfl, by decide, by decide⟩ (by decide) dX11_init_172 175 rfl ?_
  have f1 := frs_c (e := (143, 24, 157)) (show (143 : Int) < ((158 : Nat) : Int) by decide) f1
  refine z_aload_n C 0 rfl 0 rfl dX11_init_175 176 rfl ?_
  refine z_bipush C (by decide) dX11_init_176 178 rfl ?_
  refine c_newa (t := 1) (N := 38) C hR (uw_in tb_82 rfl) (Or.inl ⟨rfl, rfl⟩) rfl f2 ⟨w32_id (a := 38) (by decide), by decide⟩ (by decide) dX11_init_178 180 rfl (k := 158) rfl ?_
  refine zn (15, 416) rfl 159 rfl ?_
  have f1 := frs_m f1 (show 158 ≤ 159 by decide)
  have f2 := frs_m f2 (show 158 ≤ 159 by decide)
  refine z_dup C rfl dX11_init_180 181 rfl ?_
  refine z_iconst C dX11_init_181 182 rfl ?_
  refine z_bipush C (by decide) dX11_init_182 184 rfl ?_
  refine c_iast (N := 38) C ⟨rfl, by decide, by decide⟩ dX11_init_184 185 rfl (w32_id (a := 0) (by decide)) (by decide) ?_
  have f2 := frs_c (e := (158, 0, 119)) (show (158 : Int) < ((159 : Nat) : Int) by decide) f2
  refine z_dup C rfl dX11_init_185 186 rfl ?_
  refine z_iconst C dX11_init_186 187 rfl ?_
  refine z_bipush C (by decide) dX11_init_187 189 rfl ?_
  refine c_iast (N := 38) C ⟨rfl, by decide, by decide⟩ dX11_init_189 190 rfl (w32_id (a := 1) (by decide)) (by decide) ?_
  have f2 := frs_c (e := (158, 1, 111)) (show (158 : Int) < ((159 : Nat) : Int) by decide) f2
  refine z_dup C rfl dX11_init_190 191 rfl ?_
  refine z_iconst C dX11_init_191 192 rfl ?_
  refine z_bipush C (by decide) dX11_init_192 194 rfl ?_
  refine c_iast (N := 38) C ⟨rfl, by decide, by decide⟩ dX11_init_194 195 rfl (w32_id (a := 2) (by decide)) (by decide) ?_
  have f2 := frs_c (e := (158, 2, 114)) (show (158 : Int) < ((159 : Nat) : Int) by decide) f2
  refine z_dup C rfl dX11_init_195 196 rfl ?_
  refine z_iconst C dX11_init_196 197 rfl ?_
  refine z_bipush C (by decide) dX11_init_197 199 rfl ?_
  refine c_iast (N := 38) C ⟨rfl, by decide, by decide⟩ dX11_init_199 200 rfl (w32_id (a := 3) (by decide)) (by decide) ?_
  have f2 := frs_c (e := (158, 3, 116)) (show (158 : Int) < ((159 : Nat) : Int) by decide) f2
  refine z_dup C rfl dX11_init_200 201 rfl ?_
  refine z_iconst C dX11_init_201 202 rfl ?_
  refine z_bipush C (by decide) dX11_init_202 204 rfl ?_
  refine c_iast (N := 38) C ⟨rfl, by decide, by decide⟩ dX11_init_204 205 rfl (w32_id (a := 4) (by decide)) (by decide) ?_
  have f2 := frs_c (e := (158, 4, 104)) (show (158 : Int) < ((159 : Nat) : Int) by decide) f2
  refine z_dup C rfl dX11_init_205 206 rfl ?_
  refine z_iconst C dX11_init_206 207 rfl ?_
  refine z_bipush C (by decide) dX11_init_207 209 rfl ?_
  refine c_iast (N := 38) C ⟨rfl, by decide, by decide⟩ dX11_init_209 210 rfl (w32_id (a := 5) (by decide)) (by decide) ?_
  have f2 := frs_c (e := (158, 5, 108)) (show (158 : Int) < ((159 : Nat) : Int) by decide) f2
  refine z_dup C rfl dX11_init_210 211 rfl ?_
  refine z_bipush C (by decide) dX11_init_211 213 rfl ?_
  refine z_bipush C (by decide) dX11_init_213 215 rfl ?_
  refine c_iast (N := 38) C ⟨rfl, by decide, by decide⟩ dX11_init_215 216 rfl (w32_id (a := 6) (by decide)) (by decide) ?_
  have f2 := frs_c (e := (158, 6, 101)) (show (158 : Int) < ((159 : Nat) : Int) by decide) f2
  refine z_dup C rfl dX11_init_216 217 rfl ?_
  refine z_bipush C (by decide) dX11_init_217 219 rfl ?_
  refine z_bipush C (by decide) dX11_init_219 221 rfl ?_
  refine c_iast (N := 38) C ⟨rfl, by decide, by decide⟩ dX11_init_221 222 rfl (w32_id (a := 7) (by decide)) (by decide) ?_
  have f2 := frs_c (e := (158, 7, 102)) (show (158 : Int) < ((159 : Nat) : Int) by decide) f2
  refine z_dup C rfl dX11_init_222 223 rfl ?_
  refine z_bipush C (by decide) dX11_init_223 225 rfl ?_
  refine z_bipush C (by decide) dX11_init_225 227 rfl ?_
  refine c_iast (N := 38) C ⟨rfl, by decide, by decide⟩ dX11_init_227 228 rfl (w32_id (a := 8) (by decide)) (by decide) ?_
  have f2 := frs_c (e := (158, 8, 116)) (show (158 : Int) < ((159 : Nat) : Int) by decide) f2
  refine z_dup C rfl dX11_init_228 229 rfl ?_
  refine z_bipush C (by decide) dX11_init_229 231 rfl ?_
  refine z_bipush C (by decide) dX11_init_231 233 rfl ?_
  refine c_iast (N := 38) C ⟨rfl, by decide, by decide⟩ dX11_init_233 234 rfl (w32_id (a := 9) (by decide)) (by decide) ?_
  have f2 := frs_c (e := (158, 9, 114)) (show (158 : Int) < ((159 : Nat) : Int) by decide) f2
  refine z_dup C rfl dX11_init_234 235 rfl ?_
  refine z_bipush C (by decide) dX11_init_235 237 rfl ?_
  refine z_bipush C (by decide) dX11_init_237 239 rfl ?_
  refine c_iast (N := 38) C ⟨rfl, by decide, by decide⟩ dX11_init_239 240 rfl (w32_id (a := 10) (by decide)) (by decide) ?_
  have f2 := frs_c (e := (158, 10, 111)) (show (158 : Int) < ((159 : Nat) : Int) by decide) f2
  refine z_dup C rfl dX11_init_240 241 rfl ?_
  refine z_bipush C (by decide) dX11_init_241 243 rfl ?_
  refine z_bipush C (by decide) dX11_init_243 245 rfl ?_
  refine c_iast (N := 38) C ⟨rfl, by decide, by decide⟩ dX11_init_245 246 rfl (w32_id (a := 11) (by decide)) (by decide) ?_
  have f2 := frs_c (e := (158, 11, 111)) (show (158 : Int) < ((159 : Nat) : Int) by decide) f2
  refine z_dup C rfl dX11_init_246 247 rfl ?_
  refine z_bipush C (by decide) dX11_init_247 249 rfl ?_
  refine z_bipush C (by decide) dX11_init_249 251 rfl ?_
  refine c_iast (N := 38) C ⟨rfl, by decide, by decide⟩ dX11_init_251 252 rfl (w32_id (a := 12) (by decide)) (by decide) ?_
  have f2 := frs_c (e := (158, 12, 109)) (show (158 : Int) < ((159 : Nat) : Int) by decide) f2
  refine z_dup C rfl dX11_init_252 253 rfl ?_
  refine z_bipush C (by decide) dX11_init_253 255 rfl ?_
  refine z_bipush C (by decide) dX11_init_255 257 rfl ?_
  refine c_iast (N := 38) C ⟨rfl, by decide, by decide⟩ dX11_init_257 258 rfl (w32_id (a := 13) (by decide)) (by decide) ?_
  have f2 := frs_c (e := (158, 13, 114)) (show (158 : Int) < ((159 : Nat) : Int) by decide) f2
  refine z_dup C rfl dX11_init_258 259 rfl ?_
  refine z_bipush C (by decide) dX11_init_259 261 rfl ?_
  refine z_bipush C (by decide) dX11_init_261 263 rfl ?_
  refine c_iast (N := 38) C ⟨rfl, by decide, by decide⟩ dX11_init_263 264 rfl (w32_id (a := 14) (by decide)) (by decide) ?_
  have f2 := frs_c (e := (158, 14, 97)) (show (158 : Int) < ((159 : Nat) : Int) by decide) f2
  refine z_dup C rfl dX11_init_264 265 rfl ?_
  refine z_bipush C (by decide) dX11_init_265 267 rfl ?_
  refine z_bipush C (by decide) dX11_init_267 269 rfl ?_
  refine c_iast (N := 38) C ⟨rfl, by decide, by decide⟩ dX11_init_269 270 rfl (w32_id (a := 15) (by decide)) (by decide) ?_
  have f2 := frs_c (e := (158, 15, 110)) (show (158 : Int) < ((159 : Nat) : Int) by decide) f2
  refine z_dup C rfl dX11_init_270 271 rfl ?_
  refine z_bipush C (by decide) dX11_init_271 273 rfl ?_
  refine z_bipush C (by decide) dX11_init_273 275 rfl ?_
  refine c_iast (N := 38) C ⟨rfl, by decide, by decide⟩ dX11_init_275 276 rfl (w32_id (a := 16) (by decide)) (by decide) ?_
  have f2 := frs_c (e := (158, 16, 107)) (show (158 : Int) < ((159 : Nat) : Int) by decide) f2
  refine z_dup C rfl dX11_init_276 277 rfl ?_
  refine z_bipush C (by decide) dX11_init_277 279 rfl ?_
  refine z_bipush C (by decide) dX11_init_279 281 rfl ?_
  refine c_iast (N := 38) C ⟨rfl, by decide, by decide⟩ dX11_init_281 282 rfl (w32_id (a := 17) (by decide)) (by decide) ?_
  have f2 := frs_c (e := (158, 17, 112)) (show (158 : Int) < ((159 : Nat) : Int) by decide) f2
  refine z_dup C rfl dX11_init_282 283 rfl ?_
  refine z_bipush C (by decide) dX11_init_283 285 rfl ?_
  refine z_bipush C (by decide) dX11_init_285 287 rfl ?_
  refine c_iast (N := 38) C ⟨rfl, by decide, by decide⟩ dX11_init_287 288 rfl (w32_id (a := 18) (by decide)) (by decide) ?_
  have f2 := frs_c (e := (158, 18, 97)) (show (158 : Int) < ((159 : Nat) : Int) by decide) f2
  refine z_dup C rfl dX11_init_288 289 rfl ?_
  refine z_bipush C (by decide) dX11_init_289 291 rfl ?_
  refine z_bipush C (by decide) dX11_init_291 293 rfl ?_
  refine c_iast (N := 38) C ⟨rfl, by decide, by decide⟩ dX11_init_293 294 rfl (w32_id (a := 19) (by decide)) (by decide) ?_
  have f2 := frs_c (e := (158, 19, 105)) (show (158 : Int) < ((159 : Nat) : Int) by decide) f2
  refine z_dup C rfl dX11_init_294 295 rfl ?_
  refine z_bipush C (by decide) dX11_init_295 297 rfl ?_
  refine z_bipush C (by decide) dX11_init_297 299 rfl ?_
  refine c_iast (N := 38) C ⟨rfl, by decide, by decide⟩ dX11_init_299 300 rfl (w32_id (a := 20) (by decide)) (by decide) ?_
  have f2 := frs_c (e := (158, 20, 100)) (show (158 : Int) < ((159 : Nat) : Int) by decide) f2
  refine z_dup C rfl dX11_init_300 301 rfl ?_
  refine z_bipush C (by decide) dX11_init_301 303 rfl ?_
  refine z_bipush C (by decide) dX11_init_303 305 rfl ?_
  refine c_iast (N := 38) C ⟨rfl, by decide, by decide⟩ dX11_init_305 306 rfl (w32_id (a := 21) (by decide)) (by decide) ?_
  have f2 := frs_c (e := (158, 21, 110)) (show (158 : Int) < ((159 : Nat) : Int) by decide) f2
  refine z_dup C rfl dX11_init_306 307 rfl ?_
  refine z_bipush C (by decide) dX11_init_307 309 rfl ?_
  refine z_bipush C (by decide) dX11_init_309 311 rfl ?_
  refine c_iast (N := 38) C ⟨rfl, by decide, by decide⟩ dX11_init_311 312 rfl (w32_id (a := 22) (by decide)) (by decide) ?_
  have f2 := frs_c (e := (158, 22, 117)) (show (158 : Int) < ((159 : Nat) : Int) by decide) f2
  refine z_dup C rfl dX11_init_312 313 rfl ?_
  refine z_bipush C (by decide) dX11_init_313 315 rfl ?_
  refine z_bipush C (by decide) dX11_init_315 317 rfl ?_
  refine c_iast (N := 38) C ⟨rfl, by decide, by decide⟩ dX11_init_317 318 rfl (w32_id (a := 23) (by decide)) (by decide) ?_
  have f2 := frs_c (e := (158, 23, 109)) (show (158 : Int) < ((159 : Nat) : Int) by decide) f2
  refine z_dup C rfl dX11_init_318 319 rfl ?_
  refine z_bipush C (by decide) dX11_init_319 321 rfl ?_
  refine z_bipush C (by decide) dX11_init_321 323 rfl ?_
  refine c_iast (N := 38) C ⟨rfl, by decide, by decide⟩ dX11_init_323 324 rfl (w32_id (a := 24) (by decide)) (by decide) ?_
  have f2 := frs_c (e := (158, 24, 98)) (show (158 : Int) < ((159 : Nat) : Int) by decide) f2
  refine z_dup C rfl dX11_init_324 325 rfl ?_
  refine z_bipush C (by decide) dX11_init_325 327 rfl ?_
  refine z_bipush C (by decide) dX11_init_327 329 rfl ?_
  refine c_iast (N := 38) C ⟨rfl, by decide, by decide⟩ dX11_init_329 330 rfl (w32_id (a := 25) (by decide)) (by decide) ?_
  have f2 := frs_c (e := (158, 25, 101)) (show (158 : Int) < ((159 : Nat) : Int) by decide) f2
  refine z_dup C rfl dX11_init_330 331 rfl ?_
  refine z_bipush C (by decide) dX11_init_331 333 rfl ?_
  refine z_bipush C (by decide) dX11_init_333 335 rfl ?_
  refine c_iast (N := 38) C ⟨rfl, by decide, by decide⟩ dX11_init_335 336 rfl (w32_id (a := 26) (by decide)) (by decide) ?_
  have f2 := frs_c (e := (158, 26, 114)) (show (158 : Int) < ((159 : Nat) : Int) by decide) f2
  refine z_dup C rfl dX11_init_336 337 rfl ?_
  refine z_bipush C (by decide) dX11_init_337 339 rfl ?_
  refine z_bipush C (by decide) dX11_init_339 341 rfl ?_
  refine c_iast (N := 38) C ⟨rfl, by decide, by decide⟩ dX11_init_341 342 rfl (w32_id (a := 27) (by decide)) (by decide) ?_
  have f2 := frs_c (e := (158, 27, 98)) (show (158 : Int) < ((159 : Nat) : Int) by decide) f2
  refine z_dup C rfl dX11_init_342 343 rfl ?_
  refine z_bipush C (by decide) dX11_init_343 345 rfl ?_
  refine z_bipush C (by decide) dX11_init_345 347 rfl ?_
  refine c_iast (N := 38) C ⟨rfl, by decide, by decide⟩ dX11_init_347 348 rfl (w32_id (a := 28) (by decide)) (by decide) ?_
  have f2 := frs_c (e := (158, 28, 121)) (show (158 : Int) < ((159 : Nat) : Int) by decide) f2
  refine z_dup C rfl dX11_init_348 349 rfl ?_
  refine z_bipush C (by decide) dX11_init_349 351 rfl ?_
  refine z_bipush C (by decide) dX11_init_351 353 rfl ?_
  refine c_iast (N := 38) C ⟨rfl, by decide, by decide⟩ dX11_init_353 354 rfl (w32_id (a := 29) (by decide)) (by decide) ?_
  have f2 := frs_c (e := (158, 29, 105)) (show (158 : Int) < ((159 : Nat) : Int) by decide) f2
  refine z_dup C rfl dX11_init_354 355 rfl ?_
  refine z_bipush C (by decide) dX11_init_355 357 rfl ?_
  refine z_bipush C (by decide) dX11_init_357 359 rfl ?_
  refine c_iast (N := 38) C ⟨rfl, by decide, by decide⟩ dX11_init_359 360 rfl (w32_id (a := 30) (by decide)) (by decide) ?_
  have f2 := frs_c (e := (158, 30, 102)) (show (158 : Int) < ((159 : Nat) : Int) by decide) f2
  refine z_dup C rfl dX11_init_360 361 rfl ?_
  refine z_bipush C (by decide) dX11_init_361 363 rfl ?_
  refine z_bipush C (by decide) dX11_init_363 365 rfl ?_
  refine c_iast (N := 38) C ⟨rfl, by decide, by decide⟩ dX11_init_365 366 rfl (w32_id (a := 31) (by decide)) (by decide) ?_
  have f2 := frs_c (e := (158, 31, 97)) (show (158 : Int) < ((159 : Nat) : Int) by decide) f2
  refine z_dup C rfl dX11_init_366 367 rfl ?_
  refine z_bipush C (by decide) dX11_init_367 369 rfl ?_
  refine z_bipush C (by decide) dX11_init_369 371 rfl ?_
  refine c_iast (N := 38) C ⟨rfl, by decide, by decide⟩ dX11_init_371 372 rfl (w32_id (a := 32) (by decide)) (by decide) ?_
  have f2 := frs_c (e := (158, 32, 110)) (show (158 : Int) < ((159 : Nat) : Int) by decide) f2
  refine z_dup C rfl dX11_init_372 373 rfl ?_
  refine z_bipush C (by decide) dX11_init_373 375 rfl ?_
  refine z_bipush C (by decide) dX11_init_375 377 rfl ?_
  refine c_iast (N := 38) C ⟨rfl, by decide, by decide⟩ dX11_init_377 378 rfl (w32_id (a := 33) (by decide)) (by decide) ?_
  have f2 := frs_c (e := (158, 33, 100)) (show (158 : Int) < ((159 : Nat) : Int) by decide) f2
  refine z_dup C rfl dX11_init_378 379 rfl ?_
  refine z_bipush C (by decide) dX11_init_379 381 rfl ?_
  refine z_bipush C (by decide) dX11_init_381 383 rfl ?_
  refine c_iast (N := 38) C ⟨rfl, by decide, by decide⟩ dX11_init_383 384 rfl (w32_id (a := 34) (by decide)) (by decide) ?_
  have f2 := frs_c (e := (158, 34, 100)) (show (158 : Int) < ((159 : Nat) : Int) by decide) f2
  refine z_dup C rfl dX11_init_384 385 rfl ?_
  refine z_bipush C (by decide) dX11_init_385 387 rfl ?_
  refine z_bipush C (by decide) dX11_init_387 389 rfl ?_
  refine c_iast (N := 38) C ⟨rfl, by decide, by decide⟩ dX11_init_389 390 rfl (w32_id (a := 35) (by decide)) (by decide) ?_
  have f2 := frs_c (e := (158, 35, 114)) (show (158 : Int) < ((159 : Nat) : Int) by decide) f2
  refine z_dup C rfl dX11_init_390 391 rfl ?_
  refine z_bipush C (by decide) dX11_init_391 393 rfl ?_
  refine z_bipush C (by decide) dX11_init_393 395 rfl ?_
  refine c_iast (N := 38) C ⟨rfl, by decide, by decide⟩ dX11_init_395 396 rfl (w32_id (a := 36) (by decide)) (by decide) ?_
  have f2 := frs_c (e := (158, 36, 111)) (show (158 : Int) < ((159 : Nat) : Int) by decide) f2
  refine z_dup C rfl dX11_init_396 397 rfl ?_
  refine z_bipush C (by decide) dX11_init_397 399 rfl ?_
  refine z_bipush C (by decide) dX11_init_399 401 rfl ?_
  refine c_iast (N := 38) C ⟨rfl, by decide, by decide⟩ dX11_init_401 402 rfl (w32_id (a := 37) (by decide)) (by decide) ?_
  have f2 := frs_c (e := (158, 37, 112)) (show (158 : Int) < ((159 : Nat) : Int) by decide) f2
  refine c_putF C hnm fFX11_52 ⟨rfl, by decide, by decide⟩ (by decide) dX11_init_402 405 rfl ?_
  have f1 := frs_c (e := (143, 25, 158)) (show (143 : Int) < ((159 : Nat) : Int) by decide) f1
  refine z_aload_n C 0 rfl 0 rfl dX11_init_405 406 rfl ?_
  refine z_bipush C (by decide) dX11_init_406 408 rfl ?_
  refine c_newa (t := 1) (N := 6) C hR (uw_in tb_82 rfl) (Or.inl ⟨rfl, rfl⟩) rfl f2 ⟨w32_id (a := 6) (by decide), by decide⟩ (by decide) dX11_init_408 410 rfl (k := 159) rfl ?_
  refine zn (16, 422) rfl 160 rfl ?_
  have f1 := frs_m f1 (show 159 ≤ 160 by decide)
  have f2 := frs_m f2 (show 159 ≤ 160 by decide)
  refine c_putF C hnm fFX11_55 ⟨rfl, by decide, by decide⟩ (by decide) dX11_init_410 413 rfl ?_
  have f1 := frs_c (e := (143, 28, 159)) (show (143 : Int) < ((160 : Nat) : Int) by decide) f1
  refine z_aload_n C 0 rfl 0 rfl dX11_init_413 414 rfl ?_
  refine z_bipush C (by decide) dX11_init_414 416 rfl ?_
  refine c_newa (t := 1) (N := 6) C hR (uw_in tb_82 rfl) (Or.inl ⟨rfl, rfl⟩) rfl f2 ⟨w32_id (a := 6) (by decide), by decide⟩ (by decide) dX11_init_416 418 rfl (k := 160) rfl ?_
  refine zn (17, 428) rfl 161 rfl ?_
  have f1 := frs_m f1 (show 160 ≤ 161 by decide)
  have f2 := frs_m f2 (show 160 ≤ 161 by decide)
  refine c_putF C hnm fFX11_58 ⟨rfl, by decide, by decide⟩ (by decide) dX11_init_418 421 rfl ?_
  have f1 := frs_c (e := (143, 29, 160)) (show (143 : Int) < ((161 : Nat) : Int) by decide) f1
  refine z_aload_n C 0 rfl 0 rfl dX11_init_421 422 rfl ?_
  refine z_bipush C (by decide) dX11_init_422 424 rfl ?_
  refine c_newa (t := 1) (N := 6) C hR (uw_in tb_82 rfl) (Or.inl ⟨rfl, rfl⟩) rfl f2 ⟨w32_id (a := 6) (by decide), by decide⟩ (by decide) dX11_init_424 426 rfl (k := 161) rfl ?_
  refine zn (18, 434) rfl 162 rfl ?_
  have f1 := frs_m f1 (show 161 ≤ 162 by decide)
  have f2 := frs_m f2 (show 161 ≤ 162 by decide)
  refine c_putF C hnm fFX11_61 ⟨rfl, by decide, by decide⟩ (by decide) dX11_init_426 429 rfl ?_
  have f1 := frs_c (e := (143, 30, 161)) (show (143 : Int) < ((162 : Nat) : Int) by decide) f1
  refine z_aload_n C 0 rfl 0 rfl dX11_init_429 430 rfl ?_
  refine z_bipush C (by decide) dX11_init_430 432 rfl ?_
  refine c_newa (t := 1) (N := 54) C hR (uw_in tb_82 rfl) (Or.inl ⟨rfl, rfl⟩) rfl f2 ⟨w32_id (a := 54) (by decide), by decide⟩ (by decide) dX11_init_432 434 rfl (k := 162) rfl ?_
  refine zn (19, 488) rfl 163 rfl ?_
  have f1 := frs_m f1 (show 162 ≤ 163 by decide)
  have f2 := frs_m f2 (show 162 ≤ 163 by decide)
  refine c_putF C hnm fFX11_64 ⟨rfl, by decide, by decide⟩ (by decide) dX11_init_434 437 rfl ?_
  have f1 := frs_c (e := (143, 31, 162)) (show (143 : Int) < ((163 : Nat) : Int) by decide) f1
  refine z_aload_n C 0 rfl 0 rfl dX11_init_437 438 rfl ?_
  refine z_bipush C (by decide) dX11_init_438 440 rfl ?_
  refine c_newa (t := 1) (N := 6) C hR (uw_in tb_82 rfl) (Or.inl ⟨rfl, rfl⟩) rfl f2 ⟨w32_id (a := 6) (by decide), by decide⟩ (by decide) dX11_init_440 442 rfl (k := 163) rfl ?_
  refine zn (20, 494) rfl 164 rfl ?_
  have f1 := frs_m f1 (show 163 ≤ 164 by decide)
  have f2 := frs_m f2 (show 163 ≤ 164 by decide)
  refine c_putF C hnm fFX11_67 ⟨rfl, by decide, by decide⟩ (by decide) dX11_init_442 445 rfl ?_
  have f1 := frs_c (e := (143, 32, 163)) (show (143 : Int) < ((164 : Nat) : Int) by decide) f1
  refine z_aload_n C 0 rfl 0 rfl dX11_init_445 446 rfl ?_
  refine z_bipush C (by decide) dX11_init_446 448 rfl ?_
  refine c_newa (t := 1) (N := 9) C hR (uw_in tb_82 rfl) (Or.inl ⟨rfl, rfl⟩) rfl f2 ⟨w32_id (a := 9) (by decide), by decide⟩ (by decide) dX11_init_448 450 rfl (k := 164) rfl ?_
  refine zn (21, 503) rfl 165 rfl ?_
  have f1 := frs_m f1 (show 164 ≤ 165 by decide)
  have f2 := frs_m f2 (show 164 ≤ 165 by decide)
  refine c_putF C hnm fFX11_70 ⟨rfl, by decide, by decide⟩ (by decide) dX11_init_450 453 rfl ?_
  have f1 := frs_c (e := (143, 33, 164)) (show (143 : Int) < ((165 : Nat) : Int) by decide) f1
  refine z_aload_n C 0 rfl 0 rfl dX11_init_453 454 rfl ?_
  refine z_bipush C (by decide) dX11_init_454 456 rfl ?_
  refine c_newa (t := 1) (N := 9) C hR (uw_in tb_82 rfl) (Or.inl ⟨rfl, rfl⟩) rfl f2 ⟨w32_id (a := 9) (by decide), by decide⟩ (by decide) dX11_init_456 458 rfl (k := 165) rfl ?_
  refine zn (22, 512) rfl 166 rfl ?_
  have f1 := frs_m f1 (show 165 ≤ 166 by decide)
  have f2 := frs_m f2 (show 165 ≤ 166 by decide)
  refine c_putF C hnm fFX11_73 ⟨rfl, by decide, by decide⟩ (by decide) dX11_init_458 461 rfl ?_
  have f1 := frs_c (e := (143, 34, 165)) (show (143 : Int) < ((166 : Nat) : Int) by decide) f1
  refine z_aload_n C 0 rfl 0 rfl dX11_init_461 462 rfl ?_
  refine z_bipush C (by decide) dX11_init_462 464 rfl ?_
  refine c_newa (t := 1) (N := 9) C hR (uw_in tb_82 rfl) (Or.inl ⟨rfl, rfl⟩) rfl f2 ⟨w32_id (a := 9) (by decide), by decide⟩ (by decide) dX11_init_464 466 rfl (k := 166) rfl ?_
  refine zn (23, 521) rfl 167 rfl ?_
  have f1 := frs_m f1 (show 166 ≤ 167 by decide)
  have f2 := frs_m f2 (show 166 ≤ 167 by decide)
  refine c_putF C hnm fFX11_76 ⟨rfl, by decide, by decide⟩ (by decide) dX11_init_466 469 rfl ?_
  have f1 := frs_c (e := (143, 37, 166)) (show (143 : Int) < ((167 : Nat) : Int) by decide) f1
  refine z_aload_n C 0 rfl 0 rfl dX11_init_469 470 rfl ?_
  refine z_bipush C (by decide) dX11_init_470 472 rfl ?_
  refine c_newa (t := 1) (N := 6) C hR (uw_in tb_82 rfl) (Or.inl ⟨rfl, rfl⟩) rfl f2 ⟨w32_id (a := 6) (by decide), by decide⟩ (by decide) dX11_init_472 474 rfl (k := 167) rfl ?_
  refine zn (24, 527) rfl 168 rfl ?_
  have f1 := frs_m f1 (show 167 ≤ 168 by decide)
  have f2 := frs_m f2 (show 167 ≤ 168 by decide)
  refine c_putF C hnm fFX11_79 ⟨rfl, by decide, by decide⟩ (by decide) dX11_init_474 477 rfl ?_
  have f1 := frs_c (e := (143, 38, 167)) (show (143 : Int) < ((168 : Nat) : Int) by decide) f1
  refine z_aload_n C 0 rfl 0 rfl dX11_init_477 478 rfl ?_
  refine z_bipush C (by decide) dX11_init_478 480 rfl ?_
  refine c_newa (t := 1) (N := 6) C hR (uw_in tb_82 rfl) (Or.inl ⟨rfl, rfl⟩) rfl f2 ⟨w32_id (a := 6) (by decide), by decide⟩ (by decide) dX11_init_480 482 rfl (k := 168) rfl ?_
  refine zn (25, 533) rfl 169 rfl ?_
  have f1 := frs_m f1 (show 168 ≤ 169 by decide)
  have f2 := frs_m f2 (show 168 ≤ 169 by decide)
  refine c_putF C hnm fFX11_82 ⟨rfl, by decide, by decide⟩ (by decide) dX11_init_482 485 rfl ?_
  have f1 := frs_c (e := (143, 39, 168)) (show (143 : Int) < ((169 : Nat) : Int) by decide) f1
  refine z_aload_n C 0 rfl 0 rfl dX11_init_485 486 rfl ?_
  refine z_sipush C (by decide) dX11_init_486 489 rfl ?_
  refine c_newa (t := 1) (N := 5120) C hR (uw_in tb_82 rfl) (Or.inl ⟨rfl, rfl⟩) rfl f2 ⟨w32_id (a := 5120) (by decide), by decide⟩ (by decide) dX11_init_489 491 rfl (k := 169) rfl ?_
  refine zn (26, 5653) rfl 170 rfl ?_
  have f1 := frs_m f1 (show 169 ≤ 170 by decide)
  have f2 := frs_m f2 (show 169 ≤ 170 by decide)
  refine c_putF C hnm fFX11_85 ⟨rfl, by decide, by decide⟩ (by decide) dX11_init_491 494 rfl ?_
  have f1 := frs_c (e := (143, 41, 169)) (show (143 : Int) < ((170 : Nat) : Int) by decide) f1
  refine z_aload_n C 0 rfl 0 rfl dX11_init_494 495 rfl ?_
  refine z_bipush C (by decide) dX11_init_495 497 rfl ?_
  refine c_newa (t := 1) (N := 9) C hR (uw_in tb_82 rfl) (Or.inl ⟨rfl, rfl⟩) rfl f2 ⟨w32_id (a := 9) (by decide), by decide⟩ (by decide) dX11_init_497 499 rfl (k := 170) rfl ?_
  refine zn (27, 5662) rfl 171 rfl ?_
  have f1 := frs_m f1 (show 170 ≤ 171 by decide)
  have f2 := frs_m f2 (show 170 ≤ 171 by decide)
  refine c_putF C hnm fFX11_88 ⟨rfl, by decide, by decide⟩ (by decide) dX11_init_499 502 rfl ?_
  have f1 := frs_c (e := (143, 42, 170)) (show (143 : Int) < ((171 : Nat) : Int) by decide) f1
  refine z_aload_n C 0 rfl 0 rfl dX11_init_502 503 rfl ?_
  refine z_sipush C (by decide) dX11_init_503 506 rfl ?_
  refine c_newa (t := 2) (N := 3584) C hR (uw_in tb_219 rfl) (Or.inr (Or.inl ⟨rfl, rfl⟩)) rfl f2 ⟨w32_id (a := 3584) (by decide), by decide⟩ (by decide) dX11_init_506 508 rfl (k := 171) rfl ?_
  refine zn (28, 9246) rfl 172 rfl ?_
  have f1 := frs_m f1 (show 171 ≤ 172 by decide)
  have f2 := frs_m f2 (show 171 ≤ 172 by decide)
  refine c_putF C hnm fFX11_91 ⟨rfl, by decide, by decide⟩ (by decide) dX11_init_508 511 rfl ?_
  have f1 := frs_c (e := (143, 47, 171)) (show (143 : Int) < ((172 : Nat) : Int) by decide) f1
  refine z_aload_n C 0 rfl 0 rfl dX11_init_511 512 rfl ?_
  refine z_bipush C (by decide) dX11_init_512 514 rfl ?_
  refine c_newa (t := 2) (N := 7) C hR (uw_in tb_219 rfl) (Or.inr (Or.inl ⟨rfl, rfl⟩)) rfl f2 ⟨w32_id (a := 7) (by decide), by decide⟩ (by decide) dX11_init_514 516 rfl (k := 172) rfl ?_
  refine zn (29, 9253) rfl 173 rfl ?_
  have f1 := frs_m f1 (show 172 ≤ 173 by decide)
  have f2 := frs_m f2 (show 172 ≤ 173 by decide)
  refine c_putF C hnm fFX11_95 ⟨rfl, by decide, by decide⟩ (by decide) dX11_init_516 519 rfl ?_
  have f1 := frs_c (e := (143, 48, 172)) (show (143 : Int) < ((173 : Nat) : Int) by decide) f1
  refine z_aload_n C 0 rfl 0 rfl dX11_init_519 520 rfl ?_
  refine z_bipush C (by decide) dX11_init_520 522 rfl ?_
  refine c_newa (t := 1) (N := 9) C hR (uw_in tb_82 rfl) (Or.inl ⟨rfl, rfl⟩) rfl f2 ⟨w32_id (a := 9) (by decide), by decide⟩ (by decide) dX11_init_522 524 rfl (k := 173) rfl ?_
  refine zn (30, 9262) rfl 174 rfl ?_
  have f1 := frs_m f1 (show 173 ≤ 174 by decide)
  have f2 := frs_m f2 (show 173 ≤ 174 by decide)
  refine c_putF C hnm fFX11_98 ⟨rfl, by decide, by decide⟩ (by decide) dX11_init_524 527 rfl ?_
  have f1 := frs_c (e := (143, 49, 173)) (show (143 : Int) < ((174 : Nat) : Int) by decide) f1
  refine z_aload_n C 0 rfl 0 rfl dX11_init_527 528 rfl ?_
  refine z_bipush C (by decide) dX11_init_528 530 rfl ?_
  refine c_newa (t := 1) (N := 9) C hR (uw_in tb_82 rfl) (Or.inl ⟨rfl, rfl⟩) rfl f2 ⟨w32_id (a := 9) (by decide), by decide⟩ (by decide) dX11_init_530 532 rfl (k := 174) rfl ?_
  refine zn (31, 9271) rfl 175 rfl ?_
  have f1 := frs_m f1 (show 174 ≤ 175 by decide)
  have f2 := frs_m f2 (show 174 ≤ 175 by decide)
  refine c_putF C hnm fFX11_101 ⟨rfl, by decide, by decide⟩ (by decide) dX11_init_532 535 rfl ?_
  have f1 := frs_c (e := (143, 50, 174)) (show (143 : Int) < ((175 : Nat) : Int) by decide) f1
  refine z_aload_n C 0 rfl 0 rfl dX11_init_535 536 rfl ?_
  refine z_bipush C (by decide) dX11_init_536 538 rfl ?_
  refine c_newa (t := 1) (N := 9) C hR (uw_in tb_82 rfl) (Or.inl ⟨rfl, rfl⟩) rfl f2 ⟨w32_id (a := 9) (by decide), by decide⟩ (by decide) dX11_init_538 540 rfl (k := 175) rfl ?_
  refine zn (32, 9280) rfl 176 rfl ?_
  have f1 := frs_m f1 (show 175 ≤ 176 by decide)
  have f2 := frs_m f2 (show 175 ≤ 176 by decide)
  refine c_putF C hnm fFX11_104 ⟨rfl, by decide, by decide⟩ (by decide) dX11_init_540 543 rfl ?_
  have f1 := frs_c (e := (143, 51, 175)) (show (143 : Int) < ((176 : Nat) : Int) by decide) f1
  refine z_aload_n C 0 rfl 0 rfl dX11_init_543 544 rfl ?_
  refine z_bipush C (by decide) dX11_init_544 546 rfl ?_
  refine c_newa (t := 1) (N := 6) C hR (uw_in tb_82 rfl) (Or.inl ⟨rfl, rfl⟩) rfl f2 ⟨w32_id (a := 6) (by decide), by decide⟩ (by decide) dX11_init_546 548 rfl (k := 176) rfl ?_
  refine zn (33, 9286) rfl 177 rfl ?_
  have f1 := frs_m f1 (show 176 ≤ 177 by decide)
  have f2 := frs_m f2 (show 176 ≤ 177 by decide)
  refine c_putF C hnm fFX11_107 ⟨rfl, by decide, by decide⟩ (by decide) dX11_init_548 551 rfl ?_
  have f1 := frs_c (e := (143, 52, 176)) (show (143 : Int) < ((177 : Nat) : Int) by decide) f1
  refine z_aload_n C 0 rfl 0 rfl dX11_init_551 552 rfl ?_
  refine z_sipush C (by decide) dX11_init_552 555 rfl ?_
  refine c_newa (t := 1) (N := 1200) C hR (uw_in tb_82 rfl) (Or.inl ⟨rfl, rfl⟩) rfl f2 ⟨w32_id (a := 1200) (by decide), by decide⟩ (by decide) dX11_init_555 557 rfl (k := 177) rfl ?_
  refine zn (34, 10486) rfl 178 rfl ?_
  have f1 := frs_m f1 (show 177 ≤ 178 by decide)
  have f2 := frs_m f2 (show 177 ≤ 178 by decide)
  refine c_putF C hnm fFX11_110 ⟨rfl, by decide, by decide⟩ (by decide) dX11_init_557 560 rfl ?_
  have f1 := frs_c (e := (143, 55, 177)) (show (143 : Int) < ((178 : Nat) : Int) by decide) f1
  refine z_aload_n C 0 rfl 0 rfl dX11_init_560 561 rfl ?_
  refine z_iconst C dX11_init_561 562 rfl ?_
  refine c_newa (t := 1) (N := 4) C hR (uw_in tb_82 rfl) (Or.inl ⟨rfl, rfl⟩) rfl f2 ⟨w32_id (a := 4) (by decide), by decide⟩ (by decide) dX11_init_562 564 rfl (k := 178) rfl ?_
  refine zn (35, 10490) rfl 179 rfl ?_
  have f1 := frs_m f1 (show 178 ≤ 179 by decide)
  have f2 := frs_m f2 (show 178 ≤ 179 by decide)
  refine z_dup C rfl dX11_init_564 565 rfl ?_
  refine z_iconst C dX11_init_565 566 rfl ?_
  refine z_bipush C (by decide) dX11_init_566 568 rfl ?_
  refine c_iast (N := 4) C ⟨rfl, by decide, by decide⟩ dX11_init_568 569 rfl (w32_id (a := 0) (by decide)) (by decide) ?_
  have f2 := frs_c (e := (178, 0, -4)) (show (178 : Int) < ((179 : Nat) : Int) by decide) f2
  refine z_dup C rfl dX11_init_569 570 rfl ?_
  refine z_iconst C dX11_init_570 571 rfl ?_
  refine z_bipush C (by decide) dX11_init_571 573 rfl ?_
  refine c_iast (N := 4) C ⟨rfl, by decide, by decide⟩ dX11_init_573 574 rfl (w32_id (a := 1) (by decide)) (by decide) ?_
  have f2 := frs_c (e := (178, 1, -4)) (show (178 : Int) < ((179 : Nat) : Int) by decide) f2
  refine z_dup C rfl dX11_init_574 575 rfl ?_
  refine z_iconst C dX11_init_575 576 rfl ?_
  refine z_bipush C (by decide) dX11_init_576 578 rfl ?_
  refine c_iast (N := 4) C ⟨rfl, by decide, by decide⟩ dX11_init_578 579 rfl (w32_id (a := 2) (by decide)) (by decide) ?_
  have f2 := frs_c (e := (178, 2, -4)) (show (178 : Int) < ((179 : Nat) : Int) by decide) f2
  refine z_dup C rfl dX11_init_579 580 rfl ?_
  refine z_iconst C dX11_init_580 581 rfl ?_
  refine z_bipush C (by decide) dX11_init_581 583 rfl ?_
  refine c_iast (N := 4) C ⟨rfl, by decide, by decide⟩ dX11_init_583 584 rfl (w32_id (a := 3) (by decide)) (by decide) ?_
  have f2 := frs_c (e := (178, 3, -4)) (show (178 : Int) < ((179 : Nat) : Int) by decide) f2
  refine c_putF C hnm fFX11_113 ⟨rfl, by decide, by decide⟩ (by decide) dX11_init_584 587 rfl ?_
  have f1 := frs_c (e := (143, 56, 178)) (show (143 : Int) < ((179 : Nat) : Int) by decide) f1
  refine z_aload_n C 0 rfl 0 rfl dX11_init_587 588 rfl ?_
  refine z_iconst C dX11_init_588 589 rfl ?_
  refine c_newa (t := 1) (N := 4) C hR (uw_in tb_82 rfl) (Or.inl ⟨rfl, rfl⟩) rfl f2 ⟨w32_id (a := 4) (by decide), by decide⟩ (by decide) dX11_init_589 591 rfl (k := 179) rfl ?_
  refine zn (36, 10494) rfl 180 rfl ?_
  have f1 := frs_m f1 (show 179 ≤ 180 by decide)
  have f2 := frs_m f2 (show 179 ≤ 180 by decide)
  refine c_putF C hnm fFX11_116 ⟨rfl, by decide, by decide⟩ (by decide) dX11_init_591 594 rfl ?_
  have f1 := frs_c (e := (143, 57, 179)) (show (143 : Int) < ((180 : Nat) : Int) by decide) f1
  refine z_aload_n C 0 rfl 0 rfl dX11_init_594 595 rfl ?_
  refine z_sipush C (by decide) dX11_init_595 598 rfl ?_
  refine c_newa (t := 1) (N := 256) C hR (uw_in tb_82 rfl) (Or.inl ⟨rfl, rfl⟩) rfl f2 ⟨w32_id (a := 256) (by decide), by decide⟩ (by decide) dX11_init_598 600 rfl (k := 180) rfl ?_
  refine zn (37, 10750) rfl 181 rfl ?_
  have f1 := frs_m f1 (show 180 ≤ 181 by decide)
  have f2 := frs_m f2 (show 180 ≤ 181 by decide)
  refine c_putF C hnm fFX11_119 ⟨rfl, by decide, by decide⟩ (by decide) dX11_init_600 603 rfl ?_
  have f1 := frs_c (e := (143, 58, 180)) (show (143 : Int) < ((181 : Nat) : Int) by decide) f1
  exact z_vret C R rfl rfl dX11_init_603
def iE1 : List (Int × Int × Int) := (60, 3, 141) :: (141, 0, 142) :: (60, 2, 139) :: (139, 0, 140) :: (60, 1, 137) :: (137, 0, 138) :: (60, 0, 135) :: (135, 0, 136) :: (59, 5, 123) :: (131, 2, 134) :: (131, 1, 133) :: (131, 0, 132) :: (123, 7, 131) :: (123, 6, 130) :: (123, 5, 129) :: (123, 4, 128) :: (123, 3, 127) :: (123, 2, 126) :: (123, 1, 125) :: (123, 0, 124) :: (59, 4, 111) :: (119, 2, 122) :: (119, 1, 121) :: (119, 0, 120) :: (111, 7, 119) :: (111, 6, 118) :: (111, 5, 117) :: (111, 4, 116) :: (111, 3, 115) :: (111, 2, 114) :: (111, 1, 113) :: (111, 0, 112) :: (59, 3, 99) :: (107, 2, 110) :: (107, 1, 109) :: (107, 0, 108) :: (99, 7, 107) :: (99, 6, 106) :: (99, 5, 105) :: (99, 4, 104) :: (99, 3, 103) :: (99, 2, 102) :: (99, 1, 101) :: (99, 0, 100) :: (59, 2, 87) :: (95, 2, 98) :: (95, 1, 97) :: (95, 0, 96) :: (87, 7, 95) :: (87, 6, 94) :: (87, 5, 93) :: (87, 4, 92) :: (87, 3, 91) :: (87, 2, 90) :: (87, 1, 89) :: (87, 0, 88) :: (59, 1, 75) :: (83, 2, 86) :: (83, 1, 85) :: (83, 0, 84) :: (75, 7, 83) :: (75, 6, 82) :: (75, 5, 81) :: (75, 4, 80) :: (75, 3, 79) :: (75, 2, 78) :: (75, 1, 77) :: (75, 0, 76) :: (59, 0, 63) :: (71, 2, 74) :: (71, 1, 73) :: (71, 0, 72) :: (63, 7, 71) :: (63, 6, 70) :: (63, 5, 69) :: (63, 4, 68) :: (63, 3, 67) :: (63, 2, 66) :: (63, 1, 65) :: (63, 0, 64) :: (0, 11, 62) :: (0, 10, 61) :: (0, 9, 60) :: (0, 8, 59) :: (0, 7, 57) :: (57, 3, 58) :: (0, 6, 50) :: (50, 2, 1) :: (50, 4, 56) :: (50, 3, 52) :: (52, 2, 55) :: (52, 1, 54) :: (52, 0, 53) :: (50, 0, 51) :: (0, 5, 43) :: (43, 3, 49) :: (43, 2, 45) :: (45, 2, 48) :: (45, 1, 47) :: (45, 0, 46) :: (43, 0, 44) :: (0, 4, 33) :: (33, 0, 27) :: (33, 9, 42) :: (33, 8, 41) :: (33, 7, 40) :: (33, 6, 39) :: (33, 5, 38) :: (33, 4, 37) :: (33, 3, 36) :: (33, 2, 35) :: (33, 1, 34) :: (0, 3, 27) :: (27, 4, 32) :: (27, 3, 31) :: (27, 2, 30) :: (27, 1, 29) :: (27, 0, 28) :: (0, 2, 17) :: (17, 0, 1) :: (17, 9, 26) :: (17, 8, 25) :: (17, 7, 24) :: (17, 6, 23) :: (17, 5, 22) :: (17, 4, 21) :: (17, 3, 20) :: (17, 2, 19) :: (17, 1, 18) :: (0, 1, 7) :: (7, 0, 1) :: (7, 9, 16) :: (7, 8, 15) :: (7, 7, 14) :: (7, 6, 13) :: (7, 5, 12) :: (7, 4, 11) :: (7, 3, 10) :: (7, 2, 9) :: (7, 1, 8) :: (0, 0, 1) :: (1, 4, 6) :: (1, 3, 5) :: (1, 2, 4) :: (1, 1, 3) :: (1, 0, 2) :: []
def iE2 : List (Int × Int × Int) := (141, 1, -4) :: (139, 1, -4) :: (137, 1, -4) :: (135, 1, -4) :: (130, 0, -1) :: (129, 0, -1) :: (118, 0, -1) :: (117, 0, -1) :: (106, 0, -1) :: (105, 0, -1) :: (94, 0, -1) :: (93, 0, -1) :: (82, 0, -1) :: (81, 0, -1) :: (70, 0, -1) :: (69, 0, -1) :: (50, 5, -1) :: (43, 4, -1) :: (36, 0, -4) :: (36, 1, -4) :: (36, 2, -4) :: (36, 3, -4) :: (36, 4, -4) :: (36, 5, -4) :: (36, 6, -4) :: (36, 7, -4) :: (36, 8, -4) :: (20, 0, -4) :: (20, 1, -4) :: (20, 2, -4) :: (20, 3, -4) :: (20, 4, -4) :: (20, 5, -4) :: (20, 6, -4) :: (20, 7, -4) :: (20, 8, -4) :: (10, 0, -4) :: (10, 1, -4) :: (10, 2, -4) :: (10, 3, -4) :: (10, 4, -4) :: (10, 5, -4) :: (10, 6, -4) :: (10, 7, -4) :: (10, 8, -4) :: []
theorem frs_dec (l : List (Int × Int × Int)) (n : Nat) (h : l.all (fun e => decide (e.1 < (n : Int))) = true) : frs n l := fun e he => of_decide_eq_true (List.all_eq_true.mp h e he)
def iL1 : List (Int × Int × Int) := (143, 58, 180) :: (143, 57, 179) :: (143, 56, 178) :: (143, 55, 177) :: (143, 52, 176) :: (143, 51, 175) :: (143, 50, 174) :: (143, 49, 173) :: (143, 48, 172) :: (143, 47, 171) :: (143, 42, 170) :: (143, 41, 169) :: (143, 39, 168) :: (143, 38, 167) :: (143, 37, 166) :: (143, 34, 165) :: (143, 33, 164) :: (143, 32, 163) :: (143, 31, 162) :: (143, 30, 161) :: (143, 29, 160) :: (143, 28, 159) :: (143, 25, 158) :: (143, 24, 157) :: (143, 23, 156) :: (143, 22, 155) :: (143, 21, 154) :: (143, 20, 153) :: (143, 19, 152) :: (143, 18, 151) :: (143, 17, 150) :: (143, 7, 149) :: (143, 6, 148) :: (143, 5, 147) :: (143, 3, 146) :: (143, 2, 145) :: (143, 1, 144) :: (60, 3, 141) :: (141, 0, 142) :: (60, 2, 139) :: (139, 0, 140) :: (60, 1, 137) :: (137, 0, 138) :: (60, 0, 135) :: (135, 0, 136) :: (59, 5, 123) :: (131, 2, 134) :: (131, 1, 133) :: (131, 0, 132) :: (123, 7, 131) :: (123, 6, 130) :: (123, 5, 129) :: (123, 4, 128) :: (123, 3, 127) :: (123, 2, 126) :: (123, 1, 125) :: (123, 0, 124) :: (59, 4, 111) :: (119, 2, 122) :: (119, 1, 121) :: (119, 0, 120) :: (111, 7, 119) :: (111, 6, 118) :: (111, 5, 117) :: (111, 4, 116) :: (111, 3, 115) :: (111, 2, 114) :: (111, 1, 113) :: (111, 0, 112) :: (59, 3, 99) :: (107, 2, 110) :: (107, 1, 109) :: (107, 0, 108) :: (99, 7, 107) :: (99, 6, 106) :: (99, 5, 105) :: (99, 4, 104) :: (99, 3, 103) :: (99, 2, 102) :: (99, 1, 101) :: (99, 0, 100) :: (59, 2, 87) :: (95, 2, 98) :: (95, 1, 97) :: (95, 0, 96) :: (87, 7, 95) :: (87, 6, 94) :: (87, 5, 93) :: (87, 4, 92) :: (87, 3, 91) :: (87, 2, 90) :: (87, 1, 89) :: (87, 0, 88) :: (59, 1, 75) :: (83, 2, 86) :: (83, 1, 85) :: (83, 0, 84) :: (75, 7, 83) :: (75, 6, 82) :: (75, 5, 81) :: (75, 4, 80) :: (75, 3, 79) :: (75, 2, 78) :: (75, 1, 77) :: (75, 0, 76) :: (59, 0, 63) :: (71, 2, 74) :: (71, 1, 73) :: (71, 0, 72) :: (63, 7, 71) :: (63, 6, 70) :: (63, 5, 69) :: (63, 4, 68) :: (63, 3, 67) :: (63, 2, 66) :: (63, 1, 65) :: (63, 0, 64) :: (0, 11, 62) :: (0, 10, 61) :: (0, 9, 60) :: (0, 8, 59) :: (0, 7, 57) :: (57, 3, 58) :: (0, 6, 50) :: (50, 2, 1) :: (50, 4, 56) :: (50, 3, 52) :: (52, 2, 55) :: (52, 1, 54) :: (52, 0, 53) :: (50, 0, 51) :: (0, 5, 43) :: (43, 3, 49) :: (43, 2, 45) :: (45, 2, 48) :: (45, 1, 47) :: (45, 0, 46) :: (43, 0, 44) :: (0, 4, 33) :: (33, 0, 27) :: (33, 9, 42) :: (33, 8, 41) :: (33, 7, 40) :: (33, 6, 39) :: (33, 5, 38) :: (33, 4, 37) :: (33, 3, 36) :: (33, 2, 35) :: (33, 1, 34) :: (0, 3, 27) :: (27, 4, 32) :: (27, 3, 31) :: (27, 2, 30) :: (27, 1, 29) :: (27, 0, 28) :: (0, 2, 17) :: (17, 0, 1) :: (17, 9, 26) :: (17, 8, 25) :: (17, 7, 24) :: (17, 6, 23) :: (17, 5, 22) :: (17, 4, 21) :: (17, 3, 20) :: (17, 2, 19) :: (17, 1, 18) :: (0, 1, 7) :: (7, 0, 1) :: (7, 9, 16) :: (7, 8, 15) :: (7, 7, 14) :: (7, 6, 13) :: (7, 5, 12) :: (7, 4, 11) :: (7, 3, 10) :: (7, 2, 9) :: (7, 1, 8) :: (0, 0, 1) :: (1, 4, 6) :: (1, 3, 5) :: (1, 2, 4) :: (1, 1, 3) :: (1, 0, 2) :: []
def iL2 : List (Int × Int × Int) := (178, 3, -4) :: (178, 2, -4) :: (178, 1, -4) :: (178, 0, -4) :: (158, 37, 112) :: (158, 36, 111) :: (158, 35, 114) :: (158, 34, 100) :: (158, 33, 100) :: (158, 32, 110) :: (158, 31, 97) :: (158, 30, 102) :: (158, 29, 105) :: (158, 28, 121) :: (158, 27, 98) :: (158, 26, 114) :: (158, 25, 101) :: (158, 24, 98) :: (158, 23, 109) :: (158, 22, 117) :: (158, 21, 110) :: (158, 20, 100) :: (158, 19, 105) :: (158, 18, 97) :: (158, 17, 112) :: (158, 16, 107) :: (158, 15, 110) :: (158, 14, 97) :: (158, 13, 114) :: (158, 12, 109) :: (158, 11, 111) :: (158, 10, 111) :: (158, 9, 114) :: (158, 8, 116) :: (158, 7, 102) :: (158, 6, 101) :: (158, 5, 108) :: (158, 4, 104) :: (158, 3, 116) :: (158, 2, 114) :: (158, 1, 111) :: (158, 0, 119) :: (157, 10, 38) :: (157, 9, 34) :: (157, 8, 31) :: (157, 7, 29) :: (157, 6, 27) :: (157, 5, 21) :: (157, 4, 17) :: (157, 3, 13) :: (157, 2, 9) :: (157, 1, 5) :: (157, 0, 0) :: (141, 1, -4) :: (139, 1, -4) :: (137, 1, -4) :: (135, 1, -4) :: (130, 0, -1) :: (129, 0, -1) :: (118, 0, -1) :: (117, 0, -1) :: (106, 0, -1) :: (105, 0, -1) :: (94, 0, -1) :: (93, 0, -1) :: (82, 0, -1) :: (81, 0, -1) :: (70, 0, -1) :: (69, 0, -1) :: (50, 5, -1) :: (43, 4, -1) :: (36, 0, -4) :: (36, 1, -4) :: (36, 2, -4) :: (36, 3, -4) :: (36, 4, -4) :: (36, 5, -4) :: (36, 6, -4) :: (36, 7, -4) :: (36, 8, -4) :: (20, 0, -4) :: (20, 1, -4) :: (20, 2, -4) :: (20, 3, -4) :: (20, 4, -4) :: (20, 5, -4) :: (20, 6, -4) :: (20, 7, -4) :: (20, 8, -4) :: (10, 0, -4) :: (10, 1, -4) :: (10, 2, -4) :: (10, 3, -4) :: (10, 4, -4) :: (10, 5, -4) :: (10, 6, -4) :: (10, 7, -4) :: (10, 8, -4) :: []
