-- more rows: numbers in their range, compares of longs, truth values, fills and copies
theorem w32_iand (a b : Int) : w32 (iand a b) = iand a b := by unfold w32 iand; rw [Int32.ofInt_toInt]
theorem w32_ior (a b : Int) : w32 (ior a b) = ior a b := by unfold w32 ior; rw [Int32.ofInt_toInt]
theorem w32_ishl (a b : Int) : w32 (ishl a b) = ishl a b := by unfold w32 ishl; rw [Int32.ofInt_toInt]
theorem w32_ishr (a b : Int) : w32 (ishr a b) = ishr a b := by unfold w32 ishr; rw [Int32.ofInt_toInt]
theorem w32_idv (a b : Int) : w32 (idv a b) = idv a b := by unfold w32 idv; rw [Int32.ofInt_toInt]
theorem w32_irm (a b : Int) : w32 (irm a b) = irm a b := by unfold w32 irm; rw [Int32.ofInt_toInt]
theorem w64_land_ (a b : Int) : w64 (land_ a b) = land_ a b := by unfold w64 land_; rw [Int64.ofInt_toInt]
theorem w64_lor_ (a b : Int) : w64 (lor_ a b) = lor_ a b := by unfold w64 lor_; rw [Int64.ofInt_toInt]
theorem w64_ldv (a b : Int) : w64 (ldv a b) = ldv a b := by unfold w64 ldv; rw [Int64.ofInt_toInt]
theorem w64_lrm (a b : Int) : w64 (lrm a b) = lrm a b := by unfold w64 lrm; rw [Int64.ofInt_toInt]
theorem w64_lsl (a b : Int) : w64 (lsl a b) = lsl a b := by unfold w64 lsl; rw [Int64.ofInt_toInt]
theorem w64_lsr (a b : Int) : w64 (lsr a b) = lsr a b := by unfold w64 lsr; rw [Int64.ofInt_toInt]
theorem w64_lur (a b : Int) : w64 (lur a b) = lur a b := by unfold w64 lur; rw [Int64.ofInt_toInt]
theorem w32_l2i (a : Int) : w32 (l2i_ a) = l2i_ a := by unfold w32 l2i_; rw [Int32.ofInt_toInt]
theorem w32_i2b (a : Int) : w32 (i2b_ a) = i2b_ a := by unfold w32 i2b_; rw [Int32.ofInt_toInt]
theorem w32_i2s (a : Int) : w32 (i2s_ a) = i2s_ a := by unfold w32 i2s_; rw [Int32.ofInt_toInt]
theorem w32_i2c (a : Int) : w32 (i2c_ a) = i2c_ a := by unfold w32 i2c_; rw [Int32.ofInt_toInt]
theorem w64_of {a : Int} (h : w32 a = a) : w64 a = a := by
  have := w32_rng a
  rw [h] at this
  exact w64_id (by omega)
theorem nz0 : narrow .boolean (vi 0) = vi 0 := by decide
theorem nz1 : narrow .boolean (vi 1) = vi 1 := by decide
theorem fz0 : fits .boolean (vi 0) = true := by decide
theorem fz1 : fits .boolean (vi 1) = true := by decide
section MROWS
variable {X : MX} {G : GG} {nL : Nat} {T : Type} {Qz : T → State → Prop} {cn : Nat × Nat} {o o1 o2 : Option T} {w : WD} {σ : St} {pc : Nat} {lv : List (Nat × Value)} {st : List Value} {cc : ByteArray} {own : String} {a b : Int} {k : Int}
theorem lcmp_w (a b : Int) : w32 (lcmp_ a b) = lcmp_ a b := by
  unfold lcmp_
  repeat' split
  all_goals exact w32_id (by decide)
theorem lcmq_eq (a b : Int) : (lcmp_ a b = 0) ↔ (w64 a = w64 b) := by
  unfold lcmp_
  repeat' split
  all_goals omega
theorem z_lif_eq (C : CX X G nL cc own) (hd0 : decode cc pc = .ok (.lcmp, 1)) (p1 : Nat) (hp1 : pc + 1 = p1) {off : Int} (hd : decode cc p1 = .ok (.ifCond .eq off, 3)) (tgt : Nat) (ht : (p1 : Int) + off = (tgt : Int)) (pn : Nat) (hn : p1 + 3 = pn) {a' b' : Int} (ha : w64 a = a') (hb : w64 b = b') (n1 : a' = b' → ZZ X G nL Qz cn o1 w tgt lv st) (n2 : ¬ a' = b' → ZZ X G nL Qz cn o2 w pn lv st) : ZZ X G nL Qz cn (if a' = b' then o1 else o2) w pc lv (vl b :: vl a :: st) := by
  subst ha; subst hb
  refine z_lcmp C hd0 p1 hp1 ?_
  have hi : (if w64 a = w64 b then o1 else o2) = (if lcmp_ a b = 0 then o1 else o2) := by
    by_cases h : w64 a = w64 b
    · rw [if_pos h, if_pos ((lcmq_eq a b).mpr h)]
    · rw [if_neg h, if_neg (fun q => h ((lcmq_eq a b).mp q))]
  rw [hi]
  exact z_if_eq C hd tgt ht pn hn (lcmp_w a b) (fun h => n1 ((lcmq_eq a b).mp h)) (fun h => n2 (fun q => h ((lcmq_eq a b).mpr q)))
theorem lcmq_ne (a b : Int) : (lcmp_ a b ≠ 0) ↔ (w64 a ≠ w64 b) := by
  unfold lcmp_
  repeat' split
  all_goals omega
theorem z_lif_ne (C : CX X G nL cc own) (hd0 : decode cc pc = .ok (.lcmp, 1)) (p1 : Nat) (hp1 : pc + 1 = p1) {off : Int} (hd : decode cc p1 = .ok (.ifCond .ne off, 3)) (tgt : Nat) (ht : (p1 : Int) + off = (tgt : Int)) (pn : Nat) (hn : p1 + 3 = pn) {a' b' : Int} (ha : w64 a = a') (hb : w64 b = b') (n1 : a' ≠ b' → ZZ X G nL Qz cn o1 w tgt lv st) (n2 : ¬ a' ≠ b' → ZZ X G nL Qz cn o2 w pn lv st) : ZZ X G nL Qz cn (if a' ≠ b' then o1 else o2) w pc lv (vl b :: vl a :: st) := by
  subst ha; subst hb
  refine z_lcmp C hd0 p1 hp1 ?_
  have hi : (if w64 a ≠ w64 b then o1 else o2) = (if lcmp_ a b ≠ 0 then o1 else o2) := by
    by_cases h : w64 a ≠ w64 b
    · rw [if_pos h, if_pos ((lcmq_ne a b).mpr h)]
    · rw [if_neg h, if_neg (fun q => h ((lcmq_ne a b).mp q))]
  rw [hi]
  exact z_if_ne C hd tgt ht pn hn (lcmp_w a b) (fun h => n1 ((lcmq_ne a b).mp h)) (fun h => n2 (fun q => h ((lcmq_ne a b).mpr q)))
theorem lcmq_lt (a b : Int) : (lcmp_ a b < 0) ↔ (w64 a < w64 b) := by
  unfold lcmp_
  repeat' split
  all_goals omega
theorem z_lif_lt (C : CX X G nL cc own) (hd0 : decode cc pc = .ok (.lcmp, 1)) (p1 : Nat) (hp1 : pc + 1 = p1) {off : Int} (hd : decode cc p1 = .ok (.ifCond .lt off, 3)) (tgt : Nat) (ht : (p1 : Int) + off = (tgt : Int)) (pn : Nat) (hn : p1 + 3 = pn) {a' b' : Int} (ha : w64 a = a') (hb : w64 b = b') (n1 : a' < b' → ZZ X G nL Qz cn o1 w tgt lv st) (n2 : ¬ a' < b' → ZZ X G nL Qz cn o2 w pn lv st) : ZZ X G nL Qz cn (if a' < b' then o1 else o2) w pc lv (vl b :: vl a :: st) := by
  subst ha; subst hb
  refine z_lcmp C hd0 p1 hp1 ?_
  have hi : (if w64 a < w64 b then o1 else o2) = (if lcmp_ a b < 0 then o1 else o2) := by
    by_cases h : w64 a < w64 b
    · rw [if_pos h, if_pos ((lcmq_lt a b).mpr h)]
    · rw [if_neg h, if_neg (fun q => h ((lcmq_lt a b).mp q))]
  rw [hi]
  exact z_if_lt C hd tgt ht pn hn (lcmp_w a b) (fun h => n1 ((lcmq_lt a b).mp h)) (fun h => n2 (fun q => h ((lcmq_lt a b).mpr q)))
theorem lcmq_ge (a b : Int) : (lcmp_ a b ≥ 0) ↔ (w64 a ≥ w64 b) := by
  unfold lcmp_
  repeat' split
  all_goals omega
theorem z_lif_ge (C : CX X G nL cc own) (hd0 : decode cc pc = .ok (.lcmp, 1)) (p1 : Nat) (hp1 : pc + 1 = p1) {off : Int} (hd : decode cc p1 = .ok (.ifCond .ge off, 3)) (tgt : Nat) (ht : (p1 : Int) + off = (tgt : Int)) (pn : Nat) (hn : p1 + 3 = pn) {a' b' : Int} (ha : w64 a = a') (hb : w64 b = b') (n1 : a' ≥ b' → ZZ X G nL Qz cn o1 w tgt lv st) (n2 : ¬ a' ≥ b' → ZZ X G nL Qz cn o2 w pn lv st) : ZZ X G nL Qz cn (if a' ≥ b' then o1 else o2) w pc lv (vl b :: vl a :: st) := by
  subst ha; subst hb
  refine z_lcmp C hd0 p1 hp1 ?_
  have hi : (if w64 a ≥ w64 b then o1 else o2) = (if lcmp_ a b ≥ 0 then o1 else o2) := by
    by_cases h : w64 a ≥ w64 b
    · rw [if_pos h, if_pos ((lcmq_ge a b).mpr h)]
    · rw [if_neg h, if_neg (fun q => h ((lcmq_ge a b).mp q))]
  rw [hi]
  exact z_if_ge C hd tgt ht pn hn (lcmp_w a b) (fun h => n1 ((lcmq_ge a b).mp h)) (fun h => n2 (fun q => h ((lcmq_ge a b).mpr q)))
theorem lcmq_gt (a b : Int) : (lcmp_ a b > 0) ↔ (w64 a > w64 b) := by
  unfold lcmp_
  repeat' split
  all_goals omega
theorem z_lif_gt (C : CX X G nL cc own) (hd0 : decode cc pc = .ok (.lcmp, 1)) (p1 : Nat) (hp1 : pc + 1 = p1) {off : Int} (hd : decode cc p1 = .ok (.ifCond .gt off, 3)) (tgt : Nat) (ht : (p1 : Int) + off = (tgt : Int)) (pn : Nat) (hn : p1 + 3 = pn) {a' b' : Int} (ha : w64 a = a') (hb : w64 b = b') (n1 : a' > b' → ZZ X G nL Qz cn o1 w tgt lv st) (n2 : ¬ a' > b' → ZZ X G nL Qz cn o2 w pn lv st) : ZZ X G nL Qz cn (if a' > b' then o1 else o2) w pc lv (vl b :: vl a :: st) := by
  subst ha; subst hb
  refine z_lcmp C hd0 p1 hp1 ?_
  have hi : (if w64 a > w64 b then o1 else o2) = (if lcmp_ a b > 0 then o1 else o2) := by
    by_cases h : w64 a > w64 b
    · rw [if_pos h, if_pos ((lcmq_gt a b).mpr h)]
    · rw [if_neg h, if_neg (fun q => h ((lcmq_gt a b).mp q))]
  rw [hi]
  exact z_if_gt C hd tgt ht pn hn (lcmp_w a b) (fun h => n1 ((lcmq_gt a b).mp h)) (fun h => n2 (fun q => h ((lcmq_gt a b).mpr q)))
theorem lcmq_le (a b : Int) : (lcmp_ a b ≤ 0) ↔ (w64 a ≤ w64 b) := by
  unfold lcmp_
  repeat' split
  all_goals omega
theorem z_lif_le (C : CX X G nL cc own) (hd0 : decode cc pc = .ok (.lcmp, 1)) (p1 : Nat) (hp1 : pc + 1 = p1) {off : Int} (hd : decode cc p1 = .ok (.ifCond .le off, 3)) (tgt : Nat) (ht : (p1 : Int) + off = (tgt : Int)) (pn : Nat) (hn : p1 + 3 = pn) {a' b' : Int} (ha : w64 a = a') (hb : w64 b = b') (n1 : a' ≤ b' → ZZ X G nL Qz cn o1 w tgt lv st) (n2 : ¬ a' ≤ b' → ZZ X G nL Qz cn o2 w pn lv st) : ZZ X G nL Qz cn (if a' ≤ b' then o1 else o2) w pc lv (vl b :: vl a :: st) := by
  subst ha; subst hb
  refine z_lcmp C hd0 p1 hp1 ?_
  have hi : (if w64 a ≤ w64 b then o1 else o2) = (if lcmp_ a b ≤ 0 then o1 else o2) := by
    by_cases h : w64 a ≤ w64 b
    · rw [if_pos h, if_pos ((lcmq_le a b).mpr h)]
    · rw [if_neg h, if_neg (fun q => h ((lcmq_le a b).mp q))]
  rw [hi]
  exact z_if_le C hd tgt ht pn hn (lcmp_w a b) (fun h => n1 ((lcmq_le a b).mp h)) (fun h => n2 (fun q => h ((lcmq_le a b).mpr q)))
theorem z_zretb {vz : T → Option Value} {wz : T → WD} (C : CX X G nL cc own) (R : RT X (some .boolean)) {zv : T} (hz : vz zv = some (vi (b1 a))) (hw : wz zv = w) (hd : decode cc pc = .ok (.ireturn, 1)) : ZZ X G nL (QM X G vz wz cn) cn (some zv) w pc lv [vi a] := by
  intro z h0 H locs ls hH hlo hlv
  cases h0
  intro T hT Y
  have hlocks : (mH X).locks = false := R.2
  have hexec := C.1
  have hb := C.2.1
  have hr := R.1
  have hv1 : vi (b1 a) = Value.int (i32 a &&& 1) := by unfold vi b1; rw [i32_toInt]
  obtain ⟨fs, hret, hrun, hended, hW, hframe⟩ := Y.leave (v := some (.int (i32 a &&& 1))) (hlocks := hlocks) (fun h => by rw [hr] at h; cases h)
  have hmeth' : T.vm.method? (mM X) = some (mH X) := Y.method'
  refine ⟨T.setFrames fs, ?_, .returned (some (.int (i32 a &&& 1))), hrun, hended, ⟨by rw [hz, hv1], by rw [hw]; rw [← hT] at hH; exact hH⟩, locs, ⟨⟨_, rfl⟩, hW, hframe⟩, hlo⟩
  jvm_step Y.here [Y.here.top, hexec, hb, hd, hmeth', hr, narrow, vi]
  (try refine ⟨rfl, ?_⟩); (try refine ⟨rfl, ?_⟩)
  first | (intro acts; rw [hret _ acts rfl rfl rfl]) | rw [hret _ _ rfl rfl rfl]
  exact Steps.refl _
end MROWS
theorem clX10_388 : Cond.constantLong RX10 388 (100) ∈ UW := uw_in tb_858 rfl
theorem clX10_247 : Cond.constantLong RX10 247 (-1) ∈ UW := uw_in tb_872 rfl
theorem clX10_249 : Cond.constantLong RX10 249 (-2) ∈ UW := uw_in tb_873 rfl
theorem clX11_133 : Cond.constantLong RX11 133 (3) ∈ UW := uw_in tb_1263 rfl
theorem clX11_135 : Cond.constantLong RX11 135 (99) ∈ UW := uw_in tb_1267 rfl
theorem clX11_137 : Cond.constantLong RX11 137 (999) ∈ UW := uw_in tb_1268 rfl
theorem clX11_153 : Cond.constantLong RX11 153 (9) ∈ UW := uw_in tb_1297 rfl
theorem clX11_155 : Cond.constantLong RX11 155 (6) ∈ UW := uw_in tb_1306 rfl
theorem clX11_185 : Cond.constantLong RX11 185 (97) ∈ UW := uw_in tb_1335 rfl
theorem clX11_187 : Cond.constantLong RX11 187 (122) ∈ UW := uw_in tb_1336 rfl
theorem clX11_197 : Cond.constantLong RX11 197 (48) ∈ UW := uw_in tb_1345 rfl
theorem clX11_199 : Cond.constantLong RX11 199 (57) ∈ UW := uw_in tb_1346 rfl
theorem clX11_232 : Cond.constantLong RX11 232 (10) ∈ UW := uw_in tb_1379 rfl
theorem clX11_316 : Cond.constantLong RX11 316 (100) ∈ UW := uw_in tb_1485 rfl
theorem clX11_340 : Cond.constantLong RX11 340 (-1) ∈ UW := uw_in tb_1494 rfl
theorem clX11_342 : Cond.constantLong RX11 342 (-2) ∈ UW := uw_in tb_1495 rfl
theorem clX11_382 : Cond.constantLong RX11 382 (4) ∈ UW := uw_in tb_1591 rfl
theorem clX11_384 : Cond.constantLong RX11 384 (2) ∈ UW := uw_in tb_1596 rfl
theorem clL_40 : Cond.constantLong RL 40 (4294967295) ∈ UW := uw_in tb_1609 rfl
