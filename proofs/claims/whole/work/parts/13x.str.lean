-- THE STRING CONSTANTS: charAt and indexOf of two texts that lie below the world
theorem sf_J0_38 : Cond.fieldLink RJ0 38 "java/lang/String" "COMPACT_STRINGS" "Z" ∈ UW := uw_in tb_554 rfl
theorem sf_J0_1053 : Cond.fieldLink RJ0 1053 "jdk/internal/util/Preconditions" "SIOOBE_FORMATTER" "Ljava/util/function/BiFunction;" ∈ UW := uw_in tb_562 rfl
theorem sf_J0_15 : Cond.fieldLink RJ0 15 "java/lang/String" "coder" "B" ∈ UW := uw_in tb_1610 rfl
theorem sf_J0_9 : Cond.fieldLink RJ0 9 "java/lang/String" "value" "[B" ∈ UW := uw_in tb_1611 rfl
theorem soJ0_length_8abf5 : Cond.instanceMethod yJ0_length_8abf5 ∈ UW ∧ Cond.selects "java/lang/String" yJ0_length_8abf5 yJ0_length_8abf5 ∈ UW := ⟨uw_in tb_611 rfl, uw_in tb_612 rfl⟩
theorem soJ0_charAt_5068e : Cond.instanceMethod yJ0_charAt_5068e ∈ UW ∧ Cond.selects "java/lang/String" yJ0_charAt_5068e yJ0_charAt_5068e ∈ UW := ⟨uw_in tb_547 rfl, uw_in tb_548 rfl⟩
theorem soJ0_indexOf_0f7a4 : Cond.instanceMethod yJ0_indexOf_0f7a4 ∈ UW ∧ Cond.selects "java/lang/String" yJ0_indexOf_0f7a4 yJ0_indexOf_0f7a4 ∈ UW := ⟨uw_in tb_603 rfl, uw_in tb_604 rfl⟩
theorem soJ0_indexOf_7cf53 : Cond.instanceMethod yJ0_indexOf_7cf53 ∈ UW ∧ Cond.selects "java/lang/String" yJ0_indexOf_7cf53 yJ0_indexOf_7cf53 ∈ UW := ⟨uw_in tb_607 rfl, uw_in tb_608 rfl⟩
theorem soJ0_coder_7d493 : Cond.instanceMethod yJ0_coder_7d493 ∈ UW ∧ Cond.selects "java/lang/String" yJ0_coder_7d493 yJ0_coder_7d493 ∈ UW := ⟨uw_in tb_615 rfl, uw_in tb_616 rfl⟩
theorem soJ0_isLatin1_aae02 : Cond.instanceMethod yJ0_isLatin1_aae02 ∈ UW ∧ Cond.selects "java/lang/String" yJ0_isLatin1_aae02 yJ0_isLatin1_aae02 ∈ UW := ⟨uw_in tb_551 rfl, uw_in tb_552 rfl⟩
/-- the k-th char of text j -/
def sC (j : Nat) (x : Int) : Int := ((sByt.getD j []).getD x.toNat 0).toInt
section SROWS
variable {X : MX} {G : GG} {nL : Nat} {T : Type} {Qz : T → State → Prop} {cn : Nat × Nat} {o : Option T} {w : WD} {pc : Nat} {lv : List (Nat × Value)} {st : List Value} {cc : ByteArray} {own : String} {a : Int} {x : Nat}
theorem hold_below {H0 : Heap} (hH : Hold G w H0) : ∀ a : Nat, a < G.1.size → ¬ gb G ≤ a → H0[a]? = G.1[a]? := fun a h1 _ => hH.2.1 a h1
theorem s_aload_n (C : CX X G nL cc own) {q : Fin 4} (i : Nat) (hi : (q : Nat) = i) (p : Nat) (hp : lv[p]? = some (i, .ref x)) (hd : decode cc pc = .ok (.aload_n q, 1)) (pn : Nat) (hn : pc + 1 = pn) (n : ZZ X G nL Qz cn o w pn lv (.ref x :: st)) : ZZ X G nL Qz cn o w pc lv st := by
  subst hn
  intro z hz H locs ls hH hl hv
  exact lv_aload_n C.1 C.2.1 hd hi (lv_at hv p hp) (n z hz H locs ls hH hl hv)
theorem s_gets (C : CX X G nL cc own) {CN nm de : String} {v : Value} {idx : Nat} (hZ : va_Z CN nm de v (fun q => gb G ≤ q) (mS X) G.1) (hl : Cond.fieldLink own idx CN nm de ∈ UW) (hd : decode cc pc = .ok (.getstatic idx, 3)) (pn : Nat) (hn : pc + 3 = pn) (n : ZZ X G nL Qz cn o w pn lv (v :: st)) : ZZ X G nL Qz cn o w pc lv st := by
  subst hn
  intro z hz H locs ls hH hlo hv
  obtain ⟨cf, kf, fi, f, a, cell, h1, h2, h3, h4, h5, h6, h7, h8⟩ := hZ.kept (hold_below hH)
  exact W.gets C.1 C.2.1 C.2.2.2.1 (C.2.2.2.2.1 _ hl) h1 h2 h3 h4 h5 (fun e => by rw [e] at h6; cases h6) h7 rfl hd (n z hz H locs ls hH hlo hv)
theorem s_getf (C : CX X G nL cc own) {CN nm de : String} {v : Value} {idx : Nat} (hE : va_OF CN nm de v x (fun q => gb G ≤ q) (mS X) G.1) (hl : Cond.fieldLink own idx CN nm de ∈ UW) (hd : decode cc pc = .ok (.getfield idx, 3)) (pn : Nat) (hn : pc + 3 = pn) (n : ZZ X G nL Qz cn o w pn lv (v :: st)) : ZZ X G nL Qz cn o w pc lv (.ref x :: st) := by
  subst hn
  intro z hz H locs ls hH hlo hv
  obtain ⟨cf, k, fi, f, cell, h1, h2, h3, h4, h5, h6⟩ := hE.kept (hold_below hH)
  exact W.getf C.1 C.2.1 C.2.2.2.1 (C.2.2.2.2.1 _ hl) h1 h2 h3 h4 (v := v) h5 rfl rfl hd (n z hz H locs ls hH hlo hv)
theorem s_blen (C : CX X G nL cc own) {N : Nat} {f : Nat → Value} (hT : va_T .byte x N f (fun q => gb G ≤ q) (mS X) G.1) (hd : decode cc pc = .ok (.arraylength, 1)) (pn : Nat) (hn : pc + 1 = pn) (n : ZZ X G nL Qz cn o w pn lv (vi N :: st)) : ZZ X G nL Qz cn o w pc lv (.ref x :: st) := by
  subst hn
  intro z hz H locs ls hH hlo hv
  obtain ⟨cell, h1, h2, h3, h4, h5, h6, h7⟩ := hT.kept (hold_below hH)
  exact W.alen C.1 C.2.1 h1 h2 (n := i32 N) h5 rfl rfl hd (n z hz H locs ls hH hlo hv)
theorem s_bald (C : CX X G nL cc own) {N : Nat} {N' : Int} {f : Nat → Value} (hT : va_T .byte x N f (fun q => gb G ≤ q) (mS X) G.1) (hN : (N : Int) = N') (hd : decode cc pc = .ok (.baload, 1)) (pn : Nat) (hn : pc + 1 = pn) {a' : Int} (ha : w32 a = a') (n : 0 ≤ a' ∧ a' < N' → ZZ X G nL Qz cn o w pn lv (f a'.toNat :: st)) : ZZ X G nL Qz cn (gd (0 ≤ a' ∧ a' < N') o) w pc lv (vi a :: .ref x :: st) := by
  subst hn; subst ha; subst hN
  refine z_gd (fun hb => ?_)
  intro z hz H locs ls hH hlo hv
  obtain ⟨cell, h1, h2, h3, h4, h5, h6, h7⟩ := hT.kept (hold_below hH)
  obtain ⟨i1, i2, i3⟩ := idx_in hb
  have e : (i32 a).toNatClampNeg = (w32 a).toNat := rfl
  exact W.bald (v := f (w32 a).toNat) C.1 C.2.1 h1 h2 h3 (fun q => by rcases q with q | q; exact i1 (Or.inl q); omega) (by rw [h6 _ i2, e]) rfl rfl hd (n hb z hz H locs ls hH hlo hv)
theorem s_ldc (C : CX X G nL cc own) {tx : String} {idx q : Nat} (hZ : vk_R own idx tx q (mS X)) (hd : decode cc pc = .ok (.ldc idx, 2)) (pn : Nat) (hn : pc + 2 = pn) (n : ZZ X G nL Qz cn o w pn lv (.ref q :: st)) : ZZ X G nL Qz cn o w pc lv st := by
  subst hn
  intro z hz H locs ls hH hlo hv
  exact va_ldcS C.1 C.2.1 C.2.2.2.1 hZ hd (n z hz H locs ls hH hlo hv)
theorem s_ret {vz : T → Option Value} {wz : T → WD} (C : CX X G nL cc own) {ty : FieldType} (R : RT X (some ty)) (hn : narrow ty (vi a) = vi a) {zv : T} (hz : vz zv = some (vi a)) (hw : wz zv = w) (hd : decode cc pc = .ok (.ireturn, 1)) : ZZ X G nL (QM X G vz wz cn) cn (some zv) w pc lv [vi a] := by
  intro z h0 H locs ls hH hlo hlv
  cases h0
  exact W.zret (hlocks := R.2) C.1 C.2.1 R.1 hn (fun t ht hW => ⟨by rw [hz]; rfl, by rw [ht, hw]; exact hH⟩) hlo hd
/-- a call on a String that lies below the world -/
theorem s_callV {σ : St} (C : CX X G nL cc own) {rc rm : Room} (hR : mR X = rc) {q : Option Int} {f : Int → Option T} {y : MethodName} {bytes : ByteArray} {maxL : Nat} {ret : Option FieldType} {As : List Value} {idx m : Nat} {stk : List Value}
    (t : Ctr (mL X) G y bytes maxL ret rm (.ref x :: As) (w0 σ) vzI (wzR σ) q) (mw : MW y bytes maxL ret m) (hy : y.cls = "java/lang/String") (mv : Cond.instanceMethod y ∈ UW ∧ Cond.selects "java/lang/String" y y ∈ UW) (hl : Cond.methodLink own idx y ∈ UW) (hO : va_O "java/lang/String" x (fun q => gb G ≤ q) (mS X) G.1) (hAs : As.length = m) (hst : stk = As.reverse ++ .ref x :: st) (hcat : (st.map fun v => v.category).sum ≤ 8)
    (hroom : rmOK rm rc maxL) (hd : decode cc pc = .ok (.invokevirtual idx, 3)) (pn : Nat) (hn : pc + 3 = pn)
    (n : ∀ r, q = some r → ZZ X G nL Qz (0, 0) (f r) (w0 σ) pn lv (vi r :: st)) : ZZ X G nL Qz (0, 0) (q.bind f) (w0 σ) pc lv stk := by
  subst hn; subst hR
  obtain ⟨r1, r2, r3, r4⟩ := hroom
  refine z_run (mc := rm.cells) (ms := rm.slots) (vz := vzI) (wz := wzR σ) (av := .ref x :: As) (fun r hq H locs ls hH hlv => ?_) (by rw [r1, r2]; exact n)
  have hts := C.2.2.2.2.1
  have cb : CallB (mR X) (mS X) (mA X) own idx y bytes maxL ret (.code y bytes maxL ret :: UW) rm rm.cells rm.slots m := callB_of m hts (uw_code mw.1) rfl rfl rfl (hts _ mw.2.1) (hts _ hl) mw.2.2 ⟨r3, r4⟩
  obtain ⟨cell, h1, h2, h3, -⟩ := hO.kept (hold_below hH)
  exact va_runV (C := "java/lang/String") (b := x) (As := As) (n := m) ⟨C.1, C.2.1, C.2.2.1, C.2.2.2.1, hts⟩ (t r hq) ⟨cb, hts _ mv.1, hts _ mv.2⟩ ⟨pcM_blind, ⟨cell, h1, h2, h3⟩, fun U hU hW => ⟨rfl, by rw [hU]; exact hH, KK.moved hW C.2.2.2.2.2⟩⟩ rfl hAs hlv.1 hst (by simpa [JFrame.monitorRoom] using hcat) hd (by rw [r1, r2]; exact ⟨Nat.zero_le _, Nat.zero_le _⟩)
end SROWS
def rmJ3_checkIndex_8e157 : Room := { frames := 1, cells := 0, slots := 0, locals := 40 }
set_option maxRecDepth 100000 in
set_option maxHeartbeats 4000000 in
theorem tJ3_checkIndex_8e157 (l : Launch) (G : GG) (σ : St) (fm : Value) (hf : fm = .null ∨ ∃ a, fm = .ref a) (i n : Int) : Ctr l G yJ3_checkIndex_8e157 cJ3_checkIndex_8e157 3 (some .int) rmJ3_checkIndex_8e157 [vi i, vi n, fm] (w0 σ) vzI (wzR σ) (gd (0 ≤ w32 i ∧ w32 i < w32 n) (some i)) := by
  refine ctr_of (by decide) (by rcases hf with rfl | ⟨a, rfl⟩ <;> exact (Nat.le_of_ble_eq_true rfl)) mwJ3_checkIndex_8e157.1 (fun X hl hR C R hnm => ?_)
  subst hl
  refine z_gd (fun hb => ?_)
  refine z_lv (lv' := [(0, vi i), (1, vi n)]) [0, 1] (by rcases hf with rfl | ⟨a, rfl⟩ <;> rfl) ?_
  refine z_iload_n C 0 rfl 0 rfl dJ3_checkIndex_8e157_0 1 rfl ?_
  have e : (some i : Option Int) = if w32 i < 0 then none else if w32 i < w32 n then some i else none := by rw [if_neg (by omega), if_pos hb.2]
  rw [e]
  refine z_if_lt C dJ3_checkIndex_8e157_1 9 (by decide) 4 rfl rfl (fun _ => z_none) (fun _ => ?_)
  refine z_iload_n C 0 rfl 0 rfl dJ3_checkIndex_8e157_4 5 rfl ?_
  refine z_iload_n C 1 rfl 1 rfl dJ3_checkIndex_8e157_5 6 rfl ?_
  refine z_icmp_lt C dJ3_checkIndex_8e157_6 16 (by decide) 9 rfl rfl rfl (fun _ => ?_) (fun _ => z_none)
  refine z_iload_n C 0 rfl 0 rfl dJ3_checkIndex_8e157_16 17 rfl ?_
  exact z_iret C R rfl rfl dJ3_checkIndex_8e157_17
def rmJ0_checkIndex_df160 : Room := { frames := 2, cells := 0, slots := 0, locals := 80 }
set_option maxRecDepth 100000 in
set_option maxHeartbeats 4000000 in
theorem tJ0_checkIndex_df160 (l : Launch) (G : GG) (σ : St) (i n : Int) : Ctr l G yJ0_checkIndex_df160 cJ0_checkIndex_df160 2 none rmJ0_checkIndex_df160 [vi i, vi n] (w0 σ) vzV wzV (gd (0 ≤ w32 i ∧ w32 i < w32 n) (some σ)) := by
  refine ctr_of (by decide) (Nat.le_of_ble_eq_true rfl) mwJ0_checkIndex_df160.1 (fun X hl hR C R hnm => ?_)
  subst hl
  refine z_lv (lv' := [(0, vi i), (1, vi n)]) [0, 1] rfl ?_
  obtain ⟨fm, h1, h2, h3, h4, h5, h6⟩ := C.2.2.2.2.2.2.1
  have e : (gd (0 ≤ w32 i ∧ w32 i < w32 n) (some σ) : Option St) = (gd (0 ≤ w32 i ∧ w32 i < w32 n) (some i)).bind fun _ => some σ := by
    unfold gd; split <;> rfl
  rw [e]
  refine z_iload_n C 0 rfl 0 rfl dJ0_checkIndex_df160_0 1 rfl ?_
  refine z_iload_n C 1 rfl 1 rfl dJ0_checkIndex_df160_1 2 rfl ?_
  refine s_gets C h5 sf_J0_1053 dJ0_checkIndex_df160_2 5 rfl ?_
  refine y_callSI C hR (tJ3_checkIndex_8e157 (mL X) G σ fm h6 i n) ⟨mwJ3_checkIndex_8e157, msJ3_checkIndex_8e157, lkJ0_1059⟩ rfl rfl (Nat.le_of_ble_eq_true rfl) (by unfold rmOK; decide) dJ0_checkIndex_df160_5 8 rfl (fun r _ => ?_)
  refine z_pop C rfl dJ0_checkIndex_df160_8 9 rfl ?_
  exact z_vret C R rfl rfl dJ0_checkIndex_df160_9
theorem sLen_lt : ∀ j : Nat, j < 2 → sLen.getD j 0 < 100 := by decide
theorem sC_chk : ∀ j : Nat, j < 2 → ∀ x : Nat, x < sLen.getD j 0 → vi (i2c_ (iand ((sByt.getD j []).getD x 0).toInt 255)) = vi (sC j x) ∧ narrow .char (vi (sC j x)) = vi (sC j x) := by decide +kernel
theorem sC_can (j : Nat) (x : Int) : w32 (sC j x) = sC j x := by unfold sC w32; rw [Int32.ofInt_toInt]
def rmJ1_charAt_3b067 : Room := { frames := 3, cells := 0, slots := 0, locals := 120 }
set_option maxRecDepth 100000 in
set_option maxHeartbeats 4000000 in
theorem tJ1_charAt_3b067 (l : Launch) (G : GG) (σ : St) (adV : Nat) (j : Nat) (hj : j < 2) (i : Int) (hT : ∀ s : State, KK G s → va_T .byte adV (sLen.getD j 0) (fun q => .int ((sByt.getD j []).getD q 0)) (fun q => gb G ≤ q) s G.1) : Ctr l G yJ1_charAt_3b067 cJ1_charAt_3b067 2 (some .char) rmJ1_charAt_3b067 [.ref adV, vi i] (w0 σ) vzI (wzR σ) (gd (0 ≤ w32 i ∧ w32 i < (sLen.getD j 0 : Nat)) (some (sC j (w32 i)))) := by
  refine ctr_of (by decide) (Nat.le_of_ble_eq_true rfl) mwJ1_charAt_3b067.1 (fun X hl hR C R hnm => ?_)
  subst hl
  refine z_gd (fun hb => ?_)
  refine z_lv (lv' := [(0, .ref adV), (1, vi i)]) [0, 1] rfl ?_
  have hT := hT _ C.2.2.2.2.2
  have hL : sLen.getD j 0 < 100 := sLen_lt j hj
  have eL : w32 ((sLen.getD j 0 : Nat) : Int) = (sLen.getD j 0 : Nat) := w32_id (by omega)
  have e : (some (sC j (w32 i)) : Option Int) = (gd (0 ≤ w32 i ∧ w32 i < w32 (sLen.getD j 0 : Nat)) (some σ)).bind fun _ => gd (0 ≤ w32 i ∧ w32 i < (sLen.getD j 0 : Nat)) (some (sC j (w32 i))) := by
    unfold gd
    rw [if_pos (by rw [eL]; exact hb), if_pos hb]; rfl
  rw [e]
  refine z_iload_n C 1 rfl 1 rfl dJ1_charAt_3b067_0 1 rfl ?_
  refine s_aload_n C 0 rfl 0 rfl dJ1_charAt_3b067_1 2 rfl ?_
  refine s_blen C hT dJ1_charAt_3b067_2 3 rfl ?_
  refine z_callS (w := w0 σ) C hR (tJ0_checkIndex_df160 (mL X) G σ i (sLen.getD j 0 : Nat)) mwJ0_checkIndex_df160 msJ0_checkIndex_df160 lkJ1_9 rfl rfl (Nat.le_of_ble_eq_true rfl) (by decide) (by decide) dJ1_charAt_3b067_3 6 rfl (fun r hr => ?_)
  obtain rfl : r = σ := by
    unfold gd at hr
    split at hr
    · exact (Option.some.inj hr).symm
    · cases hr
  show ZZ X G 2 (QM X G vzI (wzR r) (0, 0)) (0, 0) (gd (0 ≤ w32 i ∧ w32 i < (sLen.getD j 0 : Nat)) (some (sC j (w32 i)))) (w0 r) 6 [(0, .ref adV), (1, vi i)] []
  refine s_aload_n C 0 rfl 0 rfl dJ1_charAt_3b067_6 7 rfl ?_
  refine z_iload_n C 1 rfl 1 rfl dJ1_charAt_3b067_7 8 rfl ?_
  refine s_bald C hT rfl dJ1_charAt_3b067_8 9 rfl rfl (fun _ => ?_)
  have ev : (Value.int ((sByt.getD j []).getD (w32 i).toNat 0)) = vi ((sByt.getD j []).getD (w32 i).toNat 0).toInt := by unfold vi; rw [i32_toInt]
  rw [ev]
  refine z_sipush C (by decide) dJ1_charAt_3b067_9 12 rfl ?_
  refine z_iand C dJ1_charAt_3b067_12 13 rfl ?_
  refine z_i2c C dJ1_charAt_3b067_13 14 rfl ?_
  obtain ⟨c1, c2⟩ := sC_chk j hj (w32 i).toNat (by omega)
  rw [Int.toNat_of_nonneg hb.1] at c1 c2
  rw [c1]
  exact s_ret C R c2 rfl rfl dJ1_charAt_3b067_14
def rmJ0_isLatin1_aae02 : Room := { frames := 0, cells := 0, slots := 0, locals := 0 }
set_option maxRecDepth 100000 in
set_option maxHeartbeats 4000000 in
theorem tJ0_isLatin1_aae02 (l : Launch) (G : GG) (σ : St) (x xv j : Nat) (hS : ∀ s : State, KK G s → va_O "java/lang/String" x (fun q => gb G ≤ q) s G.1 ∧ va_OF "java/lang/String" "coder" "B" (.int 0) x (fun q => gb G ≤ q) s G.1 ∧ va_OF "java/lang/String" "value" "[B" (.ref xv) x (fun q => gb G ≤ q) s G.1 ∧ va_T .byte xv (sLen.getD j 0) (fun q => .int ((sByt.getD j []).getD q 0)) (fun q => gb G ≤ q) s G.1) : Ctr l G yJ0_isLatin1_aae02 cJ0_isLatin1_aae02 1 (some .boolean) rmJ0_isLatin1_aae02 [.ref x] (w0 σ) vzI (wzR σ) (some 1) := by
  refine ctr_of (by decide) (Nat.le_of_ble_eq_true rfl) mwJ0_isLatin1_aae02.1 (fun X hl hR C R hnm => ?_)
  subst hl
  refine z_lv (lv' := [(0, .ref x)]) [0] rfl ?_
  obtain ⟨fm, h1, h2, h3, h4, h5, h6⟩ := C.2.2.2.2.2.2.1
  refine s_gets C h4 sf_J0_38 dJ0_isLatin1_aae02_0 3 rfl ?_
  have e : (some 1 : Option Int) = if (1 : Int) = 0 then none else if (0 : Int) ≠ 0 then none else some 1 := by decide
  rw [e]
  refine z_if_eq (a := 1) C dJ0_isLatin1_aae02_3 17 (by decide) 6 rfl (w32_id (a := 1) (by decide)) (fun _ => z_none) (fun _ => ?_)
  refine s_aload_n C 0 rfl 0 rfl dJ0_isLatin1_aae02_6 7 rfl ?_
  refine s_getf C (hS _ C.2.2.2.2.2).2.1 sf_J0_15 dJ0_isLatin1_aae02_7 10 rfl ?_
  refine z_if_ne (a := 0) C dJ0_isLatin1_aae02_10 17 (by decide) 13 rfl (w32_id (a := 0) (by decide)) (fun _ => z_none) (fun _ => ?_)
  refine z_iconst C dJ0_isLatin1_aae02_13 14 rfl ?_
  refine z_goto C dJ0_isLatin1_aae02_14 18 (by decide) ?_
  exact z_zret C R nz1 rfl rfl dJ0_isLatin1_aae02_18
def gchr (j : Nat) (i : Int) : Option Int := gd (0 ≤ w32 i ∧ w32 i < (sLen.getD j 0 : Nat)) (some (sC j (w32 i)))
theorem ss_str {G : GG} {s : State} (h : KK G s) (j : Nat) (hj : j < 2) : va_O "java/lang/String" (gK G j) (fun q => gb G ≤ q) s G.1 ∧ va_OF "java/lang/String" "coder" "B" (.int 0) (gK G j) (fun q => gb G ≤ q) s G.1 ∧ va_OF "java/lang/String" "value" "[B" (.ref (gV G j)) (gK G j) (fun q => gb G ≤ q) s G.1 ∧ va_T .byte (gV G j) (sLen.getD j 0) (fun q => .int ((sByt.getD j []).getD q 0)) (fun q => gb G ≤ q) s G.1 := by
  obtain ⟨fm, h1, -⟩ := h.2.1
  exact h1.1 j hj
theorem ss_R0 {G : GG} {s : State} (h : KK G s) : vk_R RX8 99 "worth left  room  rank  paid  numberby    if    and   drop  " (gK G 0) s := by
  obtain ⟨fm, h1, h2, h3, -⟩ := h.2.1
  exact h2
theorem ss_R1 {G : GG} {s : State} (h : KK G s) : vk_R RX8 107 "+-,<>;" (gK G 1) s := by
  obtain ⟨fm, h1, h2, h3, -⟩ := h.2.1
  exact h3
def rmJ0_charAt_5068e : Room := { frames := 4, cells := 0, slots := 0, locals := 160 }
set_option maxRecDepth 100000 in
set_option maxHeartbeats 4000000 in
theorem tJ0_charAt_5068e (l : Launch) (G : GG) (σ : St) (x xv j : Nat) (hj : j < 2) (i : Int) (hS : ∀ s : State, KK G s → va_O "java/lang/String" x (fun q => gb G ≤ q) s G.1 ∧ va_OF "java/lang/String" "coder" "B" (.int 0) x (fun q => gb G ≤ q) s G.1 ∧ va_OF "java/lang/String" "value" "[B" (.ref xv) x (fun q => gb G ≤ q) s G.1 ∧ va_T .byte xv (sLen.getD j 0) (fun q => .int ((sByt.getD j []).getD q 0)) (fun q => gb G ≤ q) s G.1) : Ctr l G yJ0_charAt_5068e cJ0_charAt_5068e 2 (some .char) rmJ0_charAt_5068e [.ref x, vi i] (w0 σ) vzI (wzR σ) (gchr j i) := by
  refine ctr_of (by decide) (Nat.le_of_ble_eq_true rfl) mwJ0_charAt_5068e.1 (fun X hl hR C R hnm => ?_)
  subst hl
  unfold gchr
  refine z_lv (lv' := [(0, .ref x), (1, vi i)]) [0, 1] rfl ?_
  have h := hS _ C.2.2.2.2.2
  have e : (gd (0 ≤ w32 i ∧ w32 i < (sLen.getD j 0 : Nat)) (some (sC j (w32 i))) : Option Int) = (some 1 : Option Int).bind fun r => if w32 r = 0 then none else (gd (0 ≤ w32 i ∧ w32 i < (sLen.getD j 0 : Nat)) (some (sC j (w32 i)))).bind fun r2 => some r2 := by
    have h1 : w32 1 = 1 := by decide
    show _ = if w32 1 = 0 then none else _
    rw [h1, if_neg (by decide)]
    cases gd (0 ≤ w32 i ∧ w32 i < (sLen.getD j 0 : Nat)) (some (sC j (w32 i))) <;> rfl
  rw [e]
  refine s_aload_n C 0 rfl 0 rfl dJ0_charAt_5068e_0 1 rfl ?_
  refine s_callV C hR (tJ0_isLatin1_aae02 (mL X) G σ x xv j hS) mwJ0_isLatin1_aae02 rfl soJ0_isLatin1_aae02 lkJ0_492 h.1 rfl rfl (Nat.le_of_ble_eq_true rfl) (by unfold rmOK; decide) dJ0_charAt_5068e_1 4 rfl (fun r _ => ?_)
  refine z_if_eq C dJ0_charAt_5068e_4 16 (by decide) 7 rfl rfl (fun _ => z_none) (fun _ => ?_)
  refine s_aload_n C 0 rfl 0 rfl dJ0_charAt_5068e_7 8 rfl ?_
  refine s_getf C h.2.2.1 sf_J0_9 dJ0_charAt_5068e_8 11 rfl ?_
  refine z_iload_n C 1 rfl 1 rfl dJ0_charAt_5068e_11 12 rfl ?_
  refine y_callSI C hR (tJ1_charAt_3b067 (mL X) G σ xv j hj i (fun s hs => (hS s hs).2.2.2)) ⟨mwJ1_charAt_3b067, msJ1_charAt_3b067, lkJ0_495⟩ rfl rfl (Nat.le_of_ble_eq_true rfl) (by unfold rmOK; decide) dJ0_charAt_5068e_12 15 rfl (fun r2 hr2 => ?_)
  have hc : narrow .char (vi r2) = vi r2 := by
    unfold gd at hr2
    split at hr2
    · rename_i hb
      have q := (sC_chk j hj (w32 i).toNat (by omega)).2
      rw [Int.toNat_of_nonneg hb.1] at q
      rw [← Option.some.inj hr2]; exact q
    · cases hr2
  exact s_ret C R hc rfl rfl dJ0_charAt_5068e_15
def rmJ1_canEncode_9a6ad : Room := { frames := 0, cells := 0, slots := 0, locals := 0 }
set_option maxRecDepth 100000 in
set_option maxHeartbeats 4000000 in
theorem tJ1_canEncode_9a6ad (l : Launch) (G : GG) (σ : St) (c : Int) : Ctr l G yJ1_canEncode_9a6ad cJ1_canEncode_9a6ad 1 (some .boolean) rmJ1_canEncode_9a6ad [vi c] (w0 σ) vzI (wzR σ) (if w32 c < 0 then some 0 else if w32 c > 255 then some 0 else some 1) := by
  refine ctr_of (by decide) (Nat.le_of_ble_eq_true rfl) mwJ1_canEncode_9a6ad.1 (fun X hl hR C R hnm => ?_)
  subst hl
  refine z_lv (lv' := [(0, vi c)]) [0] rfl ?_
  refine z_iload_n C 0 rfl 0 rfl dJ1_canEncode_9a6ad_0 1 rfl ?_
  refine z_if_lt C dJ1_canEncode_9a6ad_1 15 (by decide) 4 rfl rfl (fun _ => ?_) (fun _ => ?_)
  · refine z_iconst C dJ1_canEncode_9a6ad_15 16 rfl ?_
    exact z_zret C R nz0 rfl rfl dJ1_canEncode_9a6ad_16
  · refine z_iload_n C 0 rfl 0 rfl dJ1_canEncode_9a6ad_4 5 rfl ?_
    refine z_sipush C (by decide) dJ1_canEncode_9a6ad_5 8 rfl ?_
    refine z_icmp_gt C dJ1_canEncode_9a6ad_8 15 (by decide) 11 rfl rfl (w32_id (a := 255) (by decide)) (fun _ => ?_) (fun _ => ?_)
    · refine z_iconst C dJ1_canEncode_9a6ad_15 16 rfl ?_
      exact z_zret C R nz0 rfl rfl dJ1_canEncode_9a6ad_16
    · refine z_iconst C dJ1_canEncode_9a6ad_11 12 rfl ?_
      refine z_goto C dJ1_canEncode_9a6ad_12 16 (by decide) ?_
      exact z_zret C R nz1 rfl rfl dJ1_canEncode_9a6ad_16
def rmJ1_indexOfChar_4cfef : Room := { frames := 0, cells := 0, slots := 0, locals := 0 }
def sIdx (c : Int) : Option Int := if i2b_ c ≠ 43 then if i2b_ c ≠ 45 then if i2b_ c ≠ 44 then if i2b_ c ≠ 60 then if i2b_ c ≠ 62 then if i2b_ c ≠ 59 then some (-1) else some 5 else some 4 else some 3 else some 2 else some 1 else some 0
set_option maxRecDepth 100000 in
set_option maxHeartbeats 4000000 in
theorem tJ1_indexOfChar_4cfef (l : Launch) (G : GG) (σ : St) (xv : Nat) (c : Int) (hT : ∀ s : State, KK G s → va_T .byte xv 6 (fun q => .int ((sByt.getD 1 []).getD q 0)) (fun q => gb G ≤ q) s G.1) : Ctr l G yJ1_indexOfChar_4cfef cJ1_indexOfChar_4cfef 6 (some .int) rmJ1_indexOfChar_4cfef [.ref xv, vi c, vi 0, vi 6] (w0 σ) vzI (wzR σ) (sIdx c) := by
  refine ctr_of (by decide) (Nat.le_of_ble_eq_true rfl) mwJ1_indexOfChar_4cfef.1 (fun X hl hR C R hnm => ?_)
  subst hl
  have hT := hT _ C.2.2.2.2.2
  refine z_lv (lv' := [(0, .ref xv), (1, vi c), (2, vi 0), (3, vi 6)]) [0, 1, 2, 3] rfl ?_
  refine z_iload_n C 1 rfl 1 rfl dJ1_indexOfChar_4cfef_0 1 rfl ?_
  refine z_i2b C dJ1_indexOfChar_4cfef_1 2 rfl ?_
  refine z_istore (lv' := [(4, vi (i2b_ c)), (0, .ref xv), (1, vi c), (2, vi 0), (3, vi 6)]) C (by decide) dJ1_indexOfChar_4cfef_2 4 rfl rfl ?_
  refine z_iload_n C 2 rfl 3 rfl dJ1_indexOfChar_4cfef_4 5 rfl ?_
  refine z_istore (lv' := [(5, vi 0), (4, vi (i2b_ c)), (0, .ref xv), (1, vi c), (2, vi 0), (3, vi 6)]) C (by decide) dJ1_indexOfChar_4cfef_5 7 rfl rfl ?_
  unfold sIdx
  have step0 : ∀ o1 : Option Int, (0 ≤ (0 : Int) ∧ (0 : Int) < 6 → ZZ X G 6 (QM X G vzI (wzR σ) (0, 0)) (0, 0) o1 (w0 σ) 25 [(5, vi 0), (4, vi (i2b_ c)), (0, .ref xv), (1, vi c), (2, vi 0), (3, vi 6)] []) → ZZ X G 6 (QM X G vzI (wzR σ) (0, 0)) (0, 0) (if i2b_ c ≠ 43 then o1 else some 0) (w0 σ) 7 [(5, vi 0), (4, vi (i2b_ c)), (0, .ref xv), (1, vi c), (2, vi 0), (3, vi 6)] [] := by
    intro o1 hk
    refine z_iload C 0 rfl dJ1_indexOfChar_4cfef_7 9 rfl ?_
    refine z_iload_n C 3 rfl 5 rfl dJ1_indexOfChar_4cfef_9 10 rfl ?_
    have e : (if i2b_ c ≠ 43 then o1 else some 0) = if (0 : Int) ≥ 6 then none else gd (0 ≤ (0 : Int) ∧ (0 : Int) < 6) (if (43 : Int) ≠ i2b_ c then o1 else some 0) := by
      rw [if_neg (show ¬ ((0 : Int) ≥ 6) by decide)]
      unfold gd
      rw [if_pos (show 0 ≤ (0 : Int) ∧ (0 : Int) < 6 by decide)]
      by_cases h : i2b_ c = 43
      · rw [if_neg (fun q => q h), if_neg (fun q => q h.symm)]
      · rw [if_pos h, if_pos (fun q => h q.symm)]
    rw [e]
    refine z_icmp_ge C dJ1_indexOfChar_4cfef_10 31 (by decide) 13 rfl (w32_id (a := 0) (by decide)) (w32_id (a := 6) (by decide)) (fun _ => z_none) (fun _ => ?_)
    refine s_aload_n C 0 rfl 2 rfl dJ1_indexOfChar_4cfef_13 14 rfl ?_
    refine z_iload C 0 rfl dJ1_indexOfChar_4cfef_14 16 rfl ?_
    refine s_bald C hT rfl dJ1_indexOfChar_4cfef_16 17 rfl (w32_id (a := 0) (by decide)) (fun hb => ?_)
    show ZZ X G 6 (QM X G vzI (wzR σ) (0, 0)) (0, 0) (if (43 : Int) ≠ i2b_ c then o1 else some 0) (w0 σ) 17 [(5, vi 0), (4, vi (i2b_ c)), (0, .ref xv), (1, vi c), (2, vi 0), (3, vi 6)] [vi 43]
    refine z_iload C 1 rfl dJ1_indexOfChar_4cfef_17 19 rfl ?_
    refine z_icmp_ne C dJ1_indexOfChar_4cfef_19 25 (by decide) 22 rfl (w32_id (a := 43) (by decide)) (w32_i2b c) (fun _ => hk hb) (fun _ => ?_)
    refine z_iload C 0 rfl dJ1_indexOfChar_4cfef_22 24 rfl ?_
    exact z_iret C R rfl rfl dJ1_indexOfChar_4cfef_24
  have step1 : ∀ o1 : Option Int, (0 ≤ (1 : Int) ∧ (1 : Int) < 6 → ZZ X G 6 (QM X G vzI (wzR σ) (0, 0)) (0, 0) o1 (w0 σ) 25 [(5, vi 1), (4, vi (i2b_ c)), (0, .ref xv), (1, vi c), (2, vi 0), (3, vi 6)] []) → ZZ X G 6 (QM X G vzI (wzR σ) (0, 0)) (0, 0) (if i2b_ c ≠ 45 then o1 else some 1) (w0 σ) 7 [(5, vi 1), (4, vi (i2b_ c)), (0, .ref xv), (1, vi c), (2, vi 0), (3, vi 6)] [] := by
    intro o1 hk
    refine z_iload C 0 rfl dJ1_indexOfChar_4cfef_7 9 rfl ?_
    refine z_iload_n C 3 rfl 5 rfl dJ1_indexOfChar_4cfef_9 10 rfl ?_
    have e : (if i2b_ c ≠ 45 then o1 else some 1) = if (1 : Int) ≥ 6 then none else gd (0 ≤ (1 : Int) ∧ (1 : Int) < 6) (if (45 : Int) ≠ i2b_ c then o1 else some 1) := by
      rw [if_neg (show ¬ ((1 : Int) ≥ 6) by decide)]
      unfold gd
      rw [if_pos (show 0 ≤ (1 : Int) ∧ (1 : Int) < 6 by decide)]
      by_cases h : i2b_ c = 45
      · rw [if_neg (fun q => q h), if_neg (fun q => q h.symm)]
      · rw [if_pos h, if_pos (fun q => h q.symm)]
    rw [e]
    refine z_icmp_ge C dJ1_indexOfChar_4cfef_10 31 (by decide) 13 rfl (w32_id (a := 1) (by decide)) (w32_id (a := 6) (by decide)) (fun _ => z_none) (fun _ => ?_)
    refine s_aload_n C 0 rfl 2 rfl dJ1_indexOfChar_4cfef_13 14 rfl ?_
    refine z_iload C 0 rfl dJ1_indexOfChar_4cfef_14 16 rfl ?_
    refine s_bald C hT rfl dJ1_indexOfChar_4cfef_16 17 rfl (w32_id (a := 1) (by decide)) (fun hb => ?_)
    show ZZ X G 6 (QM X G vzI (wzR σ) (0, 0)) (0, 0) (if (45 : Int) ≠ i2b_ c then o1 else some 1) (w0 σ) 17 [(5, vi 1), (4, vi (i2b_ c)), (0, .ref xv), (1, vi c), (2, vi 0), (3, vi 6)] [vi 45]
    refine z_iload C 1 rfl dJ1_indexOfChar_4cfef_17 19 rfl ?_
    refine z_icmp_ne C dJ1_indexOfChar_4cfef_19 25 (by decide) 22 rfl (w32_id (a := 45) (by decide)) (w32_i2b c) (fun _ => hk hb) (fun _ => ?_)
    refine z_iload C 0 rfl dJ1_indexOfChar_4cfef_22 24 rfl ?_
    exact z_iret C R rfl rfl dJ1_indexOfChar_4cfef_24
  have step2 : ∀ o1 : Option Int, (0 ≤ (2 : Int) ∧ (2 : Int) < 6 → ZZ X G 6 (QM X G vzI (wzR σ) (0, 0)) (0, 0) o1 (w0 σ) 25 [(5, vi 2), (4, vi (i2b_ c)), (0, .ref xv), (1, vi c), (2, vi 0), (3, vi 6)] []) → ZZ X G 6 (QM X G vzI (wzR σ) (0, 0)) (0, 0) (if i2b_ c ≠ 44 then o1 else some 2) (w0 σ) 7 [(5, vi 2), (4, vi (i2b_ c)), (0, .ref xv), (1, vi c), (2, vi 0), (3, vi 6)] [] := by
    intro o1 hk
    refine z_iload C 0 rfl dJ1_indexOfChar_4cfef_7 9 rfl ?_
    refine z_iload_n C 3 rfl 5 rfl dJ1_indexOfChar_4cfef_9 10 rfl ?_
    have e : (if i2b_ c ≠ 44 then o1 else some 2) = if (2 : Int) ≥ 6 then none else gd (0 ≤ (2 : Int) ∧ (2 : Int) < 6) (if (44 : Int) ≠ i2b_ c then o1 else some 2) := by
      rw [if_neg (show ¬ ((2 : Int) ≥ 6) by decide)]
      unfold gd
      rw [if_pos (show 0 ≤ (2 : Int) ∧ (2 : Int) < 6 by decide)]
      by_cases h : i2b_ c = 44
      · rw [if_neg (fun q => q h), if_neg (fun q => q h.symm)]
      · rw [if_pos h, if_pos (fun q => h q.symm)]
    rw [e]
    refine z_icmp_ge C dJ1_indexOfChar_4cfef_10 31 (by decide) 13 rfl (w32_id (a := 2) (by decide)) (w32_id (a := 6) (by decide)) (fun _ => z_none) (fun _ => ?_)
    refine s_aload_n C 0 rfl 2 rfl dJ1_indexOfChar_4cfef_13 14 rfl ?_
    refine z_iload C 0 rfl dJ1_indexOfChar_4cfef_14 16 rfl ?_
    refine s_bald C hT rfl dJ1_indexOfChar_4cfef_16 17 rfl (w32_id (a := 2) (by decide)) (fun hb => ?_)
    show ZZ X G 6 (QM X G vzI (wzR σ) (0, 0)) (0, 0) (if (44 : Int) ≠ i2b_ c then o1 else some 2) (w0 σ) 17 [(5, vi 2), (4, vi (i2b_ c)), (0, .ref xv), (1, vi c), (2, vi 0), (3, vi 6)] [vi 44]
    refine z_iload C 1 rfl dJ1_indexOfChar_4cfef_17 19 rfl ?_
    refine z_icmp_ne C dJ1_indexOfChar_4cfef_19 25 (by decide) 22 rfl (w32_id (a := 44) (by decide)) (w32_i2b c) (fun _ => hk hb) (fun _ => ?_)
    refine z_iload C 0 rfl dJ1_indexOfChar_4cfef_22 24 rfl ?_
    exact z_iret C R rfl rfl dJ1_indexOfChar_4cfef_24
  have step3 : ∀ o1 : Option Int, (0 ≤ (3 : Int) ∧ (3 : Int) < 6 → ZZ X G 6 (QM X G vzI (wzR σ) (0, 0)) (0, 0) o1 (w0 σ) 25 [(5, vi 3), (4, vi (i2b_ c)), (0, .ref xv), (1, vi c), (2, vi 0), (3, vi 6)] []) → ZZ X G 6 (QM X G vzI (wzR σ) (0, 0)) (0, 0) (if i2b_ c ≠ 60 then o1 else some 3) (w0 σ) 7 [(5, vi 3), (4, vi (i2b_ c)), (0, .ref xv), (1, vi c), (2, vi 0), (3, vi 6)] [] := by
    intro o1 hk
    refine z_iload C 0 rfl dJ1_indexOfChar_4cfef_7 9 rfl ?_
    refine z_iload_n C 3 rfl 5 rfl dJ1_indexOfChar_4cfef_9 10 rfl ?_
    have e : (if i2b_ c ≠ 60 then o1 else some 3) = if (3 : Int) ≥ 6 then none else gd (0 ≤ (3 : Int) ∧ (3 : Int) < 6) (if (60 : Int) ≠ i2b_ c then o1 else some 3) := by
      rw [if_neg (show ¬ ((3 : Int) ≥ 6) by decide)]
      unfold gd
      rw [if_pos (show 0 ≤ (3 : Int) ∧ (3 : Int) < 6 by decide)]
      by_cases h : i2b_ c = 60
      · rw [if_neg (fun q => q h), if_neg (fun q => q h.symm)]
      · rw [if_pos h, if_pos (fun q => h q.symm)]
    rw [e]
    refine z_icmp_ge C dJ1_indexOfChar_4cfef_10 31 (by decide) 13 rfl (w32_id (a := 3) (by decide)) (w32_id (a := 6) (by decide)) (fun _ => z_none) (fun _ => ?_)
    refine s_aload_n C 0 rfl 2 rfl dJ1_indexOfChar_4cfef_13 14 rfl ?_
    refine z_iload C 0 rfl dJ1_indexOfChar_4cfef_14 16 rfl ?_
    refine s_bald C hT rfl dJ1_indexOfChar_4cfef_16 17 rfl (w32_id (a := 3) (by decide)) (fun hb => ?_)
    show ZZ X G 6 (QM X G vzI (wzR σ) (0, 0)) (0, 0) (if (60 : Int) ≠ i2b_ c then o1 else some 3) (w0 σ) 17 [(5, vi 3), (4, vi (i2b_ c)), (0, .ref xv), (1, vi c), (2, vi 0), (3, vi 6)] [vi 60]
    refine z_iload C 1 rfl dJ1_indexOfChar_4cfef_17 19 rfl ?_
    refine z_icmp_ne C dJ1_indexOfChar_4cfef_19 25 (by decide) 22 rfl (w32_id (a := 60) (by decide)) (w32_i2b c) (fun _ => hk hb) (fun _ => ?_)
    refine z_iload C 0 rfl dJ1_indexOfChar_4cfef_22 24 rfl ?_
    exact z_iret C R rfl rfl dJ1_indexOfChar_4cfef_24
  have step4 : ∀ o1 : Option Int, (0 ≤ (4 : Int) ∧ (4 : Int) < 6 → ZZ X G 6 (QM X G vzI (wzR σ) (0, 0)) (0, 0) o1 (w0 σ) 25 [(5, vi 4), (4, vi (i2b_ c)), (0, .ref xv), (1, vi c), (2, vi 0), (3, vi 6)] []) → ZZ X G 6 (QM X G vzI (wzR σ) (0, 0)) (0, 0) (if i2b_ c ≠ 62 then o1 else some 4) (w0 σ) 7 [(5, vi 4), (4, vi (i2b_ c)), (0, .ref xv), (1, vi c), (2, vi 0), (3, vi 6)] [] := by
    intro o1 hk
    refine z_iload C 0 rfl dJ1_indexOfChar_4cfef_7 9 rfl ?_
    refine z_iload_n C 3 rfl 5 rfl dJ1_indexOfChar_4cfef_9 10 rfl ?_
    have e : (if i2b_ c ≠ 62 then o1 else some 4) = if (4 : Int) ≥ 6 then none else gd (0 ≤ (4 : Int) ∧ (4 : Int) < 6) (if (62 : Int) ≠ i2b_ c then o1 else some 4) := by
      rw [if_neg (show ¬ ((4 : Int) ≥ 6) by decide)]
      unfold gd
      rw [if_pos (show 0 ≤ (4 : Int) ∧ (4 : Int) < 6 by decide)]
      by_cases h : i2b_ c = 62
      · rw [if_neg (fun q => q h), if_neg (fun q => q h.symm)]
      · rw [if_pos h, if_pos (fun q => h q.symm)]
    rw [e]
    refine z_icmp_ge C dJ1_indexOfChar_4cfef_10 31 (by decide) 13 rfl (w32_id (a := 4) (by decide)) (w32_id (a := 6) (by decide)) (fun _ => z_none) (fun _ => ?_)
    refine s_aload_n C 0 rfl 2 rfl dJ1_indexOfChar_4cfef_13 14 rfl ?_
    refine z_iload C 0 rfl dJ1_indexOfChar_4cfef_14 16 rfl ?_
    refine s_bald C hT rfl dJ1_indexOfChar_4cfef_16 17 rfl (w32_id (a := 4) (by decide)) (fun hb => ?_)
    show ZZ X G 6 (QM X G vzI (wzR σ) (0, 0)) (0, 0) (if (62 : Int) ≠ i2b_ c then o1 else some 4) (w0 σ) 17 [(5, vi 4), (4, vi (i2b_ c)), (0, .ref xv), (1, vi c), (2, vi 0), (3, vi 6)] [vi 62]
    refine z_iload C 1 rfl dJ1_indexOfChar_4cfef_17 19 rfl ?_
    refine z_icmp_ne C dJ1_indexOfChar_4cfef_19 25 (by decide) 22 rfl (w32_id (a := 62) (by decide)) (w32_i2b c) (fun _ => hk hb) (fun _ => ?_)
    refine z_iload C 0 rfl dJ1_indexOfChar_4cfef_22 24 rfl ?_
    exact z_iret C R rfl rfl dJ1_indexOfChar_4cfef_24
  have step5 : ∀ o1 : Option Int, (0 ≤ (5 : Int) ∧ (5 : Int) < 6 → ZZ X G 6 (QM X G vzI (wzR σ) (0, 0)) (0, 0) o1 (w0 σ) 25 [(5, vi 5), (4, vi (i2b_ c)), (0, .ref xv), (1, vi c), (2, vi 0), (3, vi 6)] []) → ZZ X G 6 (QM X G vzI (wzR σ) (0, 0)) (0, 0) (if i2b_ c ≠ 59 then o1 else some 5) (w0 σ) 7 [(5, vi 5), (4, vi (i2b_ c)), (0, .ref xv), (1, vi c), (2, vi 0), (3, vi 6)] [] := by
    intro o1 hk
    refine z_iload C 0 rfl dJ1_indexOfChar_4cfef_7 9 rfl ?_
    refine z_iload_n C 3 rfl 5 rfl dJ1_indexOfChar_4cfef_9 10 rfl ?_
    have e : (if i2b_ c ≠ 59 then o1 else some 5) = if (5 : Int) ≥ 6 then none else gd (0 ≤ (5 : Int) ∧ (5 : Int) < 6) (if (59 : Int) ≠ i2b_ c then o1 else some 5) := by
      rw [if_neg (show ¬ ((5 : Int) ≥ 6) by decide)]
      unfold gd
      rw [if_pos (show 0 ≤ (5 : Int) ∧ (5 : Int) < 6 by decide)]
      by_cases h : i2b_ c = 59
      · rw [if_neg (fun q => q h), if_neg (fun q => q h.symm)]
      · rw [if_pos h, if_pos (fun q => h q.symm)]
    rw [e]
    refine z_icmp_ge C dJ1_indexOfChar_4cfef_10 31 (by decide) 13 rfl (w32_id (a := 5) (by decide)) (w32_id (a := 6) (by decide)) (fun _ => z_none) (fun _ => ?_)
    refine s_aload_n C 0 rfl 2 rfl dJ1_indexOfChar_4cfef_13 14 rfl ?_
    refine z_iload C 0 rfl dJ1_indexOfChar_4cfef_14 16 rfl ?_
    refine s_bald C hT rfl dJ1_indexOfChar_4cfef_16 17 rfl (w32_id (a := 5) (by decide)) (fun hb => ?_)
    show ZZ X G 6 (QM X G vzI (wzR σ) (0, 0)) (0, 0) (if (59 : Int) ≠ i2b_ c then o1 else some 5) (w0 σ) 17 [(5, vi 5), (4, vi (i2b_ c)), (0, .ref xv), (1, vi c), (2, vi 0), (3, vi 6)] [vi 59]
    refine z_iload C 1 rfl dJ1_indexOfChar_4cfef_17 19 rfl ?_
    refine z_icmp_ne C dJ1_indexOfChar_4cfef_19 25 (by decide) 22 rfl (w32_id (a := 59) (by decide)) (w32_i2b c) (fun _ => hk hb) (fun _ => ?_)
    refine z_iload C 0 rfl dJ1_indexOfChar_4cfef_22 24 rfl ?_
    exact z_iret C R rfl rfl dJ1_indexOfChar_4cfef_24
  refine step0 _ (fun _ => ?_)
  refine z_iinc (lv' := [(5, vi 1), (4, vi (i2b_ c)), (0, .ref xv), (1, vi c), (2, vi 0), (3, vi 6)]) C (by decide) 0 rfl dJ1_indexOfChar_4cfef_25 28 rfl rfl ?_
  refine z_goto C dJ1_indexOfChar_4cfef_28 7 (by decide) ?_
  refine step1 _ (fun _ => ?_)
  refine z_iinc (lv' := [(5, vi 2), (4, vi (i2b_ c)), (0, .ref xv), (1, vi c), (2, vi 0), (3, vi 6)]) C (by decide) 0 rfl dJ1_indexOfChar_4cfef_25 28 rfl rfl ?_
  refine z_goto C dJ1_indexOfChar_4cfef_28 7 (by decide) ?_
  refine step2 _ (fun _ => ?_)
  refine z_iinc (lv' := [(5, vi 3), (4, vi (i2b_ c)), (0, .ref xv), (1, vi c), (2, vi 0), (3, vi 6)]) C (by decide) 0 rfl dJ1_indexOfChar_4cfef_25 28 rfl rfl ?_
  refine z_goto C dJ1_indexOfChar_4cfef_28 7 (by decide) ?_
  refine step3 _ (fun _ => ?_)
  refine z_iinc (lv' := [(5, vi 4), (4, vi (i2b_ c)), (0, .ref xv), (1, vi c), (2, vi 0), (3, vi 6)]) C (by decide) 0 rfl dJ1_indexOfChar_4cfef_25 28 rfl rfl ?_
  refine z_goto C dJ1_indexOfChar_4cfef_28 7 (by decide) ?_
  refine step4 _ (fun _ => ?_)
  refine z_iinc (lv' := [(5, vi 5), (4, vi (i2b_ c)), (0, .ref xv), (1, vi c), (2, vi 0), (3, vi 6)]) C (by decide) 0 rfl dJ1_indexOfChar_4cfef_25 28 rfl rfl ?_
  refine z_goto C dJ1_indexOfChar_4cfef_28 7 (by decide) ?_
  refine step5 _ (fun _ => ?_)
  refine z_iinc (lv' := [(5, vi 6), (4, vi (i2b_ c)), (0, .ref xv), (1, vi c), (2, vi 0), (3, vi 6)]) C (by decide) 0 rfl dJ1_indexOfChar_4cfef_25 28 rfl rfl ?_
  refine z_goto C dJ1_indexOfChar_4cfef_28 7 (by decide) ?_
  have e : (some (-1) : Option Int) = if (6 : Int) ≥ 6 then some (-1) else none := by decide
  rw [e]
  refine z_iload C 0 rfl dJ1_indexOfChar_4cfef_7 9 rfl ?_
  refine z_iload_n C 3 rfl 5 rfl dJ1_indexOfChar_4cfef_9 10 rfl ?_
  refine z_icmp_ge C dJ1_indexOfChar_4cfef_10 31 (by decide) 13 rfl (w32_id (a := 6) (by decide)) (w32_id (a := 6) (by decide)) (fun _ => ?_) (fun _ => z_none)
  refine z_iconst C dJ1_indexOfChar_4cfef_31 32 rfl ?_
  exact z_iret C R rfl rfl dJ1_indexOfChar_4cfef_32
def rmJ1_indexOf_4cfef : Room := { frames := 1, cells := 0, slots := 0, locals := 60 }
def sIx (c : Int) : Option Int := if w32 c < 0 then some (-1) else if w32 c > 255 then some (-1) else sIdx c
set_option maxRecDepth 100000 in
set_option maxHeartbeats 4000000 in
theorem tJ1_indexOf_4cfef (l : Launch) (G : GG) (σ : St) (xv : Nat) (c : Int) (hT : ∀ s : State, KK G s → va_T .byte xv 6 (fun q => .int ((sByt.getD 1 []).getD q 0)) (fun q => gb G ≤ q) s G.1) : Ctr l G yJ1_indexOf_4cfef cJ1_indexOf_4cfef 4 (some .int) rmJ1_indexOf_4cfef [.ref xv, vi c, vi 0, vi 6] (w0 σ) vzI (wzR σ) (sIx c) := by
  refine ctr_of (by decide) (Nat.le_of_ble_eq_true rfl) mwJ1_indexOf_4cfef.1 (fun X hl hR C R hnm => ?_)
  subst hl
  have hT1 := hT _ C.2.2.2.2.2
  refine z_lv (lv' := [(0, .ref xv), (1, vi c), (2, vi 0), (3, vi 6)]) [0, 1, 2, 3] rfl ?_
  have e : sIx c = (if w32 c < 0 then some 0 else if w32 c > 255 then some 0 else some 1 : Option Int).bind fun r => if w32 r ≠ 0 then (if (0 : Int) < 6 then (sIdx c).bind fun r2 => some r2 else none) else some (-1) := by
    have h0 : w32 0 = 0 := by decide
    have h1 : w32 1 = 1 := by decide
    unfold sIx
    by_cases c1 : w32 c < 0
    · rw [if_pos c1, if_pos c1]; simp [h0]
    · rw [if_neg c1, if_neg c1]
      by_cases c2 : w32 c > 255
      · rw [if_pos c2, if_pos c2]; simp [h0]
      · rw [if_neg c2, if_neg c2]; simp [h1]
  rw [e]
  refine z_iload_n C 1 rfl 1 rfl dJ1_indexOf_4cfef_0 1 rfl ?_
  refine y_callSI C hR (tJ1_canEncode_9a6ad (mL X) G σ c) ⟨mwJ1_canEncode_9a6ad, msJ1_canEncode_9a6ad, lkJ1_88⟩ rfl rfl (Nat.le_of_ble_eq_true rfl) (by unfold rmOK; decide) dJ1_indexOf_4cfef_1 4 rfl (fun r _ => ?_)
  refine z_if_ne C dJ1_indexOf_4cfef_4 9 (by decide) 7 rfl rfl (fun _ => ?_) (fun _ => ?_)
  · refine z_iload_n C 2 rfl 2 rfl dJ1_indexOf_4cfef_9 10 rfl ?_
    refine z_iconst C dJ1_indexOf_4cfef_10 11 rfl ?_
    refine y_maxI C hR lkJ1_92 (Nat.le_of_ble_eq_true rfl) (by decide) dJ1_indexOf_4cfef_11 14 rfl ?_
    have e0 : (if w32 0 < w32 0 then (0 : Int) else 0) = 0 := by decide
    rw [e0]
    refine z_istore_n (lv' := [(2, vi 0), (0, .ref xv), (1, vi c), (3, vi 6)]) C 2 rfl (by decide) dJ1_indexOf_4cfef_14 15 rfl rfl ?_
    refine z_iload_n C 3 rfl 3 rfl dJ1_indexOf_4cfef_15 16 rfl ?_
    refine s_aload_n C 0 rfl 1 rfl dJ1_indexOf_4cfef_16 17 rfl ?_
    refine s_blen C hT1 dJ1_indexOf_4cfef_17 18 rfl ?_
    show ZZ X G 4 (QM X G vzI (wzR σ) (0, 0)) (0, 0) _ (w0 σ) 18 [(2, vi 0), (0, .ref xv), (1, vi c), (3, vi 6)] [vi 6, vi 6]
    refine y_minI C hR lkJ1_38 (Nat.le_of_ble_eq_true rfl) (by decide) dJ1_indexOf_4cfef_18 21 rfl ?_
    have e6 : (if w32 6 < w32 6 then (6 : Int) else 6) = 6 := by decide
    rw [e6]
    refine z_istore_n (lv' := [(3, vi 6), (2, vi 0), (0, .ref xv), (1, vi c)]) C 3 rfl (by decide) dJ1_indexOf_4cfef_21 22 rfl rfl ?_
    refine z_iload_n C 2 rfl 1 rfl dJ1_indexOf_4cfef_22 23 rfl ?_
    refine z_iload_n C 3 rfl 0 rfl dJ1_indexOf_4cfef_23 24 rfl ?_
    refine z_icmp_lt C dJ1_indexOf_4cfef_24 29 (by decide) 27 rfl (w32_id (a := 0) (by decide)) (w32_id (a := 6) (by decide)) (fun _ => ?_) (fun _ => z_none)
    refine s_aload_n C 0 rfl 2 rfl dJ1_indexOf_4cfef_29 30 rfl ?_
    refine z_iload_n C 1 rfl 3 rfl dJ1_indexOf_4cfef_30 31 rfl ?_
    refine z_iload_n C 2 rfl 1 rfl dJ1_indexOf_4cfef_31 32 rfl ?_
    refine z_iload_n C 3 rfl 0 rfl dJ1_indexOf_4cfef_32 33 rfl ?_
    refine y_callSI C hR (tJ1_indexOfChar_4cfef (mL X) G σ xv c hT) ⟨mwJ1_indexOfChar_4cfef, msJ1_indexOfChar_4cfef, lkJ1_95⟩ rfl rfl (Nat.le_of_ble_eq_true rfl) (by unfold rmOK; decide) dJ1_indexOf_4cfef_33 36 rfl (fun r2 _ => ?_)
    exact z_iret C R rfl rfl dJ1_indexOf_4cfef_36
  · refine z_iconst C dJ1_indexOf_4cfef_7 8 rfl ?_
    exact z_iret C R rfl rfl dJ1_indexOf_4cfef_8
def rmJ0_coder_7d493 : Room := { frames := 0, cells := 0, slots := 0, locals := 0 }
set_option maxRecDepth 100000 in
set_option maxHeartbeats 4000000 in
theorem tJ0_coder_7d493 (l : Launch) (G : GG) (σ : St) (x xv : Nat) (hS : ∀ s : State, KK G s → va_O "java/lang/String" x (fun q => gb G ≤ q) s G.1 ∧ va_OF "java/lang/String" "coder" "B" (.int 0) x (fun q => gb G ≤ q) s G.1 ∧ va_OF "java/lang/String" "value" "[B" (.ref xv) x (fun q => gb G ≤ q) s G.1 ∧ va_T .byte xv (6) (fun q => .int ((sByt.getD 1 []).getD q 0)) (fun q => gb G ≤ q) s G.1) : Ctr l G yJ0_coder_7d493 cJ0_coder_7d493 1 (some .byte) rmJ0_coder_7d493 [.ref x] (w0 σ) vzI (wzR σ) (some 0) := by
  refine ctr_of (by decide) (Nat.le_of_ble_eq_true rfl) mwJ0_coder_7d493.1 (fun X hl hR C R hnm => ?_)
  subst hl
  refine z_lv (lv' := [(0, .ref x)]) [0] rfl ?_
  obtain ⟨fm, h1, h2, h3, h4, h5, h6⟩ := C.2.2.2.2.2.2.1
  refine s_gets C h4 sf_J0_38 dJ0_coder_7d493_0 3 rfl ?_
  have e : (some 0 : Option Int) = if (1 : Int) = 0 then none else some 0 := by decide
  rw [e]
  refine z_if_eq (a := 1) C dJ0_coder_7d493_3 13 (by decide) 6 rfl (w32_id (a := 1) (by decide)) (fun _ => z_none) (fun _ => ?_)
  refine s_aload_n C 0 rfl 0 rfl dJ0_coder_7d493_6 7 rfl ?_
  refine s_getf C (hS _ C.2.2.2.2.2).2.1 sf_J0_15 dJ0_coder_7d493_7 10 rfl ?_
  refine z_goto C dJ0_coder_7d493_10 14 (by decide) ?_
  exact s_ret (a := 0) C R (by decide) rfl rfl dJ0_coder_7d493_14
def rmJ0_length_8abf5 : Room := { frames := 1, cells := 0, slots := 0, locals := 40 }
set_option maxRecDepth 100000 in
set_option maxHeartbeats 4000000 in
theorem tJ0_length_8abf5 (l : Launch) (G : GG) (σ : St) (x xv : Nat) (hS : ∀ s : State, KK G s → va_O "java/lang/String" x (fun q => gb G ≤ q) s G.1 ∧ va_OF "java/lang/String" "coder" "B" (.int 0) x (fun q => gb G ≤ q) s G.1 ∧ va_OF "java/lang/String" "value" "[B" (.ref xv) x (fun q => gb G ≤ q) s G.1 ∧ va_T .byte xv (6) (fun q => .int ((sByt.getD 1 []).getD q 0)) (fun q => gb G ≤ q) s G.1) : Ctr l G yJ0_length_8abf5 cJ0_length_8abf5 1 (some .int) rmJ0_length_8abf5 [.ref x] (w0 σ) vzI (wzR σ) (some 6) := by
  refine ctr_of (by decide) (Nat.le_of_ble_eq_true rfl) mwJ0_length_8abf5.1 (fun X hl hR C R hnm => ?_)
  subst hl
  refine z_lv (lv' := [(0, .ref x)]) [0] rfl ?_
  have h := hS _ C.2.2.2.2.2
  have e : (some 6 : Option Int) = (some 0 : Option Int).bind fun r => some (ishr 6 r) := by decide
  rw [e]
  refine s_aload_n C 0 rfl 0 rfl dJ0_length_8abf5_0 1 rfl ?_
  refine s_getf C h.2.2.1 sf_J0_9 dJ0_length_8abf5_1 4 rfl ?_
  refine s_blen C h.2.2.2 dJ0_length_8abf5_4 5 rfl ?_
  show ZZ X G 1 (QM X G vzI (wzR σ) (0, 0)) (0, 0) _ (w0 σ) 5 [(0, .ref x)] [vi 6]
  refine s_aload_n C 0 rfl 0 rfl dJ0_length_8abf5_5 6 rfl ?_
  refine s_callV C hR (tJ0_coder_7d493 (mL X) G σ x xv hS) mwJ0_coder_7d493 rfl soJ0_coder_7d493 lkJ0_335 h.1 rfl rfl (Nat.le_of_ble_eq_true rfl) (by unfold rmOK; decide) dJ0_length_8abf5_6 9 rfl (fun r _ => ?_)
  refine z_ishr C dJ0_length_8abf5_9 10 rfl ?_
  exact z_iret C R rfl rfl dJ0_length_8abf5_10
def rmJ0_indexOf_7cf53 : Room := { frames := 2, cells := 0, slots := 0, locals := 100 }
set_option maxRecDepth 100000 in
set_option maxHeartbeats 4000000 in
theorem tJ0_indexOf_7cf53 (l : Launch) (G : GG) (σ : St) (x xv : Nat) (c : Int) (hS : ∀ s : State, KK G s → va_O "java/lang/String" x (fun q => gb G ≤ q) s G.1 ∧ va_OF "java/lang/String" "coder" "B" (.int 0) x (fun q => gb G ≤ q) s G.1 ∧ va_OF "java/lang/String" "value" "[B" (.ref xv) x (fun q => gb G ≤ q) s G.1 ∧ va_T .byte xv (6) (fun q => .int ((sByt.getD 1 []).getD q 0)) (fun q => gb G ≤ q) s G.1) : Ctr l G yJ0_indexOf_7cf53 cJ0_indexOf_7cf53 3 (some .int) rmJ0_indexOf_7cf53 [.ref x, vi c, vi 0] (w0 σ) vzI (wzR σ) (sIx c) := by
  refine ctr_of (by decide) (Nat.le_of_ble_eq_true rfl) mwJ0_indexOf_7cf53.1 (fun X hl hR C R hnm => ?_)
  subst hl
  refine z_lv (lv' := [(0, .ref x), (1, vi c), (2, vi 0)]) [0, 1, 2] rfl ?_
  have h := hS _ C.2.2.2.2.2
  have e : sIx c = (some 1 : Option Int).bind fun r => if w32 r = 0 then none else (some 6 : Option Int).bind fun r3 => (sIx c).bind fun r2 => some r2 := by
    have h1 : w32 1 = 1 := by decide
    show _ = if w32 1 = 0 then none else _
    rw [h1, if_neg (by decide)]
    show sIx c = (sIx c).bind fun r2 => some r2
    cases sIx c <;> rfl
  rw [e]
  refine s_aload_n C 0 rfl 0 rfl dJ0_indexOf_7cf53_0 1 rfl ?_
  refine s_callV C hR (tJ0_isLatin1_aae02 (mL X) G σ x xv 1 hS) mwJ0_isLatin1_aae02 rfl soJ0_isLatin1_aae02 lkJ0_492 h.1 rfl rfl (Nat.le_of_ble_eq_true rfl) (by unfold rmOK; decide) dJ0_indexOf_7cf53_1 4 rfl (fun r _ => ?_)
  refine z_if_eq C dJ0_indexOf_7cf53_4 23 (by decide) 7 rfl rfl (fun _ => z_none) (fun _ => ?_)
  refine s_aload_n C 0 rfl 0 rfl dJ0_indexOf_7cf53_7 8 rfl ?_
  refine s_getf C h.2.2.1 sf_J0_9 dJ0_indexOf_7cf53_8 11 rfl ?_
  refine z_iload_n C 1 rfl 1 rfl dJ0_indexOf_7cf53_11 12 rfl ?_
  refine z_iload_n C 2 rfl 2 rfl dJ0_indexOf_7cf53_12 13 rfl ?_
  refine s_aload_n C 0 rfl 0 rfl dJ0_indexOf_7cf53_13 14 rfl ?_
  refine s_callV C hR (tJ0_length_8abf5 (mL X) G σ x xv hS) mwJ0_length_8abf5 rfl soJ0_length_8abf5 lkJ0_505 h.1 rfl rfl (Nat.le_of_ble_eq_true rfl) (by unfold rmOK; decide) dJ0_indexOf_7cf53_14 17 rfl (fun r3 hr3 => ?_)
  obtain rfl : r3 = 6 := (Option.some.inj hr3).symm
  refine y_callSI C hR (tJ1_indexOf_4cfef (mL X) G σ xv c (fun s hs => (hS s hs).2.2.2)) ⟨mwJ1_indexOf_4cfef, msJ1_indexOf_4cfef, lkJ0_637⟩ rfl rfl (Nat.le_of_ble_eq_true rfl) (by unfold rmOK; decide) dJ0_indexOf_7cf53_17 20 rfl (fun r2 _ => ?_)
  refine z_goto C dJ0_indexOf_7cf53_20 36 (by decide) ?_
  exact z_iret C R rfl rfl dJ0_indexOf_7cf53_36
def rmJ0_indexOf_0f7a4 : Room := { frames := 3, cells := 0, slots := 0, locals := 140 }
set_option maxRecDepth 100000 in
set_option maxHeartbeats 4000000 in
theorem tJ0_indexOf_0f7a4 (l : Launch) (G : GG) (σ : St) (x xv : Nat) (c : Int) (hS : ∀ s : State, KK G s → va_O "java/lang/String" x (fun q => gb G ≤ q) s G.1 ∧ va_OF "java/lang/String" "coder" "B" (.int 0) x (fun q => gb G ≤ q) s G.1 ∧ va_OF "java/lang/String" "value" "[B" (.ref xv) x (fun q => gb G ≤ q) s G.1 ∧ va_T .byte xv (6) (fun q => .int ((sByt.getD 1 []).getD q 0)) (fun q => gb G ≤ q) s G.1) : Ctr l G yJ0_indexOf_0f7a4 cJ0_indexOf_0f7a4 2 (some .int) rmJ0_indexOf_0f7a4 [.ref x, vi c] (w0 σ) vzI (wzR σ) (sIx c) := by
  refine ctr_of (by decide) (Nat.le_of_ble_eq_true rfl) mwJ0_indexOf_0f7a4.1 (fun X hl hR C R hnm => ?_)
  subst hl
  refine z_lv (lv' := [(0, .ref x), (1, vi c)]) [0, 1] rfl ?_
  have h := hS _ C.2.2.2.2.2
  have e : sIx c = (sIx c).bind fun r2 => some r2 := by cases sIx c <;> rfl
  rw [e]
  refine s_aload_n C 0 rfl 0 rfl dJ0_indexOf_0f7a4_0 1 rfl ?_
  refine z_iload_n C 1 rfl 1 rfl dJ0_indexOf_0f7a4_1 2 rfl ?_
  refine z_iconst C dJ0_indexOf_0f7a4_2 3 rfl ?_
  refine s_callV C hR (tJ0_indexOf_7cf53 (mL X) G σ x xv c hS) mwJ0_indexOf_7cf53 rfl soJ0_indexOf_7cf53 lkJ0_633 h.1 rfl rfl (Nat.le_of_ble_eq_true rfl) (by unfold rmOK; decide) dJ0_indexOf_0f7a4_3 6 rfl (fun r _ => ?_)
  exact z_iret C R rfl rfl dJ0_indexOf_0f7a4_6
