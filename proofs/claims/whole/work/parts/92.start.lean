-- THE START: the tables, the two constructors, the loop (open: what the calls answer, Spec, is asked)
/-! THE CLAIM OUT OF ONE WALK OF THE LAW'S BODY. Your part is whole_start (and what it stands on); all else here is the same for every law, but numbers. -/
def R_law : String := "PairedComingLaw"
def lw_P (b : Addr) (xs : List Int32) (args : Array Value) (s : State) : Prop := args = #[.ref b] ∧ s.IntsAt b xs ∧ xs.length ≤ 2048 ∧ (Jvm.Cond.and given_1 narrow_1).before args s = true
def lw_Q (_ : Array Value) (s : State) (o : Outcome) (t : State) : Prop := o = .returned (some (.int 1)) ∧ Framed s o t [] 600000 7302250
def lw_Z (below : List Frame) (a : Array Value) (s : State) : State → Prop := fun t => ∃ o, t.status = .running ∧ Ended t below o ∧ lw_Q a s o t
/-- the law's own end, with 1 on the stack, nothing written that was there before, its room as the claim has it -/
theorem lw_ret {p : Program} {l : Launch} {e : Env} {s : State} {m : MethodId} {below : List Frame} {meth : Method} {c : Code} {b : Nat} (hx : p.tables.exec = Jvm.exec) (hb : c.code = code) (hr : meth.sig.returnType = ret) (hlocks : meth.locks = false) {pc : Nat} {H : Heap} {ls : Array Slot} (hdg : decode code pc = .ok (.ireturn, 1)) : W p l e room_1 s m #[Value.ref b] below meth c H [] 600000 7302250 (lw_Z below #[Value.ref b] s) (F0 m pc ls [.int 1]) := by
  intro T hT X
  obtain ⟨fs, hret, hrun, hended, hW, hframe⟩ := X.leave (v := some (.int 1)) (hlocks := hlocks) (fun h => by rw [hr] at h; cases h)
  have hmeth' : T.vm.method? m = some meth := X.method'
  refine ⟨T.setFrames fs, ?_, .returned (some (.int 1)), hrun, hended, rfl, ⟨_, rfl⟩, hW, hframe⟩
  jvm_step X.here [X.here.top, hx, hb, hdg, hmeth', hr, ret, narrow_b1]
  (try refine ⟨rfl, ?_⟩); (try refine ⟨rfl, ?_⟩)
  first | (intro acts; rw [hret _ acts rfl rfl rfl]) | rw [hret _ _ rfl rfl rfl]
  exact Steps.refl _
/-- what holds at the law's entry: the machine, the code, the tables' words (any of lw_tbl by 'hts w (by decide +kernel)'), the script of L ints xs at the cell b, what the Statement gives of the start (any of its parts by flat_of_before) -/
def lw_At (p : Program) (s : State) (m : MethodId) (meth : Method) (c : Code) (b L : Nat) (xs : Nat → Int32) : Prop :=
  p.tables.exec = Jvm.exec ∧ c.code = code ∧ meth.sig.returnType = ret ∧ c.maxLocals = 4 ∧ s.vm.findClass R_law = some m.cls ∧ (∀ w ∈ lw_tbl, w.before #[Value.ref b] s = true) ∧ va_X b L xs s s.heap ∧ b < s.heap.size ∧ meth.locks = false ∧ (Jvm.Cond.and given_1 narrow_1).before #[Value.ref b] s = true
theorem el0 : ∀ j : Nat, j < 60 → Cond.eq (.elem (.field (.string RX8 99) "java/lang/String" "value" "[B") (.int (Int32.ofNat j))) (.int ((sByt.getD 0 []).getD j 0)) ∈ flatC (Jvm.Cond.and given_1 narrow_1) := by decide +kernel
theorem el1 : ∀ j : Nat, j < 6 → Cond.eq (.elem (.field (.string RX8 107) "java/lang/String" "value" "[B") (.int (Int32.ofNat j))) (.int ((sByt.getD 1 []).getD j 0)) ∈ flatC (Jvm.Cond.and given_1 narrow_1) := by decide +kernel
theorem nst_in : ∀ q ∈ nestL, Cond.methodLinkNest q.1 q.2.1 q.2.2.1 q.2.2.2 ∈ tables_1 := by decide +kernel
theorem nst {b : Nat} (s : State) (h : ∀ w ∈ lw_tbl, w.before #[Value.ref b] s = true) : ∀ q ∈ nestL, va_Nw (.methodLinkNest q.1 q.2.1 q.2.2.1 q.2.2.2) s := fun q hq => va_Nw.of rfl (h _ (List.mem_append_right _ (nst_in q hq)))
def rhoChk : Bool := (List.range N0).all fun k => match kL.getD k (99, 0) with
  | (0, ci) => (List.range ((vwCl.map (fun q => q.2.2)).getD ci 0)).all fun j => !isRefTy (tyOf ci j) || LL (-1) iL1 (k : Int) (j : Int) == ρ0 (k : Int) (j : Int)
  | (1, _) => true
  | (2, _) => true
  | (3, _) => true
  | (_, n) => (List.range n).all fun j => LL (-1) iL1 (k : Int) (j : Int) == ρ0 (k : Int) (j : Int)
theorem rhoChk_ok : rhoChk = true := by decide +kernel
theorem fval_ref {G : GG} {t : FieldType} {r r' f : Int} (h : isRefTy t = false ∨ r = r') : fval G t r f = fval G t r' f := by
  rcases h with h | rfl
  · cases t <;> first | rfl | cases h
  · rfl
/-- what the constructors leave is a world of the fixed layout -/
theorem hold_init {G : GG} {l2 : List (Int × Int × Int)} {H : Heap} (h : Hold G (wl 181 iL1 l2) H) : Hold G (w0 (LL 0 l2)) H := by
  refine ⟨h.1, h.2.1, fun k hk => ?_⟩
  have h1 : holdAt G (κ0 (k : Int)) (LL (-1) iL1 (k : Int)) (LL 0 l2 (k : Int)) (gb G + k) H := h.2.2 k hk
  show holdAt G (κ0 (k : Int)) (ρ0 (k : Int)) (LL 0 l2 (k : Int)) (gb G + k) H
  have h2 := List.all_eq_true.mp rhoChk_ok k (List.mem_range.mpr hk)
  have hκ : κ0 (k : Int) = kL.getD k (99, 0) := rfl
  rw [hκ] at h1 ⊢
  generalize kL.getD k (99, 0) = kd at h1 h2
  obtain ⟨t, ci⟩ := kd
  match t, h1, h2 with
  | 0, ⟨row, r1, r2⟩, h2 =>
    refine ⟨row, r1, r2.to (fun j hj => ?_)⟩
    have h3 : (vwCl.map (fun q => q.2.2)).getD ci 0 = row.2.2 := by
      have r1' : vwCl[ci]? = some row := r1
      rw [List.getD_eq_getElem?_getD, List.getElem?_map, r1']; rfl
    have h4 := List.all_eq_true.mp h2 j (List.mem_range.mpr (by rw [h3]; exact hj))
    refine fval_ref ?_
    rcases Bool.or_eq_true _ _ ▸ h4 with q | q
    · exact Or.inl (by simpa using q)
    · exact Or.inr (by simpa using q)
  | 1, h1, _ => exact h1
  | 2, h1, _ => exact h1
  | 3, h1, _ => exact h1
  | t + 4, h1, h2 =>
    have h1 : H[gb G + k]? = some (arrV (G.2.2 (t + 3)) ci (fun j => rv G (LL (-1) iL1 (k : Int) j))) := h1
    show H[gb G + k]? = some (arrV (G.2.2 (t + 3)) ci (fun j => rv G (ρ0 (k : Int) j)))
    rw [h1]
    have h2 : ((List.range ci).all fun j => LL (-1) iL1 (k : Int) (j : Int) == ρ0 (k : Int) (j : Int)) = true := h2
    congr 1
    unfold arrV
    congr 1
    apply Array.ext
    · simp
    · intro i q1 q2
      simp only [Array.getElem_ofFn]
      have h4 := List.all_eq_true.mp h2 i (List.mem_range.mpr (by simpa using q1))
      rw [beq_iff_eq.mp h4]
/-- the tables at the law's entry -/
theorem kk_start {s : State} {b : Nat} (hts0 : ∀ w ∈ lw_tbl, w.before #[Value.ref b] s = true) (hgv : (Jvm.Cond.and given_1 narrow_1).before #[Value.ref b] s = true) : ∃ (D : va_G) (cA : Nat → ClassId), KK (s.heap, D, cA) s := by
  have hts : ∀ w ∈ UW, w.before #[Value.ref b] s = true := fun w h => hts0 w (uw_tbl h)
  have hg := flat_of_before _ hgv
  have hAq : ∀ a : Nat, a < s.heap.size → ¬ (fun q : Nat => s.heap.size ≤ q) a := fun a h q => by have q : s.heap.size ≤ a := q; omega
  obtain ⟨c0, iS0, hK0⟩ := u_known (C := RX0) (T := TX0) (N := 8) (n := 8) hts cf0.2.2.2 (hts (.instantiable RX0 8) (uw_in tb_30 rfl))
  obtain ⟨c1, iS1, hK1⟩ := u_known (C := RX1) (T := TX1) (N := 6) (n := 6) hts cf1.2.2.2 (hts (.instantiable RX1 6) (uw_in tb_191 rfl))
  obtain ⟨c2, iS2, hK2⟩ := u_known (C := RX2) (T := TX2) (N := 5) (n := 5) hts cf2.2.2.2 (hts (.instantiable RX2 5) (uw_in tb_264 rfl))
  obtain ⟨c3, iS3, hK3⟩ := u_known (C := RX3) (T := TX3) (N := 6) (n := 6) hts cf3.2.2.2 (hts (.instantiable RX3 6) (uw_in tb_140 rfl))
  obtain ⟨c4, iS4, hK4⟩ := u_known (C := RX4) (T := TX4) (N := 4) (n := 4) hts cf4.2.2.2 (hts (.instantiable RX4 4) (uw_in tb_146 rfl))
  obtain ⟨c5, iS5, hK5⟩ := u_known (C := RX5) (T := TX5) (N := 11) (n := 11) hts cf5.2.2.2 (hts (.instantiable RX5 11) (uw_in tb_258 rfl))
  obtain ⟨c6, iS6, hK6⟩ := u_known (C := RX6) (T := TX6) (N := 3) (n := 3) hts cf6.2.2.2 (hts (.instantiable RX6 3) (uw_in tb_365 rfl))
  obtain ⟨c7, iS7, hK7⟩ := u_known (C := RX7) (T := TX7) (N := 13) (n := 13) hts cf7.2.2.2 (hts (.instantiable RX7 13) (uw_in tb_84 rfl))
  obtain ⟨c8, iS8, hK8⟩ := u_known (C := RX8) (T := TX8) (N := 8) (n := 8) hts cf8.2.2.2 (hts (.instantiable RX8 8) (uw_in tb_221 rfl))
  obtain ⟨c9, iS9, hK9⟩ := u_known (C := RX9) (T := TX9) (N := 4) (n := 4) hts cf9.2.2.2 (hts (.instantiable RX9 4) (uw_in tb_291 rfl))
  obtain ⟨c10, iS10, hK10⟩ := u_known (C := RX10) (T := TX10) (N := 14) (n := 14) hts cf10.2.2.2 (hts (.instantiable RX10 14) (uw_in tb_22 rfl))
  obtain ⟨c11, iS11, hK11⟩ := u_known (C := RX11) (T := TX11) (N := 59) (n := 59) hts cf11.2.2.2 (hts (.instantiable RX11 59) (uw_in tb_1076 rfl))
  obtain ⟨D, hKc⟩ : ∃ D : va_G, ∀ (k : Nat) (q : vw_C), vwCl[k]? = some q → u_Kn s q.1 q.2.1 q.2.2 (D.1 k) (D.2 k) := by
    refine ⟨(fun k => if k = 0 then c0 else if k = 1 then c1 else if k = 2 then c2 else if k = 3 then c3 else if k = 4 then c4 else if k = 5 then c5 else if k = 6 then c6 else if k = 7 then c7 else if k = 8 then c8 else if k = 9 then c9 else if k = 10 then c10 else c11, fun k => if k = 0 then iS0 else if k = 1 then iS1 else if k = 2 then iS2 else if k = 3 then iS3 else if k = 4 then iS4 else if k = 5 then iS5 else if k = 6 then iS6 else if k = 7 then iS7 else if k = 8 then iS8 else if k = 9 then iS9 else if k = 10 then iS10 else iS11), ?_⟩
    intro k q hq
    match k, hq with
    | 0, hq => cases hq; exact hK0
    | 1, hq => cases hq; exact hK1
    | 2, hq => cases hq; exact hK2
    | 3, hq => cases hq; exact hK3
    | 4, hq => cases hq; exact hK4
    | 5, hq => cases hq; exact hK5
    | 6, hq => cases hq; exact hK6
    | 7, hq => cases hq; exact hK7
    | 8, hq => cases hq; exact hK8
    | 9, hq => cases hq; exact hK9
    | 10, hq => cases hq; exact hK10
    | 11, hq => cases hq; exact hK11
    | k + 12, hq => simp [vwCl] at hq
  obtain ⟨a0, k0, m0, p0, q0, r0⟩ := Cond.arrayClass_spec (hts (.arrayClass .int) (uw_in tb_82 rfl))
  obtain ⟨a1, k1, m1, p1, q1, r1⟩ := Cond.arrayClass_spec (hts (.arrayClass .long) (uw_in tb_219 rfl))
  obtain ⟨a2, k2, m2, p2, q2, r2⟩ := Cond.arrayClass_spec (hts (.arrayClass .boolean) (uw_in tb_138 rfl))
  have o3 : (Cond.arrayOver (.object RX5)).before #[Value.ref b] s = true := hts0 _ (List.mem_append_right _ (List.mem_of_getElem? (i := 255) (by decide +kernel)))
  obtain ⟨m3, a3, k3, t3, -, q3, r3, p3⟩ := Cond.arrayOver_spec o3
  have o4 : (Cond.arrayOver (.object RX6)).before #[Value.ref b] s = true := hts0 _ (List.mem_append_right _ (List.mem_of_getElem? (i := 257) (by decide +kernel)))
  obtain ⟨m4, a4, k4, t4, -, q4, r4, p4⟩ := Cond.arrayOver_spec o4
  have o5 : (Cond.arrayOver (.object RX9)).before #[Value.ref b] s = true := hts0 _ (List.mem_append_right _ (List.mem_of_getElem? (i := 290) (by decide +kernel)))
  obtain ⟨m5, a5, k5, t5, -, q5, r5, p5⟩ := Cond.arrayOver_spec o5
  have tm0 : (Cond.stringRef RX8 99 "worth left  room  rank  paid  numberby    if    and   drop  ").before #[Value.ref b] s = true := hts0 _ (List.mem_append_right _ (List.mem_of_getElem? (i := 545) (by decide +kernel)))
  have tm1 : (Cond.stringRef RX8 107 "+-,<>;").before #[Value.ref b] s = true := hts0 _ (List.mem_append_right _ (List.mem_of_getElem? (i := 601) (by decide +kernel)))
  have two : ∀ {P : Nat → Prop}, P 0 → P 1 → ∀ i : Nat, i < 2 → P i := fun h0 h1 i hi => by
    match i, hi with
    | 0, _ => exact h0
    | 1, _ => exact h1
  obtain ⟨adK, adV, hS, hE⟩ := vk_Sof (args := #[Value.ref b]) (s := s) (N := 2) (tm := fun i => if i = 0 then .string RX8 99 else .string RX8 107) (len := sLen) (byt := sByt) (A := fun q => s.heap.size ≤ q) (by decide)
    (two (hg _ (by decide +kernel)) (hg _ (by decide +kernel))) (two (hg _ (by decide +kernel)) (hg _ (by decide +kernel))) (two (hg _ (by decide +kernel)) (hg _ (by decide +kernel))) (two (hg _ (by decide +kernel)) (hg _ (by decide +kernel)))
    (two (fun j hj => hg _ (el0 j hj)) (fun j hj => hg _ (el1 j hj)))
    (fun i j hi hj hne => by
      match i, j, hi, hj with
      | 0, 0, _, _ => exact absurd rfl hne
      | 1, 1, _, _ => exact absurd rfl hne
      | 0, 1, _, _ => exact Or.inl (hg _ (by decide +kernel))
      | 1, 0, _, _ => exact Or.inr (hg _ (by decide +kernel))) hAq
  have zc := va_Zof (C := "java/lang/String") (n := "COMPACT_STRINGS") (d := "Z") (v := .int 1) (A := fun q => s.heap.size ≤ q) (hts0 (.laysStatic "java/lang/String" "COMPACT_STRINGS" "Z") (List.mem_append_right _ (List.mem_of_getElem? (i := 555) (by decide +kernel)))) (hts (.initialized "java/lang/String") (uw_in tb_14 rfl)) (va_eqt (hg (.eq (.static "java/lang/String" "COMPACT_STRINGS" "Z") (.int 1)) (by decide +kernel))) hAq
  obtain ⟨fm, hf1, hf2⟩ := Cond.isRef_spec (hg (.isRef (.static "jdk/internal/util/Preconditions" "SIOOBE_FORMATTER" "Ljava/util/function/BiFunction;")) (by decide +kernel))
  have zf := va_Zof (C := "jdk/internal/util/Preconditions") (n := "SIOOBE_FORMATTER") (d := "Ljava/util/function/BiFunction;") (v := fm) (A := fun q => s.heap.size ≤ q) (hts0 (.laysStatic "jdk/internal/util/Preconditions" "SIOOBE_FORMATTER" "Ljava/util/function/BiFunction;") (List.mem_append_right _ (List.mem_of_getElem? (i := 563) (by decide +kernel)))) (hts (.initialized "jdk/internal/util/Preconditions") (uw_in tb_16 rfl)) hf1 hAq
  have hfm : fm = .null ∨ ∃ a, fm = .ref a := by
    cases fm <;> first | exact Or.inl rfl | exact Or.inr ⟨_, rfl⟩ | (simp [Value.isRef] at hf2)
  refine ⟨D, fun i => if i = 0 then a0 else if i = 1 then a1 else if i = 2 then a2 else if i = 3 then a3 else if i = 4 then a4 else if i = 5 then a5 else if i = 10 then adK 0 else if i = 11 then adK 1 else if i = 20 then adV 0 else adV 1, ⟨hKc, ?_⟩, ⟨fm, ?_, ?_, ?_, zc, zf, hfm⟩, ?_, va_AO.of o3, va_AO.of o4, va_AO.of o5⟩
  · intro k q hq
    match k, hq with
    | 0, hq => cases hq; exact ⟨fun n z => ⟨fun k h => (by cases h), k0, q0, m0, r0⟩, p0⟩
    | 1, hq => cases hq; exact ⟨fun n z => ⟨fun k h => (by cases h), k1, q1, m1, r1⟩, p1⟩
    | 2, hq => cases hq; exact ⟨fun n z => ⟨fun k h => (by cases h), k2, q2, m2, r2⟩, p2⟩
    | 3, hq => cases hq; exact ⟨fun n z => ⟨fun k h => (by cases h), k3, q3, m3, r3⟩, k3, m3, q3, r3, t3, p3⟩
    | 4, hq => cases hq; exact ⟨fun n z => ⟨fun k h => (by cases h), k4, q4, m4, r4⟩, k4, m4, q4, r4, t4, p4⟩
    | 5, hq => cases hq; exact ⟨fun n z => ⟨fun k h => (by cases h), k5, q5, m5, r5⟩, k5, m5, q5, r5, t5, p5⟩
    | k + 6, hq => simp at hq
  · exact ⟨two (hS.1 0 (by decide)) (hS.1 1 (by decide)), fun i j hi hj e => by
      match i, j, hi, hj with
      | 0, 0, _, _ => rfl
      | 1, 1, _, _ => rfl
      | 0, 1, _, _ => exact absurd (hS.2 0 1 (by decide) (by decide) e) (by decide)
      | 1, 0, _, _ => exact absurd (hS.2 1 0 (by decide) (by decide) e) (by decide)⟩
  · exact vk_R.of tm0 (hE 0 (by decide))
  · exact vk_R.of tm1 (hE 1 (by decide))
  · intro q hq
    exact nst s (fun w hw => hts0 w hw) q hq
set_option maxRecDepth 100000 in
set_option maxHeartbeats 4000000 in
theorem whole_open (F : Nat) {Inv : Nat → St → Prop} (S : Spec F Inv) (hKi : ∀ n σ, Inv n σ → Inv (n + 1) σ) (h0 : Inv 0 (LL 0 iL2)) {p : Program} {e : Env} {s : State} {m : MethodId} {below : List Frame} {meth : Method} {c : Code} (l : Launch) {b L : Nat} {xs : Nat → Int32} (hL : L ≤ 2048) (C0 : lw_At p s m meth c b L xs) : W p l e room_1 s m #[Value.ref b] below meth c s.heap [] 0 0 (lw_Z below #[Value.ref b] s) (entryFrame m ([Value.ref b] : List Value).toArray 4) := by
  obtain ⟨hx, hb, hr, hml, hown, hts0, hX, hbl, hlocks, hgv⟩ := C0
  obtain ⟨D, cA, hKK⟩ := kk_start hts0 hgv
  have hts : ∀ w ∈ UW, w.before #[Value.ref b] s = true := fun w h => hts0 w (uw_tbl h)
  have hl := lv_entry ([.ref b]) (n := 4) (Nat.le_of_ble_eq_true rfl)
  rw [lg_entry_eq]
  have main : ∀ (G : GG) (X : MX), G = (s.heap, D, cA) → X = (p, l, e, room_1, s, m, #[Value.ref b], below, meth, c) → ZZ X G 4 (fun _ : Unit => lw_Z below #[Value.ref b] s) (0, 0) (some ()) (wl 0 [] []) 0 [(0, .ref b)] [] := by
    intro G X hG hXe
    have C : CX X G 4 cL_law RL := by subst hXe; subst hG; exact ⟨hx, hb, hml, hown, hts, hKK⟩
    have hR : mR X = room_1 := by subst hXe; rfl
    have hX' : va_X b L xs (mS X) G.1 := by subst hXe; subst hG; exact hX
    have hbl' : b < gb G := by subst hG; exact hbl
    have f1 : frs 0 [] := fun e he => by cases he
    have f2 : frs 0 [] := fun e he => by cases he
    refine c_new C hR cf10 rfl (uw_in tb_21 rfl) (uw_in tb_22 rfl) (uw_in tb_1 rfl) f1 f2 (by decide) dL_law_0 3 rfl (k := 0) rfl ?_
    refine zn (1, 14) rfl 1 rfl ?_
    have f1 := frs_m f1 (show 0 ≤ 1 by decide)
    have f2 := frs_m f2 (show 0 ≤ 1 by decide)
    refine z_dup C rfl dL_law_3 4 rfl ?_
    refine c_callI C hR (ti_0 (mL X) G _ _ f1 f2) mwX10_init miX10_init rfl (Or.inl lkL_9) rfl rfl (Nat.le_of_ble_eq_true rfl) (by decide) (by decide) dL_law_4 7 rfl ?_
    refine zn (143, 10532) rfl 143 rfl ?_
    refine z_astore_n (lv' := [(1, vr G 0), (0, .ref b)]) C 1 rfl (by decide) dL_law_7 8 rfl rfl ?_
    have f1 := frs_dec iE1 143 rfl
    have f2 := frs_dec iE2 143 rfl
    refine c_new C hR cf11 rfl (uw_in tb_1075 rfl) (uw_in tb_1076 rfl) (uw_in tb_13 rfl) f1 f2 (by decide) dL_law_8 11 rfl (k := 143) rfl ?_
    refine zn (144, 10532 + 59) rfl 144 rfl ?_
    have f1 := frs_m f1 (show 143 ≤ 144 by decide)
    have f2 := frs_m f2 (show 143 ≤ 144 by decide)
    refine z_dup C rfl dL_law_11 12 rfl ?_
    refine c_callI C hR (ti_143 (mL X) G _ _ f1 f2) mwX11_init miX11_init rfl (Or.inl lkL_12) rfl rfl (Nat.le_of_ble_eq_true rfl) (by decide) (by decide) dL_law_12 15 rfl ?_
    refine zn (181, 21341) rfl 181 rfl ?_
    refine z_astore_n (lv' := [(2, vr G 143), (1, vr G 0), (0, .ref b)]) C 2 rfl (by decide) dL_law_15 16 rfl rfl ?_
    refine z_iconst C dL_law_16 17 rfl ?_
    refine z_istore_n (lv' := [(3, vi 0), (2, vr G 143), (1, vr G 0), (0, .ref b)]) C 3 rfl (by decide) dL_law_17 18 rfl rfl ?_
    refine z_lv (lv' := [(0, .ref b), (1, vr G 0), (2, vr G 143), (3, vi 0)]) [3, 2, 1, 0] rfl ?_
    have lp := law_loop C hR (Qz := fun _ : Unit => lw_Z below #[Value.ref b] s) hL hX' hbl' F S hKi (fun σ i => ?_) (L + 8) 0 0 (LL 0 iL2) h0 rfl (by omega) (by omega)
    · intro z hz H locs ls hH hlo hlv
      exact lp z hz H locs ls (hold_init hH) hlo hlv
    · refine z_iconst C dL_law_1265 1266 rfl ?_
      intro z hz H locs ls hH hlo hlv
      subst hXe
      refine va_forget (fun q hq => by have := hlo q hq; subst hG; exact this) ?_
      refine W.widen (k := 600000) (n := 7302250) (by decide) (by decide) ?_
      exact lw_ret hx hb hr hlocks dL_law_1266
  refine main (s.heap, D, cA) (p, l, e, room_1, s, m, #[Value.ref b], below, meth, c) rfl rfl () rfl s.heap [] _ ⟨rfl, fun q hq => rfl, fun k hk => absurd hk (Nat.not_lt_zero k)⟩ (fun q hq => by cases hq) ?_
  exact hl
