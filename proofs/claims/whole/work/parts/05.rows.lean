abbrev MX := Program × Launch × Env × Room × State × MethodId × Array Value × List Frame × Method × Code
abbrev mP (X : MX) : Program := X.1
abbrev mL (X : MX) : Launch := X.2.1
abbrev mE (X : MX) : Env := X.2.2.1
abbrev mR (X : MX) : Room := X.2.2.2.1
abbrev mS (X : MX) : State := X.2.2.2.2.1
abbrev mM (X : MX) : MethodId := X.2.2.2.2.2.1
abbrev mA (X : MX) : Array Value := X.2.2.2.2.2.2.1
abbrev mB (X : MX) : List Frame := X.2.2.2.2.2.2.2.1
abbrev mH (X : MX) : Method := X.2.2.2.2.2.2.2.2.1
abbrev mC (X : MX) : Code := X.2.2.2.2.2.2.2.2.2
abbrev WX (X : MX) (H : Heap) (locs : List Loc) (cn : Nat × Nat) (Q : State → Prop) (g : JFrame) : Prop := W (mP X) (mL X) (mE X) (mR X) (mS X) (mM X) (mA X) (mB X) (mH X) (mC X) H locs cn.1 cn.2 Q g
/-- what stands in a method's body all along -/
def CX (X : MX) (G : GG) (nL : Nat) (cc : ByteArray) (own : String) : Prop :=
  (mP X).tables.exec = Jvm.exec ∧ (mC X).code = cc ∧ (mC X).maxLocals = nL ∧ (mS X).vm.findClass own = some (mM X).cls ∧ (∀ w ∈ UW, w.before (mA X) (mS X) = true) ∧ KK G (mS X)
/-- the machine at pc with these locals, this stack, this world comes to an end as o tells, if o tells one -/
def ZZ (X : MX) (G : GG) (nL : Nat) {T : Type} (Qz : T → State → Prop) (cn : Nat × Nat) (o : Option T) (w : WD) (pc : Nat) (lv : List (Nat × Value)) (st : List Value) : Prop :=
  ∀ z, o = some z → ∀ (H : Heap) (locs : List Loc) (ls : Array Slot), Hold G w H → (∀ q ∈ locs, gb G ≤ q.base) → lv_has ls nL lv → WX X H locs cn (Qz z) (F0 (mM X) pc ls st)
theorem w32_0 : w32 0 = 0 := by decide
section ZROWS
variable {X : MX} {G : GG} {nL : Nat} {T : Type} {Qz : T → State → Prop} {cn : Nat × Nat} {o o1 o2 : Option T} {w : WD} {pc : Nat} {lv : List (Nat × Value)} {st : List Value} {cc : ByteArray} {own : String} {a b : Int} {k : Int}
theorem z_gd {c : Prop} {hc : Decidable c} (h : c → ZZ X G nL Qz cn o w pc lv st) : ZZ X G nL Qz cn (gd c o) w pc lv st := by
  intro z hz
  unfold gd at hz
  split at hz
  · rename_i h1
    exact h h1 z hz
  · cases hz
theorem z_none : ZZ X G nL Qz cn none w pc lv st := fun z hz => by cases hz
theorem z_ite {c : Prop} {hc : Decidable c} (h1 : c → ZZ X G nL Qz cn o1 w pc lv st) (h2 : ¬ c → ZZ X G nL Qz cn o2 w pc lv st) : ZZ X G nL Qz cn (if c then o1 else o2) w pc lv st := by
  split
  · rename_i h; exact h1 h
  · rename_i h; exact h2 h
theorem z_bind {T2 : Type} {f : T2 → Option T} {q : Option T2} (h : ∀ r, q = some r → ZZ X G nL Qz cn (f r) w pc lv st) : ZZ X G nL Qz cn (q.bind f) w pc lv st := by
  intro z hz
  obtain ⟨r, h1, h2⟩ := Option.bind_eq_some_iff.mp hz
  exact h r h1 z h2
theorem z_iconst (C : CX X G nL cc own) {n : Int} (hd : decode cc pc = .ok (.iconst n, 1)) (pn : Nat) (hn : pc + 1 = pn) (n : ZZ X G nL Qz cn o w pn lv (vi n :: st)) : ZZ X G nL Qz cn o w pc lv (st) := by
  subst hn
  intro z hz H locs ls hH hl hv
  exact lv_iconst C.1 C.2.1 hd rfl (n z hz H locs ls hH hl hv)
theorem z_bipush (C : CX X G nL cc own) {n : Int} (he : (Int8.ofInt n).toInt32 = i32 n) (hd : decode cc pc = .ok (.bipush n, 2)) (pn : Nat) (hn : pc + 2 = pn) (n : ZZ X G nL Qz cn o w pn lv (vi n :: st)) : ZZ X G nL Qz cn o w pc lv (st) := by
  subst hn
  intro z hz H locs ls hH hl hv
  exact lv_bipush C.1 C.2.1 hd he (n z hz H locs ls hH hl hv)
theorem z_sipush (C : CX X G nL cc own) {n : Int} (he : (Int16.ofInt n).toInt32 = i32 n) (hd : decode cc pc = .ok (.sipush n, 3)) (pn : Nat) (hn : pc + 3 = pn) (n : ZZ X G nL Qz cn o w pn lv (vi n :: st)) : ZZ X G nL Qz cn o w pc lv (st) := by
  subst hn
  intro z hz H locs ls hH hl hv
  exact lv_sipush C.1 C.2.1 hd he (n z hz H locs ls hH hl hv)
theorem z_lconst (C : CX X G nL cc own) {n : Fin 2} {v : Int} (he : Int64.ofNat (n : Nat) = i64 v) (hd : decode cc pc = .ok (.lconst n, 1)) (pn : Nat) (hn : pc + 1 = pn) (n : ZZ X G nL Qz cn o w pn lv (vl v :: st)) : ZZ X G nL Qz cn o w pc lv (st) := by
  subst hn
  intro z hz H locs ls hH hl hv
  exact lv_lconst C.1 C.2.1 hd he (n z hz H locs ls hH hl hv)
theorem z_ldc2 (C : CX X G nL cc own) {index : Nat} {u : Int64} {v : Int} (hw : Cond.constantLong own index u ∈ UW) (he : u = i64 v) (hd : decode cc pc = .ok (.ldc2_w index, 3)) (pn : Nat) (hn : pc + 3 = pn) (n : ZZ X G nL Qz cn o w pn lv (vl v :: st)) : ZZ X G nL Qz cn o w pc lv (st) := by
  subst hn
  intro z hz H locs ls hH hl hv
  subst he
  exact lv_ldc2 C.1 C.2.1 C.2.2.2.1 (C.2.2.2.2.1 _ hw) hd (n z hz H locs ls hH hl hv)
theorem z_iload_n (C : CX X G nL cc own) {q : Fin 4} (i : Nat) (hi : (q : Nat) = i) (p : Nat) (hp : lv[p]? = some (i, vi a)) (hd : decode cc pc = .ok (.iload_n q, 1)) (pn : Nat) (hn : pc + 1 = pn) (n : ZZ X G nL Qz cn o w pn lv (vi a :: st)) : ZZ X G nL Qz cn o w pc lv (st) := by
  subst hn
  intro z hz H locs ls hH hl hv
  exact lv_iload_n C.1 C.2.1 hd hi (lv_at hv p hp) (n z hz H locs ls hH hl hv)
theorem z_iload (C : CX X G nL cc own) {i : Nat} (p : Nat) (hp : lv[p]? = some (i, vi a)) (hd : decode cc pc = .ok (.iload i, 2)) (pn : Nat) (hn : pc + 2 = pn) (n : ZZ X G nL Qz cn o w pn lv (vi a :: st)) : ZZ X G nL Qz cn o w pc lv (st) := by
  subst hn
  intro z hz H locs ls hH hl hv
  exact lv_iload C.1 C.2.1 hd (lv_at hv p hp) (n z hz H locs ls hH hl hv)
theorem z_lload_n (C : CX X G nL cc own) {q : Fin 4} (i : Nat) (hi : (q : Nat) = i) (p : Nat) (hp : lv[p]? = some (i, vl a)) (hd : decode cc pc = .ok (.lload_n q, 1)) (pn : Nat) (hn : pc + 1 = pn) (n : ZZ X G nL Qz cn o w pn lv (vl a :: st)) : ZZ X G nL Qz cn o w pc lv (st) := by
  subst hn
  intro z hz H locs ls hH hl hv
  exact lv_lload_n C.1 C.2.1 hd hi (lv_at hv p hp) (n z hz H locs ls hH hl hv)
theorem z_lload (C : CX X G nL cc own) {i : Nat} (p : Nat) (hp : lv[p]? = some (i, vl a)) (hd : decode cc pc = .ok (.lload i, 2)) (pn : Nat) (hn : pc + 2 = pn) (n : ZZ X G nL Qz cn o w pn lv (vl a :: st)) : ZZ X G nL Qz cn o w pc lv (st) := by
  subst hn
  intro z hz H locs ls hH hl hv
  exact lv_lload C.1 C.2.1 hd (lv_at hv p hp) (n z hz H locs ls hH hl hv)
theorem z_aload_n (C : CX X G nL cc own) {q : Fin 4} (i : Nat) (hi : (q : Nat) = i) (p : Nat) (hp : lv[p]? = some (i, vr G k)) (hd : decode cc pc = .ok (.aload_n q, 1)) (pn : Nat) (hn : pc + 1 = pn) (n : ZZ X G nL Qz cn o w pn lv (vr G k :: st)) : ZZ X G nL Qz cn o w pc lv (st) := by
  subst hn
  intro z hz H locs ls hH hl hv
  exact lv_aload_n C.1 C.2.1 hd hi (lv_at hv p hp) (n z hz H locs ls hH hl hv)
theorem z_aload (C : CX X G nL cc own) {i : Nat} (p : Nat) (hp : lv[p]? = some (i, vr G k)) (hd : decode cc pc = .ok (.aload i, 2)) (pn : Nat) (hn : pc + 2 = pn) (n : ZZ X G nL Qz cn o w pn lv (vr G k :: st)) : ZZ X G nL Qz cn o w pc lv (st) := by
  subst hn
  intro z hz H locs ls hH hl hv
  exact lv_aload C.1 C.2.1 hd (lv_at hv p hp) (n z hz H locs ls hH hl hv)
theorem z_istore_n (C : CX X G nL cc own) {q : Fin 4} (i : Nat) (hi : (q : Nat) = i) (hb : i < nL) {lv' : List (Nat × Value)} (hd : decode cc pc = .ok (.istore_n q, 1)) (pn : Nat) (hn : pc + 1 = pn) (hl' : (i, vi a) :: lv.filter (fun q => !(q.1 == i) && !(q.1 + 1 == i && q.2.category == 2)) = lv') (n : ZZ X G nL Qz cn o w pn lv' st) : ZZ X G nL Qz cn o w pc lv (vi a :: st) := by
  subst hn
  intro z hz H locs ls hH hl hv
  exact lv_istore_n C.1 C.2.1 hd hi hv hb hl' (fun ls hv => n z hz H locs ls hH hl hv)
theorem z_istore (C : CX X G nL cc own) {i : Nat} (hb : i < nL) {lv' : List (Nat × Value)} (hd : decode cc pc = .ok (.istore i, 2)) (pn : Nat) (hn : pc + 2 = pn) (hl' : (i, vi a) :: lv.filter (fun q => !(q.1 == i) && !(q.1 + 1 == i && q.2.category == 2)) = lv') (n : ZZ X G nL Qz cn o w pn lv' st) : ZZ X G nL Qz cn o w pc lv (vi a :: st) := by
  subst hn
  intro z hz H locs ls hH hl hv
  exact lv_istore C.1 C.2.1 hd hv hb hl' (fun ls hv => n z hz H locs ls hH hl hv)
theorem z_lstore_n (C : CX X G nL cc own) {q : Fin 4} (i : Nat) (hi : (q : Nat) = i) (hb : i + 1 < nL) {lv' : List (Nat × Value)} (hd : decode cc pc = .ok (.lstore_n q, 1)) (pn : Nat) (hn : pc + 1 = pn) (hl' : (i, vl a) :: lv.filter (fun q => !(q.1 == i) && (!(q.1 == i + 1) && !(q.1 + 1 == i && q.2.category == 2))) = lv') (n : ZZ X G nL Qz cn o w pn lv' st) : ZZ X G nL Qz cn o w pc lv (vl a :: st) := by
  subst hn
  intro z hz H locs ls hH hl hv
  exact lv_lstore_n C.1 C.2.1 hd hi hv hb hl' (fun ls hv => n z hz H locs ls hH hl hv)
theorem z_lstore (C : CX X G nL cc own) {i : Nat} (hb : i + 1 < nL) {lv' : List (Nat × Value)} (hd : decode cc pc = .ok (.lstore i, 2)) (pn : Nat) (hn : pc + 2 = pn) (hl' : (i, vl a) :: lv.filter (fun q => !(q.1 == i) && (!(q.1 == i + 1) && !(q.1 + 1 == i && q.2.category == 2))) = lv') (n : ZZ X G nL Qz cn o w pn lv' st) : ZZ X G nL Qz cn o w pc lv (vl a :: st) := by
  subst hn
  intro z hz H locs ls hH hl hv
  exact lv_lstore C.1 C.2.1 hd hv hb hl' (fun ls hv => n z hz H locs ls hH hl hv)
theorem z_astore_n (C : CX X G nL cc own) {q : Fin 4} (i : Nat) (hi : (q : Nat) = i) (hb : i < nL) {lv' : List (Nat × Value)} (hd : decode cc pc = .ok (.astore_n q, 1)) (pn : Nat) (hn : pc + 1 = pn) (hl' : (i, vr G k) :: lv.filter (fun q => !(q.1 == i) && !(q.1 + 1 == i && q.2.category == 2)) = lv') (n : ZZ X G nL Qz cn o w pn lv' st) : ZZ X G nL Qz cn o w pc lv (vr G k :: st) := by
  subst hn
  intro z hz H locs ls hH hl hv
  exact lv_astore_n C.1 C.2.1 hd hi hv hb hl' (fun ls hv => n z hz H locs ls hH hl hv)
theorem z_astore (C : CX X G nL cc own) {i : Nat} (hb : i < nL) {lv' : List (Nat × Value)} (hd : decode cc pc = .ok (.astore i, 2)) (pn : Nat) (hn : pc + 2 = pn) (hl' : (i, vr G k) :: lv.filter (fun q => !(q.1 == i) && !(q.1 + 1 == i && q.2.category == 2)) = lv') (n : ZZ X G nL Qz cn o w pn lv' st) : ZZ X G nL Qz cn o w pc lv (vr G k :: st) := by
  subst hn
  intro z hz H locs ls hH hl hv
  exact lv_astore C.1 C.2.1 hd hv hb hl' (fun ls hv => n z hz H locs ls hH hl hv)
theorem z_iinc (C : CX X G nL cc own) {i : Nat} {d : Int} (hb : i < nL) (p : Nat) (hp : lv[p]? = some (i, vi a)) {lv' : List (Nat × Value)} (hd : decode cc pc = .ok (.iinc i d, 3)) (pn : Nat) (hn : pc + 3 = pn) (hl' : (i, vi (a + d)) :: lv.filter (fun q => !(q.1 == i) && !(q.1 + 1 == i && q.2.category == 2)) = lv') (n : ZZ X G nL Qz cn o w pn lv' st) : ZZ X G nL Qz cn o w pc lv st := by
  subst hn
  intro z hz H locs ls hH hl hv
  exact lv_iinc C.1 C.2.1 hd hv hp (i32_add a d) hb hl' (fun ls hv => n z hz H locs ls hH hl hv)
theorem z_lv (ks : List Nat) {lv' : List (Nat × Value)} (h : lv_pick lv ks = lv') (n : ZZ X G nL Qz cn o w pc lv' st) : ZZ X G nL Qz cn o w pc lv st := fun z hz H locs ls hH hl hv => n z hz H locs ls hH hl (lv_sub hv ks h)
theorem z_iadd (C : CX X G nL cc own) (hd : decode cc pc = .ok (.iadd, 1)) (pn : Nat) (hn : pc + 1 = pn) (n : ZZ X G nL Qz cn o w pn lv (vi (a + b) :: st)) : ZZ X G nL Qz cn o w pc lv (vi b :: vi a :: st) := by
  subst hn
  intro z hz H locs ls hH hl hv
  refine lv_iadd C.1 C.2.1 hd ?_
  have h := n z hz H locs ls hH hl hv
  unfold vi at h
  rwa [← i32_add] at h
theorem z_ladd (C : CX X G nL cc own) (hd : decode cc pc = .ok (.ladd, 1)) (pn : Nat) (hn : pc + 1 = pn) (n : ZZ X G nL Qz cn o w pn lv (vl (a + b) :: st)) : ZZ X G nL Qz cn o w pc lv (vl b :: vl a :: st) := by
  subst hn
  intro z hz H locs ls hH hl hv
  refine lv_ladd C.1 C.2.1 hd ?_
  have h := n z hz H locs ls hH hl hv
  unfold vl at h
  rwa [← i64_add] at h
theorem z_isub (C : CX X G nL cc own) (hd : decode cc pc = .ok (.isub, 1)) (pn : Nat) (hn : pc + 1 = pn) (n : ZZ X G nL Qz cn o w pn lv (vi (a - b) :: st)) : ZZ X G nL Qz cn o w pc lv (vi b :: vi a :: st) := by
  subst hn
  intro z hz H locs ls hH hl hv
  refine lv_isub C.1 C.2.1 hd ?_
  have h := n z hz H locs ls hH hl hv
  unfold vi at h
  rwa [← i32_sub] at h
theorem z_lsub (C : CX X G nL cc own) (hd : decode cc pc = .ok (.lsub, 1)) (pn : Nat) (hn : pc + 1 = pn) (n : ZZ X G nL Qz cn o w pn lv (vl (a - b) :: st)) : ZZ X G nL Qz cn o w pc lv (vl b :: vl a :: st) := by
  subst hn
  intro z hz H locs ls hH hl hv
  refine lv_lsub C.1 C.2.1 hd ?_
  have h := n z hz H locs ls hH hl hv
  unfold vl at h
  rwa [← i64_sub] at h
theorem z_imul (C : CX X G nL cc own) (hd : decode cc pc = .ok (.imul, 1)) (pn : Nat) (hn : pc + 1 = pn) (n : ZZ X G nL Qz cn o w pn lv (vi (a * b) :: st)) : ZZ X G nL Qz cn o w pc lv (vi b :: vi a :: st) := by
  subst hn
  intro z hz H locs ls hH hl hv
  refine lv_imul C.1 C.2.1 hd ?_
  have h := n z hz H locs ls hH hl hv
  unfold vi at h
  rwa [← i32_mul] at h
theorem z_lmul (C : CX X G nL cc own) (hd : decode cc pc = .ok (.lmul, 1)) (pn : Nat) (hn : pc + 1 = pn) (n : ZZ X G nL Qz cn o w pn lv (vl (a * b) :: st)) : ZZ X G nL Qz cn o w pc lv (vl b :: vl a :: st) := by
  subst hn
  intro z hz H locs ls hH hl hv
  refine lv_lmul C.1 C.2.1 hd ?_
  have h := n z hz H locs ls hH hl hv
  unfold vl at h
  rwa [← i64_mul] at h
theorem z_iand (C : CX X G nL cc own) (hd : decode cc pc = .ok (.iand, 1)) (pn : Nat) (hn : pc + 1 = pn) (n : ZZ X G nL Qz cn o w pn lv (vi (iand a b) :: st)) : ZZ X G nL Qz cn o w pc lv (vi b :: vi a :: st) := by
  subst hn
  intro z hz H locs ls hH hl hv
  refine lv_iand C.1 C.2.1 hd ?_
  have h := n z hz H locs ls hH hl hv
  unfold vi at h
  unfold iand at h
  rwa [i32_toInt] at h
theorem z_ior (C : CX X G nL cc own) (hd : decode cc pc = .ok (.ior, 1)) (pn : Nat) (hn : pc + 1 = pn) (n : ZZ X G nL Qz cn o w pn lv (vi (ior a b) :: st)) : ZZ X G nL Qz cn o w pc lv (vi b :: vi a :: st) := by
  subst hn
  intro z hz H locs ls hH hl hv
  refine lv_ior C.1 C.2.1 hd ?_
  have h := n z hz H locs ls hH hl hv
  unfold vi at h
  unfold ior at h
  rwa [i32_toInt] at h
theorem z_ishl (C : CX X G nL cc own) (hd : decode cc pc = .ok (.ishl, 1)) (pn : Nat) (hn : pc + 1 = pn) (n : ZZ X G nL Qz cn o w pn lv (vi (ishl a b) :: st)) : ZZ X G nL Qz cn o w pc lv (vi b :: vi a :: st) := by
  subst hn
  intro z hz H locs ls hH hl hv
  refine lv_ishl C.1 C.2.1 hd ?_
  have h := n z hz H locs ls hH hl hv
  unfold vi at h
  unfold ishl at h
  rwa [i32_toInt] at h
theorem z_ishr (C : CX X G nL cc own) (hd : decode cc pc = .ok (.ishr, 1)) (pn : Nat) (hn : pc + 1 = pn) (n : ZZ X G nL Qz cn o w pn lv (vi (ishr a b) :: st)) : ZZ X G nL Qz cn o w pc lv (vi b :: vi a :: st) := by
  subst hn
  intro z hz H locs ls hH hl hv
  refine lv_ishr C.1 C.2.1 hd ?_
  have h := n z hz H locs ls hH hl hv
  unfold vi at h
  unfold ishr at h
  rwa [i32_toInt] at h
theorem z_land (C : CX X G nL cc own) (hd : decode cc pc = .ok (.land, 1)) (pn : Nat) (hn : pc + 1 = pn) (n : ZZ X G nL Qz cn o w pn lv (vl (land_ a b) :: st)) : ZZ X G nL Qz cn o w pc lv (vl b :: vl a :: st) := by
  subst hn
  intro z hz H locs ls hH hl hv
  refine lv_land C.1 C.2.1 hd ?_
  have h := n z hz H locs ls hH hl hv
  unfold vl at h
  unfold land_ at h
  rwa [i64_toInt] at h
theorem z_lor (C : CX X G nL cc own) (hd : decode cc pc = .ok (.lor, 1)) (pn : Nat) (hn : pc + 1 = pn) (n : ZZ X G nL Qz cn o w pn lv (vl (lor_ a b) :: st)) : ZZ X G nL Qz cn o w pc lv (vl b :: vl a :: st) := by
  subst hn
  intro z hz H locs ls hH hl hv
  refine lv_lor C.1 C.2.1 hd ?_
  have h := n z hz H locs ls hH hl hv
  unfold vl at h
  unfold lor_ at h
  rwa [i64_toInt] at h
theorem z_lshl (C : CX X G nL cc own) (hd : decode cc pc = .ok (.lshl, 1)) (pn : Nat) (hn : pc + 1 = pn) (n : ZZ X G nL Qz cn o w pn lv (vl (lsl a b) :: st)) : ZZ X G nL Qz cn o w pc lv (vi b :: vl a :: st) := by
  subst hn
  intro z hz H locs ls hH hl hv
  refine lv_lshl C.1 C.2.1 hd rfl ?_
  have h := n z hz H locs ls hH hl hv
  unfold vl lsl at h
  rwa [i64_toInt] at h
theorem z_lshr (C : CX X G nL cc own) (hd : decode cc pc = .ok (.lshr, 1)) (pn : Nat) (hn : pc + 1 = pn) (n : ZZ X G nL Qz cn o w pn lv (vl (lsr a b) :: st)) : ZZ X G nL Qz cn o w pc lv (vi b :: vl a :: st) := by
  subst hn
  intro z hz H locs ls hH hl hv
  refine lv_lshr C.1 C.2.1 hd rfl ?_
  have h := n z hz H locs ls hH hl hv
  unfold vl lsr at h
  rwa [i64_toInt] at h
theorem z_lushr (C : CX X G nL cc own) (hd : decode cc pc = .ok (.lushr, 1)) (pn : Nat) (hn : pc + 1 = pn) (n : ZZ X G nL Qz cn o w pn lv (vl (lur a b) :: st)) : ZZ X G nL Qz cn o w pc lv (vi b :: vl a :: st) := by
  subst hn
  intro z hz H locs ls hH hl hv
  refine lv_lushr C.1 C.2.1 hd rfl ?_
  have h := n z hz H locs ls hH hl hv
  unfold vl lur at h
  rwa [i64_toInt] at h
theorem z_idiv (C : CX X G nL cc own) (hd : decode cc pc = .ok (.idiv, 1)) (pn : Nat) (hn : pc + 1 = pn) (n : ZZ X G nL Qz cn o w pn lv (vi (idv a b) :: st)) : ZZ X G nL Qz cn (gd (w32 b ≠ 0) o) w pc lv (vi b :: vi a :: st) := by
  subst hn
  refine z_gd (fun hb => ?_)
  intro z hz H locs ls hH hl hv
  refine lv_idiv C.1 C.2.1 hd (fun he => hb ?_) ?_
  · have h0 := (i32_eq b 0).mp he
    exact h0.trans (by decide)
  · have h := n z hz H locs ls hH hl hv
    unfold vi idv at h
    rwa [i32_toInt] at h
theorem z_irem (C : CX X G nL cc own) (hd : decode cc pc = .ok (.irem, 1)) (pn : Nat) (hn : pc + 1 = pn) (n : ZZ X G nL Qz cn o w pn lv (vi (irm a b) :: st)) : ZZ X G nL Qz cn (gd (w32 b ≠ 0) o) w pc lv (vi b :: vi a :: st) := by
  subst hn
  refine z_gd (fun hb => ?_)
  intro z hz H locs ls hH hl hv
  refine lv_irem C.1 C.2.1 hd (fun he => hb ?_) ?_
  · have h0 := (i32_eq b 0).mp he
    exact h0.trans (by decide)
  · have h := n z hz H locs ls hH hl hv
    unfold vi irm at h
    rwa [i32_toInt] at h
theorem z_ldiv (C : CX X G nL cc own) (hd : decode cc pc = .ok (.ldiv, 1)) (pn : Nat) (hn : pc + 1 = pn) (n : ZZ X G nL Qz cn o w pn lv (vl (ldv a b) :: st)) : ZZ X G nL Qz cn (gd (w64 b ≠ 0) o) w pc lv (vl b :: vl a :: st) := by
  subst hn
  refine z_gd (fun hb => ?_)
  intro z hz H locs ls hH hl hv
  refine lv_ldiv C.1 C.2.1 hd (fun he => hb ?_) ?_
  · have h0 := (i64_eq b 0).mp he
    exact h0.trans (by decide)
  · have h := n z hz H locs ls hH hl hv
    unfold vl ldv at h
    rwa [i64_toInt] at h
theorem z_lrem (C : CX X G nL cc own) (hd : decode cc pc = .ok (.lrem, 1)) (pn : Nat) (hn : pc + 1 = pn) (n : ZZ X G nL Qz cn o w pn lv (vl (lrm a b) :: st)) : ZZ X G nL Qz cn (gd (w64 b ≠ 0) o) w pc lv (vl b :: vl a :: st) := by
  subst hn
  refine z_gd (fun hb => ?_)
  intro z hz H locs ls hH hl hv
  refine lv_lrem C.1 C.2.1 hd (fun he => hb ?_) ?_
  · have h0 := (i64_eq b 0).mp he
    exact h0.trans (by decide)
  · have h := n z hz H locs ls hH hl hv
    unfold vl lrm at h
    rwa [i64_toInt] at h
theorem i2l_eq (a : Int) : (i32 a).toInt64 = i64 (w32 a) := by
  apply Int64.toInt_inj.mp
  rw [Int32.toInt_toInt64]
  show w32 a = w64 (w32 a)
  have h := w32_rng a
  rw [w64_id (by omega)]
theorem z_i2l (C : CX X G nL cc own) (hd : decode cc pc = .ok (.i2l, 1)) (pn : Nat) (hn : pc + 1 = pn) (n : ZZ X G nL Qz cn o w pn lv (vl (w32 a) :: st)) : ZZ X G nL Qz cn o w pc lv (vi a :: st) := by
  subst hn
  intro z hz H locs ls hH hl hv
  refine lv_i2l C.1 C.2.1 hd rfl ?_
  have h := n z hz H locs ls hH hl hv
  unfold vl at h
  rwa [← i2l_eq] at h
theorem z_l2i (C : CX X G nL cc own) (hd : decode cc pc = .ok (.l2i, 1)) (pn : Nat) (hn : pc + 1 = pn) (n : ZZ X G nL Qz cn o w pn lv (vi (l2i_ a) :: st)) : ZZ X G nL Qz cn o w pc lv (vl a :: st) := by
  subst hn
  intro z hz H locs ls hH hl hv
  refine lv_l2i C.1 C.2.1 hd rfl ?_
  have h := n z hz H locs ls hH hl hv
  unfold vi l2i_ at h
  rwa [i32_toInt] at h
theorem z_i2b (C : CX X G nL cc own) (hd : decode cc pc = .ok (.i2b, 1)) (pn : Nat) (hn : pc + 1 = pn) (n : ZZ X G nL Qz cn o w pn lv (vi (i2b_ a) :: st)) : ZZ X G nL Qz cn o w pc lv (vi a :: st) := by
  subst hn
  intro z hz H locs ls hH hl hv
  refine lv_i2b C.1 C.2.1 hd rfl ?_
  have h := n z hz H locs ls hH hl hv
  unfold vi i2b_ at h
  rwa [i32_toInt] at h
theorem z_i2s (C : CX X G nL cc own) (hd : decode cc pc = .ok (.i2s, 1)) (pn : Nat) (hn : pc + 1 = pn) (n : ZZ X G nL Qz cn o w pn lv (vi (i2s_ a) :: st)) : ZZ X G nL Qz cn o w pc lv (vi a :: st) := by
  subst hn
  intro z hz H locs ls hH hl hv
  refine lv_i2s C.1 C.2.1 hd rfl ?_
  have h := n z hz H locs ls hH hl hv
  unfold vi i2s_ at h
  rwa [i32_toInt] at h
theorem z_i2c (C : CX X G nL cc own) (hd : decode cc pc = .ok (.i2c, 1)) (pn : Nat) (hn : pc + 1 = pn) (n : ZZ X G nL Qz cn o w pn lv (vi (i2c_ a) :: st)) : ZZ X G nL Qz cn o w pc lv (vi a :: st) := by
  subst hn
  intro z hz H locs ls hH hl hv
  refine lv_i2c C.1 C.2.1 hd rfl ?_
  have h := n z hz H locs ls hH hl hv
  unfold vi i2c_ at h
  rwa [i32_toInt] at h
theorem z_dup (C : CX X G nL cc own) {v : Value} (hc : v.category = 1) (hd : decode cc pc = .ok (.dup, 1)) (pn : Nat) (hn : pc + 1 = pn) (n : ZZ X G nL Qz cn o w pn lv (v :: v :: st)) : ZZ X G nL Qz cn o w pc lv (v :: st) := by
  subst hn
  intro z hz H locs ls hH hl hv
  exact lv_dup C.1 C.2.1 hd hc (n z hz H locs ls hH hl hv)
theorem z_pop (C : CX X G nL cc own) {v : Value} (hc : v.category = 1) (hd : decode cc pc = .ok (.pop, 1)) (pn : Nat) (hn : pc + 1 = pn) (n : ZZ X G nL Qz cn o w pn lv (st)) : ZZ X G nL Qz cn o w pc lv (v :: st) := by
  subst hn
  intro z hz H locs ls hH hl hv
  exact lv_pop C.1 C.2.1 hd hc (n z hz H locs ls hH hl hv)
theorem z_dup2 (C : CX X G nL cc own) {v u : Value} (hc : v.category = 1) (hc2 : u.category = 1) (hd : decode cc pc = .ok (.dup2, 1)) (pn : Nat) (hn : pc + 1 = pn) (n : ZZ X G nL Qz cn o w pn lv (v :: u :: v :: u :: st)) : ZZ X G nL Qz cn o w pc lv (v :: u :: st) := by
  subst hn
  intro z hz H locs ls hH hl hv
  exact lv_dup2_11 C.1 C.2.1 hd hc hc2 (n z hz H locs ls hH hl hv)
theorem z_goto (C : CX X G nL cc own) {off : Int} (hd : decode cc pc = .ok (.goto off, 3)) (tgt : Nat) (ht : (pc : Int) + off = (tgt : Int)) (n : ZZ X G nL Qz cn o w tgt lv st) : ZZ X G nL Qz cn o w pc lv st := by
  intro z hz H locs ls hH hl hv
  exact lv_goto C.1 C.2.1 hd ht (n z hz H locs ls hH hl hv)
theorem z_icmp_eq (C : CX X G nL cc own) {off : Int} (hd : decode cc pc = .ok (.if_icmp .eq off, 3)) (tgt : Nat) (ht : (pc : Int) + off = (tgt : Int)) (pn : Nat) (hn : pc + 3 = pn) {a' b' : Int} (ha : w32 a = a') (hb : w32 b = b') (n1 : a' = b' → ZZ X G nL Qz cn o1 w tgt lv st) (n2 : ¬ a' = b' → ZZ X G nL Qz cn o2 w pn lv st) : ZZ X G nL Qz cn (if a' = b' then o1 else o2) w pc lv (vi b :: vi a :: st) := by
  subst hn; subst ha; subst hb
  refine z_ite (fun hc => ?_) (fun hc => ?_)
  · intro z hz H locs ls hH hl hv
    exact lv_icmp_eq C.1 C.2.1 hd ht (fun _ => n1 hc z hz H locs ls hH hl hv) (fun h => absurd ((i32_eq a b).mpr hc) h)
  · intro z hz H locs ls hH hl hv
    exact lv_icmp_eq C.1 C.2.1 hd ht (fun h => absurd ((i32_eq a b).mp h) hc) (fun _ => n2 hc z hz H locs ls hH hl hv)
theorem z_if_eq (C : CX X G nL cc own) {off : Int} (hd : decode cc pc = .ok (.ifCond .eq off, 3)) (tgt : Nat) (ht : (pc : Int) + off = (tgt : Int)) (pn : Nat) (hn : pc + 3 = pn) {a' : Int} (ha : w32 a = a') (n1 : a' = 0 → ZZ X G nL Qz cn o1 w tgt lv st) (n2 : ¬ a' = 0 → ZZ X G nL Qz cn o2 w pn lv st) : ZZ X G nL Qz cn (if a' = 0 then o1 else o2) w pc lv (vi a :: st) := by
  subst hn; subst ha
  refine z_ite (fun hc => ?_) (fun hc => ?_)
  · intro z hz H locs ls hH hl hv
    exact lv_if_eq C.1 C.2.1 hd ht (fun _ => n1 hc z hz H locs ls hH hl hv) (fun h => absurd ((i32_eq a 0).mpr (by rw [w32_0]; exact hc)) h)
  · intro z hz H locs ls hH hl hv
    exact lv_if_eq C.1 C.2.1 hd ht (fun h => absurd ((i32_eq a 0).mp h) (by rw [w32_0]; exact hc)) (fun _ => n2 hc z hz H locs ls hH hl hv)
theorem z_icmp_ne (C : CX X G nL cc own) {off : Int} (hd : decode cc pc = .ok (.if_icmp .ne off, 3)) (tgt : Nat) (ht : (pc : Int) + off = (tgt : Int)) (pn : Nat) (hn : pc + 3 = pn) {a' b' : Int} (ha : w32 a = a') (hb : w32 b = b') (n1 : a' ≠ b' → ZZ X G nL Qz cn o1 w tgt lv st) (n2 : ¬ a' ≠ b' → ZZ X G nL Qz cn o2 w pn lv st) : ZZ X G nL Qz cn (if a' ≠ b' then o1 else o2) w pc lv (vi b :: vi a :: st) := by
  subst hn; subst ha; subst hb
  refine z_ite (fun hc => ?_) (fun hc => ?_)
  · intro z hz H locs ls hH hl hv
    exact lv_icmp_ne C.1 C.2.1 hd ht (fun _ => n1 hc z hz H locs ls hH hl hv) (fun h => absurd ((i32_eq a b).mp h) hc)
  · intro z hz H locs ls hH hl hv
    exact lv_icmp_ne C.1 C.2.1 hd ht (fun h => absurd (fun e => h ((i32_eq a b).mpr e)) hc) (fun _ => n2 hc z hz H locs ls hH hl hv)
theorem z_if_ne (C : CX X G nL cc own) {off : Int} (hd : decode cc pc = .ok (.ifCond .ne off, 3)) (tgt : Nat) (ht : (pc : Int) + off = (tgt : Int)) (pn : Nat) (hn : pc + 3 = pn) {a' : Int} (ha : w32 a = a') (n1 : a' ≠ 0 → ZZ X G nL Qz cn o1 w tgt lv st) (n2 : ¬ a' ≠ 0 → ZZ X G nL Qz cn o2 w pn lv st) : ZZ X G nL Qz cn (if a' ≠ 0 then o1 else o2) w pc lv (vi a :: st) := by
  subst hn; subst ha
  refine z_ite (fun hc => ?_) (fun hc => ?_)
  · intro z hz H locs ls hH hl hv
    exact lv_if_ne C.1 C.2.1 hd ht (fun _ => n1 hc z hz H locs ls hH hl hv) (fun h => absurd (((i32_eq a 0).mp h).trans w32_0) hc)
  · intro z hz H locs ls hH hl hv
    exact lv_if_ne C.1 C.2.1 hd ht (fun h => absurd (fun e => h ((i32_eq a 0).mpr (e.trans w32_0.symm))) hc) (fun _ => n2 hc z hz H locs ls hH hl hv)
theorem z_icmp_lt (C : CX X G nL cc own) {off : Int} (hd : decode cc pc = .ok (.if_icmp .lt off, 3)) (tgt : Nat) (ht : (pc : Int) + off = (tgt : Int)) (pn : Nat) (hn : pc + 3 = pn) {a' b' : Int} (ha : w32 a = a') (hb : w32 b = b') (n1 : a' < b' → ZZ X G nL Qz cn o1 w tgt lv st) (n2 : ¬ a' < b' → ZZ X G nL Qz cn o2 w pn lv st) : ZZ X G nL Qz cn (if a' < b' then o1 else o2) w pc lv (vi b :: vi a :: st) := by
  subst hn; subst ha; subst hb
  refine z_ite (fun hc => ?_) (fun hc => ?_)
  · intro z hz H locs ls hH hl hv
    exact lv_icmp_lt C.1 C.2.1 hd ht (fun _ => n1 hc z hz H locs ls hH hl hv) (fun h => absurd ((i32_lt a b).mpr hc) h)
  · intro z hz H locs ls hH hl hv
    exact lv_icmp_lt C.1 C.2.1 hd ht (fun h => absurd ((i32_lt a b).mp h) hc) (fun _ => n2 hc z hz H locs ls hH hl hv)
theorem z_if_lt (C : CX X G nL cc own) {off : Int} (hd : decode cc pc = .ok (.ifCond .lt off, 3)) (tgt : Nat) (ht : (pc : Int) + off = (tgt : Int)) (pn : Nat) (hn : pc + 3 = pn) {a' : Int} (ha : w32 a = a') (n1 : a' < 0 → ZZ X G nL Qz cn o1 w tgt lv st) (n2 : ¬ a' < 0 → ZZ X G nL Qz cn o2 w pn lv st) : ZZ X G nL Qz cn (if a' < 0 then o1 else o2) w pc lv (vi a :: st) := by
  subst hn; subst ha
  refine z_ite (fun hc => ?_) (fun hc => ?_)
  · intro z hz H locs ls hH hl hv
    exact lv_if_lt C.1 C.2.1 hd ht (fun _ => n1 hc z hz H locs ls hH hl hv) (fun h => absurd ((i32_lt a 0).mpr (by rw [w32_0]; exact hc)) h)
  · intro z hz H locs ls hH hl hv
    exact lv_if_lt C.1 C.2.1 hd ht (fun h => absurd ((i32_lt a 0).mp h) (by rw [w32_0]; exact hc)) (fun _ => n2 hc z hz H locs ls hH hl hv)
theorem z_icmp_ge (C : CX X G nL cc own) {off : Int} (hd : decode cc pc = .ok (.if_icmp .ge off, 3)) (tgt : Nat) (ht : (pc : Int) + off = (tgt : Int)) (pn : Nat) (hn : pc + 3 = pn) {a' b' : Int} (ha : w32 a = a') (hb : w32 b = b') (n1 : a' ≥ b' → ZZ X G nL Qz cn o1 w tgt lv st) (n2 : ¬ a' ≥ b' → ZZ X G nL Qz cn o2 w pn lv st) : ZZ X G nL Qz cn (if a' ≥ b' then o1 else o2) w pc lv (vi b :: vi a :: st) := by
  subst hn; subst ha; subst hb
  refine z_ite (fun hc => ?_) (fun hc => ?_)
  · intro z hz H locs ls hH hl hv
    exact lv_icmp_ge C.1 C.2.1 hd ht (fun _ => n1 hc z hz H locs ls hH hl hv) (fun h => absurd ((i32_le b a).mpr hc) h)
  · intro z hz H locs ls hH hl hv
    exact lv_icmp_ge C.1 C.2.1 hd ht (fun h => absurd ((i32_le b a).mp h) hc) (fun _ => n2 hc z hz H locs ls hH hl hv)
theorem z_if_ge (C : CX X G nL cc own) {off : Int} (hd : decode cc pc = .ok (.ifCond .ge off, 3)) (tgt : Nat) (ht : (pc : Int) + off = (tgt : Int)) (pn : Nat) (hn : pc + 3 = pn) {a' : Int} (ha : w32 a = a') (n1 : a' ≥ 0 → ZZ X G nL Qz cn o1 w tgt lv st) (n2 : ¬ a' ≥ 0 → ZZ X G nL Qz cn o2 w pn lv st) : ZZ X G nL Qz cn (if a' ≥ 0 then o1 else o2) w pc lv (vi a :: st) := by
  subst hn; subst ha
  refine z_ite (fun hc => ?_) (fun hc => ?_)
  · intro z hz H locs ls hH hl hv
    exact lv_if_ge C.1 C.2.1 hd ht (fun _ => n1 hc z hz H locs ls hH hl hv) (fun h => absurd ((i32_le 0 a).mpr (by rw [w32_0]; exact hc)) h)
  · intro z hz H locs ls hH hl hv
    exact lv_if_ge C.1 C.2.1 hd ht (fun h => absurd ((i32_le 0 a).mp h) (by rw [w32_0]; exact hc)) (fun _ => n2 hc z hz H locs ls hH hl hv)
theorem z_icmp_gt (C : CX X G nL cc own) {off : Int} (hd : decode cc pc = .ok (.if_icmp .gt off, 3)) (tgt : Nat) (ht : (pc : Int) + off = (tgt : Int)) (pn : Nat) (hn : pc + 3 = pn) {a' b' : Int} (ha : w32 a = a') (hb : w32 b = b') (n1 : a' > b' → ZZ X G nL Qz cn o1 w tgt lv st) (n2 : ¬ a' > b' → ZZ X G nL Qz cn o2 w pn lv st) : ZZ X G nL Qz cn (if a' > b' then o1 else o2) w pc lv (vi b :: vi a :: st) := by
  subst hn; subst ha; subst hb
  refine z_ite (fun hc => ?_) (fun hc => ?_)
  · intro z hz H locs ls hH hl hv
    exact lv_icmp_gt C.1 C.2.1 hd ht (fun _ => n1 hc z hz H locs ls hH hl hv) (fun h => absurd ((i32_lt b a).mpr hc) h)
  · intro z hz H locs ls hH hl hv
    exact lv_icmp_gt C.1 C.2.1 hd ht (fun h => absurd ((i32_lt b a).mp h) hc) (fun _ => n2 hc z hz H locs ls hH hl hv)
theorem z_if_gt (C : CX X G nL cc own) {off : Int} (hd : decode cc pc = .ok (.ifCond .gt off, 3)) (tgt : Nat) (ht : (pc : Int) + off = (tgt : Int)) (pn : Nat) (hn : pc + 3 = pn) {a' : Int} (ha : w32 a = a') (n1 : a' > 0 → ZZ X G nL Qz cn o1 w tgt lv st) (n2 : ¬ a' > 0 → ZZ X G nL Qz cn o2 w pn lv st) : ZZ X G nL Qz cn (if a' > 0 then o1 else o2) w pc lv (vi a :: st) := by
  subst hn; subst ha
  refine z_ite (fun hc => ?_) (fun hc => ?_)
  · intro z hz H locs ls hH hl hv
    exact lv_if_gt C.1 C.2.1 hd ht (fun _ => n1 hc z hz H locs ls hH hl hv) (fun h => absurd ((i32_lt 0 a).mpr (by rw [w32_0]; exact hc)) h)
  · intro z hz H locs ls hH hl hv
    exact lv_if_gt C.1 C.2.1 hd ht (fun h => absurd ((i32_lt 0 a).mp h) (by rw [w32_0]; exact hc)) (fun _ => n2 hc z hz H locs ls hH hl hv)
theorem z_icmp_le (C : CX X G nL cc own) {off : Int} (hd : decode cc pc = .ok (.if_icmp .le off, 3)) (tgt : Nat) (ht : (pc : Int) + off = (tgt : Int)) (pn : Nat) (hn : pc + 3 = pn) {a' b' : Int} (ha : w32 a = a') (hb : w32 b = b') (n1 : a' ≤ b' → ZZ X G nL Qz cn o1 w tgt lv st) (n2 : ¬ a' ≤ b' → ZZ X G nL Qz cn o2 w pn lv st) : ZZ X G nL Qz cn (if a' ≤ b' then o1 else o2) w pc lv (vi b :: vi a :: st) := by
  subst hn; subst ha; subst hb
  refine z_ite (fun hc => ?_) (fun hc => ?_)
  · intro z hz H locs ls hH hl hv
    exact lv_icmp_le C.1 C.2.1 hd ht (fun _ => n1 hc z hz H locs ls hH hl hv) (fun h => absurd ((i32_le a b).mpr hc) h)
  · intro z hz H locs ls hH hl hv
    exact lv_icmp_le C.1 C.2.1 hd ht (fun h => absurd ((i32_le a b).mp h) hc) (fun _ => n2 hc z hz H locs ls hH hl hv)
theorem z_if_le (C : CX X G nL cc own) {off : Int} (hd : decode cc pc = .ok (.ifCond .le off, 3)) (tgt : Nat) (ht : (pc : Int) + off = (tgt : Int)) (pn : Nat) (hn : pc + 3 = pn) {a' : Int} (ha : w32 a = a') (n1 : a' ≤ 0 → ZZ X G nL Qz cn o1 w tgt lv st) (n2 : ¬ a' ≤ 0 → ZZ X G nL Qz cn o2 w pn lv st) : ZZ X G nL Qz cn (if a' ≤ 0 then o1 else o2) w pc lv (vi a :: st) := by
  subst hn; subst ha
  refine z_ite (fun hc => ?_) (fun hc => ?_)
  · intro z hz H locs ls hH hl hv
    exact lv_if_le C.1 C.2.1 hd ht (fun _ => n1 hc z hz H locs ls hH hl hv) (fun h => absurd ((i32_le a 0).mpr (by rw [w32_0]; exact hc)) h)
  · intro z hz H locs ls hH hl hv
    exact lv_if_le C.1 C.2.1 hd ht (fun h => absurd ((i32_le a 0).mp h) (by rw [w32_0]; exact hc)) (fun _ => n2 hc z hz H locs ls hH hl hv)
theorem lcmp_eq (a b : Int) : lg_cmp (i64 a) (i64 b) = i32 (lcmp_ a b) := by
  unfold lg_cmp lcmp_
  simp only [i64_lt, i64_eq]
  repeat' split
  all_goals first | rfl | omega
theorem z_lcmp (C : CX X G nL cc own) (hd : decode cc pc = .ok (.lcmp, 1)) (pn : Nat) (hn : pc + 1 = pn) (n : ZZ X G nL Qz cn o w pn lv (vi (lcmp_ a b) :: st)) : ZZ X G nL Qz cn o w pc lv (vl b :: vl a :: st) := by
  subst hn
  intro z hz H locs ls hH hl hv
  refine W.lcmp C.1 C.2.1 hd ?_
  have h := n z hz H locs ls hH hl hv
  rwa [vi, ← lcmp_eq] at h
end ZROWS
