-- CONTRACTS over worlds, and the rows that read and write a world
def PcM (G : GG) (av : List Value) (w : WD) : Array Value → State → Prop := fun v U => v = av.toArray ∧ Hold G w U.heap ∧ KK G U
def QcM (G : GG) (v : Option Value) (w : WD) : Array Value → State → Outcome → State → Prop := fun _ _ o t => o = .returned v ∧ Hold G w t.heap
def Ctr (l : Launch) (G : GG) (y : MethodName) (bytes : ByteArray) (nL : Nat) (ret : Option FieldType) (rm : Room) (av : List Value) (w : WD) {T : Type} (vz : T → Option Value) (wz : T → WD) (o : Option T) : Prop :=
  ∀ z, o = some z → Met l y (.code y bytes nL ret :: UW) rm (PcM G av w) (QcM G (vz z) (wz z)) rm.cells rm.slots (fun q => gb G ≤ q)
def QM (X : MX) (G : GG) {T : Type} (vz : T → Option Value) (wz : T → WD) (cn : Nat × Nat) : T → State → Prop := fun z => MQ (mB X) (QcM G (vz z) (wz z)) (mA X) (mS X) cn.1 cn.2 (fun q => gb G ≤ q)
def RT (X : MX) (ret : Option FieldType) : Prop := (mH X).sig.returnType = ret ∧ (mH X).locks = false
theorem pcM_blind {G : GG} {av : List Value} {w : WD} : FrameBlind (PcM G av w) := fun a U g mk h => ⟨h.1, h.2.1, KK.same (u := U) (U := U.calling g mk a) rfl h.2.2⟩
/-- a contract out of a walk from the entry -/
theorem ctr_of {l : Launch} {G : GG} {y : MethodName} {bytes : ByteArray} {nL : Nat} {ret : Option FieldType} {rm : Room} {av : List Value} {w : WD} {T : Type} {vz : T → Option Value} {wz : T → WD} {o : Option T} (hy : plainName y.cls = true) (hn : (lg_sl av).length ≤ nL) (hu : Cond.code y bytes nL ret ∈ UW)
    (h : ∀ X : MX, mL X = l → mR X = rm → CX X G nL bytes y.cls → RT X ret → ((mH X).name = y.name) → ZZ X G nL (QM X G vz wz (rm.cells, rm.slots)) (0, 0) o w 0 (lv_args 0 av) []) : Ctr l G y bytes nL ret rm av w vz wz o := by
  intro z hz
  refine Met.ofW (cc := bytes) (maxL := nL) (ret := ret) hy rfl ?_
  intro p e s m args below meth c s₁ B hml hv
  obtain ⟨rfl, hH, hK⟩ := hv
  have hts : ∀ w ∈ UW, w.before av.toArray s = true := fun w hw => atoms_spec (ws := .code y bytes nL ret :: UW) B.pre w (List.mem_cons_of_mem _ hw)
  have hl := lv_entry av (n := nL) hn
  rw [lg_entry_eq]
  exact h (p, l, e, rm, s, m, av.toArray, below, meth, c) rfl rfl ⟨B.exec, B.bytes, hml, findClass_of_methodNamed B.named, hts, hK⟩ ⟨B.returns, B.notSynchronized⟩ (name_of_methodNamed B.named B.method).1 z hz s.heap [] _ hH (fun q hq => by cases hq) hl
-- the class tables
def CF (ci : Nat) (C : String) (T : u_T) (N : Nat) : Prop := vwCl[ci]? = some (C, T, N) ∧ (∀ k, k < N → parseFieldDescriptor (T k).2.2.1 = some (tyOf ci k)) ∧ (∀ a, a < N → ∀ b, b < N → a ≠ b → (T a).2.1 ≠ (T b).2.1) ∧ ∀ w ∈ u_ws C T N, w ∈ UW
def FL (own : String) (idx ci j : Nat) : Prop := ∃ (C : String) (T : u_T) (N : Nat), CF ci C T N ∧ j < N ∧ Cond.fieldLink own idx (T j).1 (T j).2.1 (T j).2.2.1 ∈ UW ∧ (T j).2.2.2 = false
def FLF (own : String) (idx ci j : Nat) : Prop := ∃ (C : String) (T : u_T) (N : Nat), CF ci C T N ∧ j < N ∧ Cond.fieldLink own idx (T j).1 (T j).2.1 (T j).2.2.1 ∈ UW ∧ (T j).2.2.2 = true ∧ (T j).1 = own
def FLg (own : String) (idx ci j : Nat) : Prop := ∃ (C : String) (T : u_T) (N : Nat), CF ci C T N ∧ j < N ∧ Cond.fieldLink own idx (T j).1 (T j).2.1 (T j).2.2.1 ∈ UW
section HROWS
variable {X : MX} {G : GG} {nL : Nat} {T : Type} {Qz : T → State → Prop} {cn : Nat × Nat} {o o1 o2 : Option T} {w : WD} {pc : Nat} {lv : List (Nat × Value)} {st : List Value} {cc : ByteArray} {own : String} {a b : Int} {k : Int}
theorem z_get (C : CX X G nL cc own) {idx ci j : Nat} (F : FLg own idx ci j) (hk : w.2.1 k = (0, ci) ∧ 0 ≤ k ∧ k < w.1) {v : Value} (hv : fval G (tyOf ci j) (w.2.2.1 k j) (w.2.2.2 k j) = v) (hd : decode cc pc = .ok (.getfield idx, 3)) (pn : Nat) (hn : pc + 3 = pn) (n : ZZ X G nL Qz cn o w pn lv (v :: st)) : ZZ X G nL Qz cn o w pc lv (vr G k :: st) := by
  subst hn; subst hv
  obtain ⟨CN, TT, N, ⟨hc, hty, hnm, hin⟩, hj, hl⟩ := F
  intro z hz H locs ls hH hlo hlv
  obtain ⟨row, h1, cell, q1, q2, q3, q4⟩ := hH.at hk
  have hr : row = (CN, TT, N) := Option.some.inj (h1.symm.trans hc)
  subst hr
  obtain ⟨hS, hfc, kC, hkC, hkind⟩ := C.2.2.2.2.2.1.1 ci _ hc
  obtain ⟨cf, kf, fi, f, hi, hsl⟩ := hS j hj
  refine W.getf C.1 C.2.1 C.2.2.2.1 (C.2.2.2.2.1 _ hl) hi (u_facts hfc hkC (u_lays C.2.2.2.2.1 hin hj) hi).1 q1 (by rw [q3]; exact fun h => by cases h) (v := fval G (tyOf ci j) (w.2.2.1 k j) (w.2.2.2 k j)) ?_ rfl rfl hd (n z hz H locs ls hH hlo hlv)
  rw [hsl, q4 j hj]
theorem ob_put {G : GG} {C : String} {T : u_T} {N ci j : Nat} (hj : j < N) (hCF : CF ci C T N) {s : State} {args : Array Value} (hts : ∀ w ∈ UW, w.before args s = true) (hK : KK G s) {cell : Cell} {V : Nat → Value} (q4 : ∀ k, k < N → cell.slots[G.2.1.2 ci k]? = some (V k)) (v : Value) :
    ∀ k, k < N → (cell.setSlot (G.2.1.2 ci j) v).slots[G.2.1.2 ci k]? = some (updV V j v k) := by
  have hap := va_apart (own := C) hts hCF.2.2.2 (tyOf ci) hCF.2.1 hCF.2.2.1 hK.1 hCF.1
  exact t_set q4 hap hj v
theorem z_put (C : CX X G nL cc own) {idx ci j : Nat} (F : FL own idx ci j) (hk : w.2.1 k = (0, ci) ∧ 0 ≤ k ∧ k < w.1) {v : Value} {w' : WD} (hnar : narrow (tyOf ci j) v = v) (hfit : fits (tyOf ci j) v = true) (hN : w'.1 = w.1 ∧ w'.2.1 = w.2.1) (hw : ∀ i : Int, i ≠ k → w'.2.2.1 i = w.2.2.1 i ∧ w'.2.2.2 i = w.2.2.2 i)
    (hj1 : ∀ i : Nat, i ≠ j → fval G (tyOf ci i) (w'.2.2.1 k i) (w'.2.2.2 k i) = fval G (tyOf ci i) (w.2.2.1 k i) (w.2.2.2 k i)) (hj2 : fval G (tyOf ci j) (w'.2.2.1 k j) (w'.2.2.2 k j) = v) (hd : decode cc pc = .ok (.putfield idx, 3)) (pn : Nat) (hn : pc + 3 = pn) (n : ZZ X G nL Qz cn o w' pn lv st) : ZZ X G nL Qz cn o w pc lv (v :: vr G k :: st) := by
  subst hn
  obtain ⟨CN, TT, N, hCF, hj, hl, hfin⟩ := F
  obtain ⟨hc, hty, hnm, hin⟩ := id hCF
  intro z hz H locs ls hH hlo hlv
  obtain ⟨row, h1, cell, q1, q2, q3, q4⟩ := hH.at hk
  have hr : row = (CN, TT, N) := Option.some.inj (h1.symm.trans hc)
  subst hr
  obtain ⟨hS, hfc, kC, hkC, hkind⟩ := C.2.2.2.2.2.1.1 ci _ hc
  obtain ⟨cf, kf, fi, f, hi, hsl⟩ := hS j hj
  have hlay := C.2.2.2.2.1 _ (hin _ (u_in_lay hj))
  unfold u_lay at hlay
  rw [if_neg (by rw [hfin]; decide)] at hlay
  have hst := (u_facts hfc hkC (u_lays C.2.2.2.2.1 hin hj) hi).1
  have h6 := u_store hfc hkC hkind hlay hi (hty j hj) hnar hfit
  refine W.putK C.1 C.2.1 (f := f) ⟨C.2.2.2.1, C.2.2.2.2.1 _ hl, ⟨_, _, _, hi⟩, hst⟩ (by rw [q2]; exact h6) q1 q3 (by rw [hsl]; exact k2_hasslot (q4 j hj)) rfl rfl hd fun H' e1 e2 e3 => ?_
  rw [hsl] at e1 ⊢
  refine n z hz H' _ ls (hH.set (w' := w') hk.2 hN.1 e2 e3 (fun i hi => ⟨by rw [hN.2], hw i hi⟩) ?_) (fun q hq => ?_) hlv
  · rw [hN.2, hk.1]
    exact ⟨_, hc, t_OB.to (V := updV _ j v) ⟨_, e1, q2, q3, ob_put hj hCF C.2.2.2.2.1 C.2.2.2.2.2 q4 v⟩ (fun i _ => by
      unfold updV
      split
      · rename_i h; subst h; exact hj2.symm
      · rename_i h; exact (hj1 i h).symm)⟩
  · rcases List.mem_append.mp hq with h | h
    · exact hlo q h
    · rcases List.mem_singleton.mp h with rfl
      exact Nat.le_add_right _ _
-- arrays
theorem idx_in {a : Int} {n : Nat} (h : 0 ≤ w32 a ∧ w32 a < (n : Int)) : ¬ (i32 a < 0 ∨ n ≤ (i32 a).toNatClampNeg) ∧ (i32 a).toNatClampNeg < n ∧ (((i32 a).toNatClampNeg : Nat) : Int) = w32 a := by
  have h0 : (i32 a).toNatClampNeg = (w32 a).toNat := rfl
  have h1 : ¬ i32 a < 0 := fun q => by
    have q2 := (i32_lt a 0).mp q
    rw [w32_0] at q2; omega
  refine ⟨fun q => ?_, by omega, by omega⟩
  rcases q with q | q
  · exact h1 q
  · omega
theorem z_iald (C : CX X G nL cc own) {N : Nat} (hk : w.2.1 k = (1, N) ∧ 0 ≤ k ∧ k < w.1) (hd : decode cc pc = .ok (.iaload, 1)) (pn : Nat) (hn : pc + 1 = pn) {a' : Int} (ha : w32 a = a') (n : 0 ≤ a' ∧ a' < (N : Int) → ZZ X G nL Qz cn o w pn lv (vi (w.2.2.2 k a') :: st)) : ZZ X G nL Qz cn (gd (0 ≤ a' ∧ a' < (N : Int)) o) w pc lv (vi a :: vr G k :: st) := by
  subst hn; subst ha
  refine z_gd (fun hb => ?_)
  intro z hz H locs ls hH hlo hlv
  have h1 : H[gb G + k.toNat]? = some (arrV (G.2.2 0) N (fun j => vi (w.2.2.2 k j))) := hH.at hk
  obtain ⟨i1, i2, i3⟩ := idx_in hb
  refine W.iald (v := vi (w.2.2.2 k (w32 a))) C.1 C.2.1 h1 ((C.2.2.2.2.2.1.2 0 _ rfl).1 N _) (fun q => by cases q) (by rw [arrV_size]; exact i1) (by rw [arrV_read _ _ i2, i3]) rfl rfl hd (n hb z hz H locs ls hH hlo hlv)
theorem z_lald (C : CX X G nL cc own) {N : Nat} (hk : w.2.1 k = (2, N) ∧ 0 ≤ k ∧ k < w.1) (hd : decode cc pc = .ok (.laload, 1)) (pn : Nat) (hn : pc + 1 = pn) {a' : Int} (ha : w32 a = a') (n : 0 ≤ a' ∧ a' < (N : Int) → ZZ X G nL Qz cn o w pn lv (vl (w.2.2.2 k a') :: st)) : ZZ X G nL Qz cn (gd (0 ≤ a' ∧ a' < (N : Int)) o) w pc lv (vi a :: vr G k :: st) := by
  subst hn; subst ha
  refine z_gd (fun hb => ?_)
  intro z hz H locs ls hH hlo hlv
  have h1 : H[gb G + k.toNat]? = some (arrV (G.2.2 1) N (fun j => vl (w.2.2.2 k j))) := hH.at hk
  obtain ⟨i1, i2, i3⟩ := idx_in hb
  refine W.lald (v := vl (w.2.2.2 k (w32 a))) C.1 C.2.1 h1 ((C.2.2.2.2.2.1.2 1 _ rfl).1 N _) (fun q => by cases q) (by rw [arrV_size]; exact i1) (by rw [arrV_read _ _ i2, i3]) rfl rfl hd (n hb z hz H locs ls hH hlo hlv)
theorem z_zald (C : CX X G nL cc own) {N : Nat} (hk : w.2.1 k = (3, N) ∧ 0 ≤ k ∧ k < w.1) (hd : decode cc pc = .ok (.baload, 1)) (pn : Nat) (hn : pc + 1 = pn) {a' : Int} (ha : w32 a = a') (n : 0 ≤ a' ∧ a' < (N : Int) → ZZ X G nL Qz cn o w pn lv (vi (w.2.2.2 k a') :: st)) : ZZ X G nL Qz cn (gd (0 ≤ a' ∧ a' < (N : Int)) o) w pc lv (vi a :: vr G k :: st) := by
  subst hn; subst ha
  refine z_gd (fun hb => ?_)
  intro z hz H locs ls hH hlo hlv
  have h1 : H[gb G + k.toNat]? = some (arrV (G.2.2 2) N (fun j => vi (w.2.2.2 k j))) := hH.at hk
  obtain ⟨i1, i2, i3⟩ := idx_in hb
  refine W.zald (v := vi (w.2.2.2 k (w32 a))) C.1 C.2.1 h1 ((C.2.2.2.2.2.1.2 2 _ rfl).1 N _) (fun q => by cases q) (by rw [arrV_size]; exact i1) (by rw [arrV_read _ _ i2, i3]) rfl rfl hd (n hb z hz H locs ls hH hlo hlv)
theorem hold_ast {G : GG} {w w' : WD} {H H' : Heap} (hH : Hold G w H) {k : Int} {t N : Nat} (hk : w.2.1 k = (t, N) ∧ 0 ≤ k ∧ k < w.1) (hN : w'.1 = w.1 ∧ w'.2.1 = w.2.1) (hw : ∀ i : Int, i ≠ k → w'.2.2.1 i = w.2.2.1 i ∧ w'.2.2.2 i = w.2.2.2 i) (e2 : H'.size = H.size) (e3 : ∀ q : Nat, q ≠ gb G + k.toNat → H'[q]? = H[q]?)
    (ha : holdAt G (t, N) (w'.2.2.1 k) (w'.2.2.2 k) (gb G + k.toNat) H') : Hold G w' H' := by
  refine hH.set (w' := w') hk.2 hN.1 e2 e3 (fun i hi => ⟨by rw [hN.2], hw i hi⟩) ?_
  rw [hN.2, hk.1]
  exact ha
theorem locs_app {G : GG} {locs : List Loc} {k : Int} {i : Nat} (hlo : ∀ q ∈ locs, gb G ≤ q.base) : ∀ q ∈ locs ++ [(⟨gb G + k.toNat, i⟩ : Loc)], gb G ≤ q.base := by
  intro q hq
  rcases List.mem_append.mp hq with h | h
  · exact hlo q h
  · rcases List.mem_singleton.mp h with rfl
    exact Nat.le_add_right _ _
def wup (w : WD) (k j v : Int) : WD := (w.1, w.2.1, w.2.2.1, up w.2.2.2 k j v)
theorem up_other {σ : St} {k j v i : Int} (h : i ≠ k) : up σ k j v i = σ i := by
  funext x
  simp [up, h]
theorem arr_up {σ : St} {k : Int} {f : Int → Value} {i : Nat} {a' v : Int} (h : (i : Int) = a') : (fun j : Nat => f (up σ k a' v k j)) = updV (fun j : Nat => f (σ k j)) i (f v) := by
  funext j
  unfold up updV
  by_cases hj : j = i
  · subst hj; simp [h]
  · have : ¬ ((j : Int) = a') := fun e => hj (by omega)
    simp [hj, this]
theorem z_iast (C : CX X G nL cc own) {N : Nat} (hk : w.2.1 k = (1, N) ∧ 0 ≤ k ∧ k < w.1) (hd : decode cc pc = .ok (.iastore, 1)) (pn : Nat) (hn : pc + 1 = pn) {a' : Int} (ha : w32 a = a') (n : 0 ≤ a' ∧ a' < (N : Int) → ZZ X G nL Qz cn o (wup w k a' b) pn lv st) : ZZ X G nL Qz cn (gd (0 ≤ a' ∧ a' < (N : Int)) o) w pc lv (vi b :: vi a :: vr G k :: st) := by
  subst hn; subst ha
  refine z_gd (fun hb => ?_)
  intro z hz H locs ls hH hlo hlv
  have h1 : H[gb G + k.toNat]? = some (arrV (G.2.2 0) N (fun j => vi (w.2.2.2 k j))) := hH.at hk
  obtain ⟨i1, i2, i3⟩ := idx_in hb
  refine W.iast C.1 C.2.1 h1 ((C.2.2.2.2.2.1.2 0 _ rfl).1 N _) (fun q => by cases q) (by rw [arrV_size]; exact i1) rfl rfl hd fun H' e1 e2 e3 => ?_
  refine n hb z hz H' _ ls (hold_ast hH hk ⟨rfl, rfl⟩ (fun i hi => ⟨rfl, up_other hi⟩) e2 e3 ?_) (locs_app hlo) hlv
  show H'[_]? = some (arrV (G.2.2 0) N (fun j => vi (up w.2.2.2 k (w32 a) b k j)))
  rw [e1, arrV_store, arr_up (f := vi) i3]; rfl
theorem z_last (C : CX X G nL cc own) {N : Nat} (hk : w.2.1 k = (2, N) ∧ 0 ≤ k ∧ k < w.1) (hd : decode cc pc = .ok (.lastore, 1)) (pn : Nat) (hn : pc + 1 = pn) {a' : Int} (ha : w32 a = a') (n : 0 ≤ a' ∧ a' < (N : Int) → ZZ X G nL Qz cn o (wup w k a' b) pn lv st) : ZZ X G nL Qz cn (gd (0 ≤ a' ∧ a' < (N : Int)) o) w pc lv (vl b :: vi a :: vr G k :: st) := by
  subst hn; subst ha
  refine z_gd (fun hb => ?_)
  intro z hz H locs ls hH hlo hlv
  have h1 : H[gb G + k.toNat]? = some (arrV (G.2.2 1) N (fun j => vl (w.2.2.2 k j))) := hH.at hk
  obtain ⟨i1, i2, i3⟩ := idx_in hb
  refine W.last C.1 C.2.1 h1 ((C.2.2.2.2.2.1.2 1 _ rfl).1 N _) (fun q => by cases q) (by rw [arrV_size]; exact i1) rfl rfl hd fun H' e1 e2 e3 => ?_
  refine n hb z hz H' _ ls (hold_ast hH hk ⟨rfl, rfl⟩ (fun i hi => ⟨rfl, up_other hi⟩) e2 e3 ?_) (locs_app hlo) hlv
  show H'[_]? = some (arrV (G.2.2 1) N (fun j => vl (up w.2.2.2 k (w32 a) b k j)))
  rw [e1, arrV_store, arr_up (f := vl) i3]; rfl
theorem z_zast (C : CX X G nL cc own) {N : Nat} (hk : w.2.1 k = (3, N) ∧ 0 ≤ k ∧ k < w.1) (hd : decode cc pc = .ok (.bastore, 1)) (pn : Nat) (hn : pc + 1 = pn) {a' : Int} (ha : w32 a = a') (n : 0 ≤ a' ∧ a' < (N : Int) → ZZ X G nL Qz cn o (wup w k a' (b1 b)) pn lv st) : ZZ X G nL Qz cn (gd (0 ≤ a' ∧ a' < (N : Int)) o) w pc lv (vi b :: vi a :: vr G k :: st) := by
  subst hn; subst ha
  refine z_gd (fun hb => ?_)
  intro z hz H locs ls hH hlo hlv
  have h1 : H[gb G + k.toNat]? = some (arrV (G.2.2 2) N (fun j => vi (w.2.2.2 k j))) := hH.at hk
  obtain ⟨i1, i2, i3⟩ := idx_in hb
  refine W.zast C.1 C.2.1 h1 ((C.2.2.2.2.2.1.2 2 _ rfl).1 N _) (fun q => by cases q) (by rw [arrV_size]; exact i1) rfl rfl hd fun H' e1 e2 e3 => ?_
  refine n hb z hz H' _ ls (hold_ast hH hk ⟨rfl, rfl⟩ (fun i hi => ⟨rfl, up_other hi⟩) e2 e3 ?_) (locs_app hlo) hlv
  show H'[_]? = some (arrV (G.2.2 2) N (fun j => vi (up w.2.2.2 k (w32 a) (b1 b) k j)))
  have hb1 : narrow .boolean (Value.int (i32 b)) = vi (b1 b) := by
    show Value.int (i32 b &&& 1) = vi (b1 b)
    unfold vi b1
    rw [i32_toInt]
  rw [e1, arrV_store, arr_up (f := vi) i3, hb1]
theorem z_aald (C : CX X G nL cc own) {t N : Nat} (hk : w.2.1 k = (t + 4, N) ∧ 0 ≤ k ∧ k < w.1) (ht : t < 3) (hd : decode cc pc = .ok (.aaload, 1)) (pn : Nat) (hn : pc + 1 = pn) {a' : Int} (ha : w32 a = a') (f : Int → Int) (hf : 0 ≤ a' ∧ a' < (N : Int) → w.2.2.1 k a' = f a' ∧ 0 ≤ f a') (n : 0 ≤ a' ∧ a' < (N : Int) → ZZ X G nL Qz cn o w pn lv (vr G (f a') :: st)) : ZZ X G nL Qz cn (gd (0 ≤ a' ∧ a' < (N : Int)) o) w pc lv (vi a :: vr G k :: st) := by
  subst hn; subst ha
  refine z_gd (fun hb => ?_)
  intro z hz H locs ls hH hlo hlv
  have h1 : H[gb G + k.toNat]? = some (arrV (G.2.2 (t + 3)) N (fun j => rv G (w.2.2.1 k j))) := hH.at hk
  obtain ⟨i1, i2, i3⟩ := idx_in hb
  obtain ⟨f1, f2⟩ := hf hb
  have hv : rv G (w.2.2.1 k (w32 a)) = vr G (f (w32 a)) := by rw [f1]; unfold rv; rw [if_neg (by omega)]
  have harr : ∃ ty : FieldType, ty.isReference = true ∧ ArrOfT (mS X) (G.2.2 (t + 3)) ty := by
    match t, ht with
    | 0, _ => exact ⟨_, rfl, (C.2.2.2.2.2.1.2 3 _ rfl).1⟩
    | 1, _ => exact ⟨_, rfl, (C.2.2.2.2.2.1.2 4 _ rfl).1⟩
    | 2, _ => exact ⟨_, rfl, (C.2.2.2.2.2.1.2 5 _ rfl).1⟩
  obtain ⟨ty, hty, harr⟩ := harr
  exact W.aald (v := vr G (f (w32 a))) C.1 C.2.1 h1 (harr N _) hty (fun q => by cases q) (by rw [arrV_size]; exact i1) (by rw [arrV_read _ _ i2, i3, hv]) rfl rfl hd (n hb z hz H locs ls hH hlo hlv)
-- returns
theorem z_iret {vz : T → Option Value} {wz : T → WD} (C : CX X G nL cc own) (R : RT X (some .int)) {zv : T} (hz : vz zv = some (vi a)) (hw : wz zv = w) (hd : decode cc pc = .ok (.ireturn, 1)) : ZZ X G nL (QM X G vz wz cn) cn (some zv) w pc lv [vi a] := by
  intro z h0 H locs ls hH hlo hlv
  cases h0
  exact W.iret (hlocks := R.2) C.1 C.2.1 R.1 (fun t ht hW => ⟨by rw [hz]; rfl, by rw [ht, hw]; exact hH⟩) hlo hd
theorem z_zret {vz : T → Option Value} {wz : T → WD} (C : CX X G nL cc own) (R : RT X (some .boolean)) (hn : narrow .boolean (vi a) = vi a) {zv : T} (hz : vz zv = some (vi a)) (hw : wz zv = w) (hd : decode cc pc = .ok (.ireturn, 1)) : ZZ X G nL (QM X G vz wz cn) cn (some zv) w pc lv [vi a] := by
  intro z h0 H locs ls hH hlo hlv
  cases h0
  exact W.zret (hlocks := R.2) C.1 C.2.1 R.1 hn (fun t ht hW => ⟨by rw [hz]; rfl, by rw [ht, hw]; exact hH⟩) hlo hd
theorem z_lret {vz : T → Option Value} {wz : T → WD} (C : CX X G nL cc own) (R : RT X (some .long)) {zv : T} (hz : vz zv = some (vl a)) (hw : wz zv = w) (hd : decode cc pc = .ok (.lreturn, 1)) : ZZ X G nL (QM X G vz wz cn) cn (some zv) w pc lv [vl a] := by
  intro z h0 H locs ls hH hlo hlv
  cases h0
  exact W.lret (hlocks := R.2) C.1 C.2.1 R.1 (fun t ht hW => ⟨by rw [hz]; rfl, by rw [ht, hw]; exact hH⟩) hlo hd
theorem z_vret {vz : T → Option Value} {wz : T → WD} (C : CX X G nL cc own) (R : RT X none) {zv : T} (hz : vz zv = none) (hw : wz zv = w) (hd : decode cc pc = .ok (.return_, 1)) : ZZ X G nL (QM X G vz wz cn) cn (some zv) w pc lv [] := by
  intro z h0 H locs ls hH hlo hlv
  cases h0
  exact W.vret (hlocks := R.2) C.1 C.2.1 R.1 (fun t ht hW => ⟨by rw [hz], by rw [ht, hw]; exact hH⟩) hlo hd
theorem z_aret {vz : T → Option Value} {wz : T → WD} (C : CX X G nL cc own) {nm : String} (R : RT X (some (.object nm))) {zv : T} (hz : vz zv = some (vr G k)) (hw : wz zv = w) (hd : decode cc pc = .ok (.areturn, 1)) : ZZ X G nL (QM X G vz wz cn) cn (some zv) w pc lv [vr G k] := by
  intro z h0 H locs ls hH hlo hlv
  cases h0
  exact W.aret (hlocks := R.2) C.1 C.2.1 R.1 (Or.inl ⟨_, rfl⟩) (Or.inr ⟨_, rfl⟩) (fun t ht hW => ⟨by rw [hz]; rfl, by rw [ht, hw]; exact hH⟩) hlo hd
-- calls
theorem z_run {Tc : Type} {vz : Tc → Option Value} {wz : Tc → WD} {q : Option Tc} {f : Tc → Option T} {stk : List Value} {mc ms : Nat} {av : List Value}
    (hr : ∀ r, q = some r → ∀ (H : Heap) (locs : List Loc) (ls : Array Slot), Hold G w H → lv_has ls nL lv → va_Run (mP X) (mL X) (mE X) (mR X) (mS X) (mM X) (mA X) (mB X) (mH X) (mC X) H locs cn.1 cn.2 mc ms (F0 (mM X) pc ls stk) st (QcM G (vz r) (wz r) av.toArray) (fun q => gb G ≤ q))
    (n : ∀ r, q = some r → ZZ X G nL Qz (cn.1 + mc, cn.2 + ms) (f r) (wz r) (pc + 3) lv ((vz r).toList ++ st)) : ZZ X G nL Qz cn (q.bind f) w pc lv stk := by
  intro z hz H locs ls hH hlo hlv
  obtain ⟨r, hr0, hf⟩ := Option.bind_eq_some_iff.mp hz
  intro T0 hT X0
  obtain ⟨v, st₀, t, T', L, h0, X', hL, e1, e2, ⟨hv, hh⟩, stp⟩ := hr r hr0 H locs ls hH hlv T0 hT X0
  cases hv
  obtain ⟨t2, a1, b1⟩ := n r hr0 z hf T'.heap (locs ++ L) ls (by rw [e1]; exact hh) (fun q hq => by
    rcases List.mem_append.mp hq with h | h
    · exact hlo q h
    · exact hL q h) hlv T' rfl X'
  exact ⟨t2, stp t2 a1, b1⟩
/-- what the tables say of a method that is called -/
def MW (y : MethodName) (bytes : ByteArray) (maxL : Nat) (ret : Option FieldType) (n : Nat) : Prop := Cond.code y bytes maxL ret ∈ UW ∧ Cond.initialized y.cls ∈ UW ∧ (y.cls ≠ "java/lang/invoke/MethodHandle" ∧ y.cls ≠ "java/lang/invoke/VarHandle" ∧ (parseMethodDescriptor y.desc).map (fun d => d.parameters.length) = some n)
def MV (y : MethodName) (ci : Nat) : Prop := (∃ (C : String) (T : u_T) (N : Nat), vwCl[ci]? = some (C, T, N) ∧ C = y.cls) ∧ Cond.instanceMethod y ∈ UW ∧ Cond.selects y.cls y y ∈ UW
theorem uw_code {y : MethodName} {bytes : ByteArray} {maxL : Nat} {ret : Option FieldType} (h : Cond.code y bytes maxL ret ∈ UW) : GoodIn UW (.code y bytes maxL ret :: UW) := fun w hw => (List.mem_cons.mp hw).elim (fun e => e ▸ uw_good _ h) (uw_good w)
theorem z_callV (C : CX X G nL cc own) {rc rm : Room} (hR : mR X = rc) {Tc : Type} {vz : Tc → Option Value} {wz : Tc → WD} {q : Option Tc} {f : Tc → Option T} {y : MethodName} {bytes : ByteArray} {maxL : Nat} {ret : Option FieldType} {As : List Value} {ci idx m : Nat} {stk : List Value}
    (t : Ctr (mL X) G y bytes maxL ret rm (vr G k :: As) w vz wz q) (mw : MW y bytes maxL ret m) (mv : MV y ci) (hl : Cond.methodLink own idx y ∈ UW) (hk : w.2.1 k = (0, ci) ∧ 0 ≤ k ∧ k < w.1) (hAs : As.length = m) (hst : stk = As.reverse ++ vr G k :: st) (hcat : (st.map fun v => v.category).sum ≤ 8)
    (hroom : rm.frames + 1 ≤ rc.frames ∧ 8 + (maxL + 11) + rm.locals ≤ rc.locals) (hcn : cn.1 + rm.cells ≤ rc.cells ∧ cn.2 + rm.slots ≤ rc.slots) (hd : decode cc pc = .ok (.invokevirtual idx, 3)) (pn : Nat) (hn : pc + 3 = pn)
    (n : ∀ r, q = some r → ZZ X G nL Qz (cn.1 + rm.cells, cn.2 + rm.slots) (f r) (wz r) pn lv ((vz r).toList ++ st)) : ZZ X G nL Qz cn (q.bind f) w pc lv stk := by
  subst hn; subst hR
  refine z_run (av := vr G k :: As) (fun r hq H locs ls hH hlv => ?_) n
  obtain ⟨⟨CN, TT, N, hc, hC⟩, hin, hse⟩ := mv
  have hts := C.2.2.2.2.1
  have cb : CallB (mR X) (mS X) (mA X) own idx y bytes maxL ret (.code y bytes maxL ret :: UW) rm rm.cells rm.slots m := callB_of m hts (uw_code mw.1) rfl rfl rfl (hts _ mw.2.1) (hts _ hl) mw.2.2 hroom
  refine va_runV (C := y.cls) (b := gb G + k.toNat) (As := As) (n := m) ⟨C.1, C.2.1, C.2.2.1, C.2.2.2.1, hts⟩ (t r hq) ⟨cb, hts _ hin, hts _ hse⟩ ⟨pcM_blind, ?_, fun U hU hW => ⟨rfl, by rw [hU]; exact hH, KK.moved hW C.2.2.2.2.2⟩⟩ rfl hAs hlv.1 hst (by simpa [JFrame.monitorRoom] using hcat) hd hcn
  obtain ⟨row, h1, cell, q1, q2, q3, q4⟩ := hH.at hk
  obtain ⟨hS, hfc, -⟩ := C.2.2.2.2.2.1.1 ci _ hc
  exact ⟨cell, q1, by rw [q3]; rfl, by rw [q2, ← hC]; exact hfc⟩
theorem z_callS (C : CX X G nL cc own) {rc rm : Room} (hR : mR X = rc) {Tc : Type} {vz : Tc → Option Value} {wz : Tc → WD} {q : Option Tc} {f : Tc → Option T} {y : MethodName} {bytes : ByteArray} {maxL : Nat} {ret : Option FieldType} {As : List Value} {idx m : Nat} {stk : List Value}
    (t : Ctr (mL X) G y bytes maxL ret rm As w vz wz q) (mw : MW y bytes maxL ret m) (ms : Cond.static y ∈ UW) (hl : Cond.methodLink own idx y ∈ UW) (hAs : As.length = m) (hst : stk = As.reverse ++ st) (hcat : (st.map fun v => v.category).sum ≤ 8)
    (hroom : rm.frames + 1 ≤ rc.frames ∧ 8 + (maxL + 11) + rm.locals ≤ rc.locals) (hcn : cn.1 + rm.cells ≤ rc.cells ∧ cn.2 + rm.slots ≤ rc.slots) (hd : decode cc pc = .ok (.invokestatic idx, 3)) (pn : Nat) (hn : pc + 3 = pn)
    (n : ∀ r, q = some r → ZZ X G nL Qz (cn.1 + rm.cells, cn.2 + rm.slots) (f r) (wz r) pn lv ((vz r).toList ++ st)) : ZZ X G nL Qz cn (q.bind f) w pc lv stk := by
  subst hn; subst hR
  refine z_run (av := As) (fun r hq H locs ls hH hlv => ?_) n
  have hts := C.2.2.2.2.1
  have cb : CallB (mR X) (mS X) (mA X) own idx y bytes maxL ret (.code y bytes maxL ret :: UW) rm rm.cells rm.slots m := callB_of m hts (uw_code mw.1) rfl rfl rfl (hts _ mw.2.1) (hts _ hl) mw.2.2 hroom
  exact va_runS (As := As) (n := m) ⟨C.1, C.2.1, C.2.2.1, C.2.2.2.1, hts⟩ (t r hq) ⟨cb, hts _ ms⟩ ⟨pcM_blind, fun U hU hW => ⟨rfl, by rw [hU]; exact hH, KK.moved hW C.2.2.2.2.2⟩⟩ rfl hAs hlv.1 hst (by simpa [JFrame.monitorRoom] using hcat) hd hcn
end HROWS
