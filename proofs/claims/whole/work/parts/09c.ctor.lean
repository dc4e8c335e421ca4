-- ROWS FOR THE CONSTRUCTORS: a world that grows; its references and numbers are lists of (cell, slot, value), the newest first
def LL (d : Int) : List (Int × Int × Int) → St
  | [] => fun _ _ => d
  | e :: l => fun a b => if a = e.1 ∧ b = e.2.1 then e.2.2 else LL d l a b
theorem up_LL (d : Int) (l : List (Int × Int × Int)) (k j v : Int) : up (LL d l) k j v = LL d ((k, j, v) :: l) := rfl
def wl (n : Nat) (l1 l2 : List (Int × Int × Int)) : WD := (n, κ0, LL (-1) l1, LL 0 l2)
def frs (n : Nat) (l : List (Int × Int × Int)) : Prop := ∀ e ∈ l, e.1 < (n : Int)
theorem frs_c {n : Nat} {l : List (Int × Int × Int)} {e : Int × Int × Int} (h : e.1 < (n : Int)) (hl : frs n l) : frs n (e :: l) := fun x hx => (List.mem_cons.mp hx).elim (fun q => q ▸ h) (hl x)
theorem frs_m {n m : Nat} {l : List (Int × Int × Int)} (hl : frs n l) (h : n ≤ m) : frs m l := fun x hx => by have := hl x hx; omega
theorem LL_frs {d : Int} {n : Nat} : ∀ {l : List (Int × Int × Int)}, frs n l → ∀ b : Int, LL d l (n : Int) b = d := by
  intro l
  induction l with
  | nil => intro _ b; rfl
  | cons e l ih =>
    intro h b
    have h1 := h e List.mem_cons_self
    show (if (n : Int) = e.1 ∧ b = e.2.1 then e.2.2 else LL d l n b) = d
    rw [if_neg (by omega)]
    exact ih (fun x hx => h x (List.mem_cons_of_mem _ hx)) b
theorem LL_other {d : Int} {e : Int × Int × Int} {l : List (Int × Int × Int)} {i : Int} (h : i ≠ e.1) : LL d (e :: l) i = LL d l i := by
  funext b
  show (if i = e.1 ∧ b = e.2.1 then e.2.2 else LL d l i b) = _
  rw [if_neg (fun q => h q.1)]
section CROWS
variable {X : MX} {G : GG} {nL : Nat} {T : Type} {Qz : T → State → Prop} {cn : Nat × Nat} {o : Option T} {w : WD} {pc : Nat} {lv : List (Nat × Value)} {st : List Value} {cc : ByteArray} {own : String} {a b k : Int} {n : Nat} {l1 l2 : List (Int × Int × Int)} {rc : Room}
/-- a cell comes -/
theorem Hold.push {w w' : WD} {H H1 : Heap} (hH : Hold G w H) (hz : H1.size = gb G + w.1 + 1) (ho : ∀ q : Nat, q < gb G + w.1 → H1[q]? = H[q]?) (hN : w'.1 = w.1 + 1) (hw : w'.2 = w.2) (ha : holdAt G (w.2.1 (w.1 : Nat)) (w.2.2.1 (w.1 : Nat)) (w.2.2.2 (w.1 : Nat)) (gb G + w.1) H1) : Hold G w' H1 := by
  refine ⟨by rw [hz, hN]; omega, fun q hq => by rw [ho q (by omega)]; exact hH.2.1 q hq, fun k hk => ?_⟩
  rw [hw]
  by_cases hkn : k = w.1
  · subst hkn; exact ha
  · exact (hH.2.2 k (by omega)).kept (ho _ (by omega))
theorem fval_def (G : GG) (t : FieldType) (h : t ≠ .float ∧ t ≠ .double) : fval G t (-1) 0 = defaultValue t := by
  cases t <;> first | rfl | exact absurd rfl h.1 | exact absurd rfl h.2
theorem nofl : ∀ ci : Nat, ci < 12 → ∀ j : Nat, j < 60 → (tyOf ci j ≠ .float ∧ tyOf ci j ≠ .double) := by decide +kernel
theorem nf_le : ∀ ci : Nat, ci < 12 → (vwCl.map (fun q => q.2.2)).getD ci 0 ≤ 59 := by decide
theorem cf_nofl {ci : Nat} {CN : String} {TT : u_T} {nf : Nat} (h : CF ci CN TT nf) {j : Nat} (hj : j < nf) : tyOf ci j ≠ .float ∧ tyOf ci j ≠ .double := by
  have h1 : ci < 12 := (List.getElem?_eq_some_iff.mp h.1).1
  have h2 := nf_le ci h1
  have h3 : (vwCl.map (fun q => q.2.2)).getD ci 0 = nf := by
    rw [List.getD_eq_getElem?_getD, List.getElem?_map, h.1]; rfl
  exact nofl ci h1 j (by omega)
theorem c_new (C : CX X G nL cc own) (hR : mR X = rc) {ci idx nf : Nat} {CN : String} {TT : u_T} (hCF : CF ci CN TT nf) (hκ : kL.getD n (99, 0) = (0, ci)) (hcl : Cond.classLink own idx CN ∈ UW) (hin : Cond.instantiable CN nf ∈ UW) (hini : Cond.initialized CN ∈ UW) (f1 : frs n l1) (f2 : frs n l2) (hroom : cn.1 + 1 ≤ rc.cells ∧ cn.2 + nf ≤ rc.slots) (hd : decode cc pc = .ok (.new idx, 3)) (pn : Nat) (hn : pc + 3 = pn) (hk : (n : Int) = k)
    (m : ZZ X G nL Qz (cn.1 + 1, cn.2 + nf) o (wl (n + 1) l1 l2) pn lv (vr G k :: st)) : ZZ X G nL Qz cn o (wl n l1 l2) pc lv st := by
  subst hn; subst hk; subst hR
  intro z hz H locs ls hH hlo hlv
  have hts := C.2.2.2.2.1
  have hKn := C.2.2.2.2.2.1.1 ci _ hCF.1
  refine W.newcK C.1 C.2.1 C.2.2.2.1 (hts _ hcl) (hts _ hin) (hts _ hini) rfl hd hroom.1 hroom.2 hKn.2.1 hH.1 fun H1 kC hkC e1 z1 o1 => ?_
  refine m z hz H1 locs ls (Hold.push (w := wl n l1 l2) (w' := wl (n + 1) l1 l2) hH z1 o1 rfl rfl ?_) hlo hlv
  have hκ' : κ0 (n : Int) = (0, ci) := hκ
  show holdAt G (κ0 (n : Int)) (LL (-1) l1 (n : Int)) (LL 0 l2 (n : Int)) (gb G + n) H1
  rw [hκ']
  refine ⟨_, hCF.1, (u_born (tyOf ci) hts hCF.2.2.2 hKn hkC e1 hCF.2.1).to (fun j hj => ?_)⟩
  rw [LL_frs f1, LL_frs f2, fval_def G _ (cf_nofl hCF hj)]
theorem c_newa (C : CX X G nL cc own) (hR : mR X = rc) {t N : Nat} {atype : ArrayType} (harr : Cond.arrayClass (newarray.typeOf atype) ∈ UW) (ht : (t = 1 ∧ newarray.typeOf atype = .int) ∨ (t = 2 ∧ newarray.typeOf atype = .long) ∨ (t = 3 ∧ newarray.typeOf atype = .boolean)) (hκ : kL.getD n (99, 0) = (t, N)) (f2 : frs n l2) (ha : w32 a = (N : Int) ∧ N < 100000) (hroom : cn.1 + 1 ≤ rc.cells ∧ cn.2 + N ≤ rc.slots) (hd : decode cc pc = .ok (.newarray atype, 2)) (pn : Nat) (hn : pc + 2 = pn) (hk : (n : Int) = k)
    (m : ZZ X G nL Qz (cn.1 + 1, cn.2 + N) o (wl (n + 1) l1 l2) pn lv (vr G k :: st)) : ZZ X G nL Qz cn o (wl n l1 l2) pc lv (vi a :: st) := by
  subst hn; subst hk; subst hR
  intro z hz H locs ls hH hlo hlv
  have hts := C.2.2.2.2.1
  have hcl : (i32 a).toNatClampNeg = N := by
    show (w32 a).toNat = N
    rw [ha.1]; omega
  have hcb : componentBytes (newarray.typeOf atype) ≤ 8 := by rcases ht with ⟨-, h⟩ | ⟨-, h⟩ | ⟨-, h⟩ <;> rw [h] <;> decide
  refine va_newaK C.1 C.2.1 (hts _ harr) rfl hd rfl (fun q => by have q2 := (i32_lt a 0).mp q; rw [w32_0, ha.1] at q2; omega) hcl (by have := Nat.mul_le_mul_left N hcb; omega) hroom.1 hroom.2 hH.1 fun H1 cA e1 z1 o1 hAr hfc => ?_
  refine m z hz H1 locs ls (Hold.push (w := wl n l1 l2) (w' := wl (n + 1) l1 l2) hH z1 o1 rfl rfl ?_) hlo hlv
  have hκ' : κ0 (n : Int) = (t, N) := hκ
  show holdAt G (κ0 (n : Int)) (LL (-1) l1 (n : Int)) (LL 0 l2 (n : Int)) (gb G + n) H1
  rw [hκ']
  rcases ht with ⟨rfl, h⟩ | ⟨rfl, h⟩ | ⟨rfl, h⟩
  · rw [h] at e1 hfc
    have hc : cA = G.2.2 0 := Option.some.inj (hfc.symm.trans (C.2.2.2.2.2.1.2 0 _ rfl).2)
    show H1[gb G + n]? = some (arrV (G.2.2 0) N (fun j => vi (LL 0 l2 (n : Int) j)))
    have e : (fun j : Nat => vi (LL 0 l2 (n : Int) j)) = fun _ => defaultValue .int := by funext j; rw [LL_frs f2]; rfl
    rw [e, ← hc]; exact e1
  · rw [h] at e1 hfc
    have hc : cA = G.2.2 1 := Option.some.inj (hfc.symm.trans (C.2.2.2.2.2.1.2 1 _ rfl).2)
    show H1[gb G + n]? = some (arrV (G.2.2 1) N (fun j => vl (LL 0 l2 (n : Int) j)))
    have e : (fun j : Nat => vl (LL 0 l2 (n : Int) j)) = fun _ => defaultValue .long := by funext j; rw [LL_frs f2]; rfl
    rw [e, ← hc]; exact e1
  · rw [h] at e1 hfc
    have hc : cA = G.2.2 2 := Option.some.inj (hfc.symm.trans (C.2.2.2.2.2.1.2 2 _ rfl).2)
    show H1[gb G + n]? = some (arrV (G.2.2 2) N (fun j => vi (LL 0 l2 (n : Int) j)))
    have e : (fun j : Nat => vi (LL 0 l2 (n : Int) j)) = fun _ => defaultValue .boolean := by funext j; rw [LL_frs f2]; rfl
    rw [e, ← hc]; exact e1
/-- which class an array of references is of -/
def aoC (t : Nat) : String := match t with | 0 => RX5 | 1 => RX6 | _ => RX9
theorem kk_ao {s : State} (h : KK G s) (t : Nat) : va_AO (aoC t) s := match t with | 0 => h.2.2.2.1 | 1 => h.2.2.2.2.1 | _ + 2 => h.2.2.2.2.2
theorem kk_ar {s : State} (h : KK G s) (t : Nat) (ht : t < 3) : ArrOfT s (G.2.2 (t + 3)) (.object (aoC t)) ∧ va_RA s (G.2.2 (t + 3)) (.object (aoC t)) := match t, ht with | 0, _ => h.1.2 3 _ rfl | 1, _ => h.1.2 4 _ rfl | 2, _ => h.1.2 5 _ rfl
theorem c_anew (C : CX X G nL cc own) (hR : mR X = rc) {t N idx : Nat} (ht : t < 3) (hcl : Cond.classLink own idx (aoC t) ∈ UW) (hκ : kL.getD n (99, 0) = (t + 4, N)) (f1 : frs n l1) (ha : w32 a = (N : Int) ∧ N < 100000) (hroom : cn.1 + 1 ≤ rc.cells ∧ cn.2 + N ≤ rc.slots) (hd : decode cc pc = .ok (.anewarray idx, 3)) (pn : Nat) (hn : pc + 3 = pn) (hk : (n : Int) = k)
    (m : ZZ X G nL Qz (cn.1 + 1, cn.2 + N) o (wl (n + 1) l1 l2) pn lv (vr G k :: st)) : ZZ X G nL Qz cn o (wl n l1 l2) pc lv (vi a :: st) := by
  subst hn; subst hk; subst hR
  intro z hz H locs ls hH hlo hlv
  have hts := C.2.2.2.2.1
  have hcl' : (i32 a).toNatClampNeg = N := by
    show (w32 a).toNat = N
    rw [ha.1]; omega
  refine W.anew C.1 C.2.1 C.2.2.2.1 (hts _ hcl) (va_AO.use (kk_ao C.2.2.2.2.2 t)) rfl hd rfl (fun q => by have q2 := (i32_lt a 0).mp q; rw [w32_0, ha.1] at q2; omega) (by rw [hcl']; omega) hroom.1 (by rw [hcl']; exact hroom.2) fun cA kA comp q1 q2 q3 q4 => ?_
  rw [hcl', show H.size = gb G + n from hH.1]
  have hc : cA = G.2.2 (t + 3) := by
    obtain ⟨kA', comp', r1, r2, r3, r4⟩ := (kk_ar C.2.2.2.2.2 t ht).2
    exact Option.some.inj (q1.symm.trans r4)
  have hH1 : (H.push ({ cls := cA, slots := Array.replicate N .null, vm := .none } : Cell))[gb G + n]? = some (arrV (G.2.2 (t + 3)) N (fun _ => .null)) := by
    rw [← show H.size = gb G + n from hH.1, Array.getElem?_push_size, ← arrV_new, hc]
  refine m z hz _ locs ls (Hold.push (w := wl n l1 l2) (w' := wl (n + 1) l1 l2) hH (by rw [Array.size_push, show H.size = gb G + n from hH.1]; rfl) (fun q hq => by rw [Array.getElem?_push, if_neg (by rw [show H.size = gb G + n from hH.1]; exact Nat.ne_of_lt hq)]) rfl rfl ?_) hlo hlv
  have hκ' : κ0 (n : Int) = (t + 4, N) := hκ
  show holdAt G (κ0 (n : Int)) (LL (-1) l1 (n : Int)) (LL 0 l2 (n : Int)) (gb G + n) _
  rw [hκ']
  show _ = some (arrV (G.2.2 (t + 3)) N (fun j => rv G (LL (-1) l1 (n : Int) j)))
  have e : (fun j : Nat => rv G (LL (-1) l1 (n : Int) j)) = fun _ => .null := by funext j; rw [LL_frs f1]; rfl
  rw [e]; exact hH1
theorem c_obj (C : CX X G nL cc own) (hR : mR X = rc) {idx : Nat} (hl : Cond.methodLink own idx Lib.objectInit ∈ UW) (hcat : (st.map fun v => v.category).sum ≤ 8) (hroom : 1 ≤ rc.frames ∧ 20 ≤ rc.locals) (hd : decode cc pc = .ok (.invokespecial idx, 3)) (pn : Nat) (hn : pc + 3 = pn) (m : ZZ X G nL Qz cn o w pn lv st) : ZZ X G nL Qz cn o w pc lv (vr G k :: st) := by
  subst hn; subst hR
  intro z hz H locs ls hH hlo hlv
  have hts := C.2.2.2.2.1
  exact W.objInit C.1 C.2.1 C.2.2.2.1 (hts _ hl) (hts (.instanceMethod Lib.objectInit) (uw_in tb_27 rfl)) (hts (.code Lib.objectInit ⟨#[0xb1]⟩ 1 none) (uw_in tb_28 rfl)) rfl (by rw [C.2.2.1]; exact hlv.1) rfl hd hroom.1 (by show 2 * 0 + _ + 12 ≤ _; omega) (m z hz H locs ls hH hlo hlv)
theorem wl_at {k : Int} {kd : Nat × Nat} (h : κ0 k = kd ∧ 0 ≤ k ∧ k < (n : Int)) : (wl n l1 l2).2.1 k = kd ∧ 0 ≤ k ∧ k < (wl n l1 l2).1 := h
theorem c_putI (C : CX X G nL cc own) {idx ci j : Nat} {j' : Int} (F : FLI own idx ci j j') (hk : κ0 k = (0, ci) ∧ 0 ≤ k ∧ k < (n : Int)) (hd : decode cc pc = .ok (.putfield idx, 3)) (pn : Nat) (hn : pc + 3 = pn) (m : ZZ X G nL Qz cn o (wl n l1 ((k, j', a) :: l2)) pn lv st) : ZZ X G nL Qz cn o (wl n l1 l2) pc lv (vi a :: vr G k :: st) := by
  obtain ⟨F, ht, rfl⟩ := F
  refine z_put C F (w := wl n l1 l2) (w' := wl n l1 ((k, (j : Int), a) :: l2)) hk (by rw [ht]; rfl) (by rw [ht]; rfl) ⟨rfl, rfl⟩ (fun i hi => ⟨rfl, LL_other hi⟩) (fun i hi => ?_) ?_ hd pn hn m
  · have h : LL 0 ((k, (j : Int), a) :: l2) k (i : Int) = LL 0 l2 k i := by
      show (if k = k ∧ (i : Int) = j then a else _) = _
      rw [if_neg (by omega)]
    show fval G (tyOf ci i) (LL (-1) l1 k i) (LL 0 ((k, (j : Int), a) :: l2) k i) = _
    rw [h]; rfl
  · have h : LL 0 ((k, (j : Int), a) :: l2) k (j : Int) = a := by
      show (if k = k ∧ (j : Int) = j then a else _) = _
      rw [if_pos ⟨rfl, rfl⟩]
    show fval G (tyOf ci j) (LL (-1) l1 k j) (LL 0 ((k, (j : Int), a) :: l2) k j) = _
    rw [h, ht]; rfl
/-- a final field of references, in its constructor -/
theorem c_putF (C : CX X G nL cc own) (hnm : (mH X).name = "<init>") {idx ci j : Nat} {j' k2 : Int} (F : FLF own idx ci j ∧ isRefTy (tyOf ci j) = true ∧ (j : Int) = j') (hk : κ0 k = (0, ci) ∧ 0 ≤ k ∧ k < (n : Int)) (h2 : 0 ≤ k2) (hd : decode cc pc = .ok (.putfield idx, 3)) (pn : Nat) (hn : pc + 3 = pn) (m : ZZ X G nL Qz cn o (wl n ((k, j', k2) :: l1) l2) pn lv st) : ZZ X G nL Qz cn o (wl n l1 l2) pc lv (vr G k2 :: vr G k :: st) := by
  subst hn
  obtain ⟨⟨CN, TT, N, hCF, hj, hl, hfin, hdecl⟩, hty, rfl⟩ := F
  obtain ⟨hc, htyp, hnms, hin⟩ := id hCF
  intro z hz H locs ls hH hlo hlv
  obtain ⟨row, h1, cell, q1, q2, q3, q4⟩ := hH.at (w := wl n l1 l2) hk
  have hr : row = (CN, TT, N) := Option.some.inj (h1.symm.trans hc)
  subst hr
  obtain ⟨hS, hfc, kC, hkC, hkind⟩ := C.2.2.2.2.2.1.1 ci _ hc
  obtain ⟨cf, kf, fi, f, hi, hsl⟩ := hS j hj
  have hlay := C.2.2.2.2.1 _ (hin _ (u_in_lay hj))
  unfold u_lay at hlay
  rw [if_pos hfin] at hlay
  have hst := (u_facts hfc hkC (u_lays C.2.2.2.2.1 hin hj) hi).1
  have hcf : (mM X).cls = cf := by
    obtain ⟨_, _, c', _, _, _, -, -, hf', -, -, -, hown2, -⟩ := Cond.laysFinal_spec hlay
    have e1 : c' = cf := by have := hi.symm.trans hf'; simp at this; exact this.1.symm
    rw [hdecl] at hown2
    rw [← e1]; exact Option.some.inj (C.2.2.2.1.symm.trans hown2)
  have hnf : narrow (tyOf ci j) (vr G k2) = vr G k2 ∧ fits (tyOf ci j) (vr G k2) = true := by
    cases h : tyOf ci j <;> rw [h] at hty <;> first | exact ⟨rfl, rfl⟩ | cases hty
  have h6 := u_fits hfc hkC hkind (Or.inr hlay) hi (htyp j hj) hnf.1 hnf.2
  refine W.putFinK C.1 C.2.1 C.2.2.2.1 (C.2.2.2.2.1 _ hl) hi hst hcf hnm (by rw [q2]; exact h6) q1 q3 (by rw [hsl]; exact k2_hasslot (q4 j hj)) rfl rfl hd fun H' e1 e2 e3 => ?_
  rw [hsl] at e1 ⊢
  refine m z hz H' _ ls (Hold.set (w := wl n l1 l2) (w' := wl n ((k, (j : Int), k2) :: l1) l2) hH hk.2 rfl e2 e3 (fun i hi => ⟨rfl, LL_other hi, rfl⟩) ?_) (locs_app hlo) hlv
  show holdAt G (κ0 k) _ _ _ _
  rw [hk.1]
  refine ⟨_, hc, t_OB.to (V := updV _ j (vr G k2)) ⟨_, e1, q2, q3, ob_put hj hCF C.2.2.2.2.1 C.2.2.2.2.2 q4 (vr G k2)⟩ (fun i _ => ?_)⟩
  unfold updV
  split
  · rename_i h; subst h
    show _ = fval G (tyOf ci i) (LL (-1) ((k, (i : Int), k2) :: l1) k i) (LL 0 l2 k i)
    have h : LL (-1) ((k, (i : Int), k2) :: l1) k (i : Int) = k2 := by
      show (if k = k ∧ (i : Int) = i then k2 else _) = _
      rw [if_pos ⟨rfl, rfl⟩]
    have hr : rv G k2 = vr G k2 := by unfold rv; rw [if_neg (by omega)]
    rw [h]
    cases hq : tyOf ci i <;> rw [hq] at hty <;> first | exact hr.symm | cases hty
  · rename_i h
    show _ = fval G (tyOf ci i) (LL (-1) ((k, (j : Int), k2) :: l1) k i) (LL 0 l2 k i)
    have h : LL (-1) ((k, (j : Int), k2) :: l1) k (i : Int) = LL (-1) l1 k i := by
      show (if k = k ∧ (i : Int) = j then k2 else _) = _
      rw [if_neg (by omega)]
    rw [h]; rfl
theorem c_getR (C : CX X G nL cc own) {idx ci j : Nat} {j' k2 : Int} (F : FLR own idx ci j j') (hk : κ0 k = (0, ci) ∧ 0 ≤ k ∧ k < (n : Int)) (h2 : LL (-1) l1 k j' = k2 ∧ 0 ≤ k2) (hd : decode cc pc = .ok (.getfield idx, 3)) (pn : Nat) (hn : pc + 3 = pn) (m : ZZ X G nL Qz cn o (wl n l1 l2) pn lv (vr G k2 :: st)) : ZZ X G nL Qz cn o (wl n l1 l2) pc lv (vr G k :: st) := by
  obtain ⟨F, ht, rfl⟩ := F
  refine z_get C F (w := wl n l1 l2) hk ?_ hd pn hn m
  show fval G (tyOf ci j) (LL (-1) l1 k j) (LL 0 l2 k j) = _
  have hr : rv G (LL (-1) l1 k j) = vr G k2 := by rw [h2.1]; unfold rv; rw [if_neg]; omega
  cases hty : tyOf ci j <;> rw [hty] at ht <;> first | exact hr | cases ht
theorem c_iast (C : CX X G nL cc own) {N : Nat} (hk : κ0 k = (1, N) ∧ 0 ≤ k ∧ k < (n : Int)) (hd : decode cc pc = .ok (.iastore, 1)) (pn : Nat) (hn : pc + 1 = pn) {a' : Int} (ha : w32 a = a') (hb : 0 ≤ a' ∧ a' < (N : Int)) (m : ZZ X G nL Qz cn o (wl n l1 ((k, a', b) :: l2)) pn lv st) : ZZ X G nL Qz cn o (wl n l1 l2) pc lv (vi b :: vi a :: vr G k :: st) := by
  have h := z_iast (w := wl n l1 l2) (b := b) (st := st) (lv := lv) (Qz := Qz) (cn := cn) (o := o) C hk hd pn hn ha (fun _ => m)
  intro z hz
  exact h z (by unfold gd; rw [if_pos hb]; exact hz)
theorem LL_fill (d : Int) (l : List (Int × Int × Int)) (k v a b : Int) : ∀ (is : List Nat), LL d (is.map (fun i : Nat => (k, (i : Int), v)) ++ l) a b = if a = k ∧ ∃ i ∈ is, b = (i : Int) then v else LL d l a b := by
  intro is
  induction is with
  | nil => rw [if_neg (fun q => by obtain ⟨_, i, h, _⟩ := q; cases h)]; rfl
  | cons i is ih =>
    show (if a = k ∧ b = (i : Int) then v else LL d (is.map (fun i : Nat => (k, (i : Int), v)) ++ l) a b) = _
    by_cases h : a = k ∧ b = (i : Int)
    · rw [if_pos h, if_pos ⟨h.1, i, List.mem_cons_self, h.2⟩]
    · rw [if_neg h, ih]
      by_cases h2 : a = k ∧ ∃ j ∈ is, b = (j : Int)
      · obtain ⟨q1, j, q2, q3⟩ := h2
        rw [if_pos ⟨q1, j, q2, q3⟩, if_pos ⟨q1, j, List.mem_cons_of_mem _ q2, q3⟩]
      · rw [if_neg h2, if_neg (fun q => ?_)]
        obtain ⟨q1, j, q2, q3⟩ := q
        rcases List.mem_cons.mp q2 with rfl | q2
        · exact h ⟨q1, q3⟩
        · exact h2 ⟨q1, j, q2, q3⟩
theorem fill_LL (d : Int) (l : List (Int × Int × Int)) (k v : Int) (N : Nat) : fillS (LL d l) k N v = LL d ((List.range N).map (fun i : Nat => (k, (i : Int), v)) ++ l) := by
  funext a b
  rw [LL_fill]
  unfold fillS
  by_cases h : a = k ∧ 0 ≤ b ∧ b < (N : Int)
  · rw [if_pos h, if_pos ⟨h.1, b.toNat, List.mem_range.mpr (by omega), by omega⟩]
  · rw [if_neg h, if_neg (fun q => ?_)]
    obtain ⟨q1, i, q2, q3⟩ := q
    have := List.mem_range.mp q2
    exact h ⟨q1, by omega, by omega⟩
theorem c_fill (C : CX X G nL cc own) (hR : mR X = rc) {idx : Nat} (hl : Cond.methodLink own idx yJ7_fill_53178 ∈ UW) {N : Nat} (hN : N < 2147483648) (hk : κ0 k = (1, N) ∧ 0 ≤ k ∧ k < (n : Int)) (hcat : (st.map fun v => v.category).sum ≤ 8) (hroom : 1 ≤ rc.frames ∧ 23 ≤ rc.locals) (hcn : cn.1 ≤ rc.cells ∧ cn.2 ≤ rc.slots) {l2' : List (Int × Int × Int)} (hl2 : (List.range N).map (fun i : Nat => (k, (i : Int), a)) ++ l2 = l2') (hd : decode cc pc = .ok (.invokestatic idx, 3)) (pn : Nat) (hn : pc + 3 = pn) (m : ZZ X G nL Qz cn o (wl n l1 l2') pn lv st) : ZZ X G nL Qz cn o (wl n l1 l2) pc lv (vi a :: vr G k :: st) := by
  subst hl2
  refine z_fill (w := wl n l1 l2) C hR hl hN hk hcat hroom hcn hd pn hn ?_
  have e : wfill (wl n l1 l2) k N a = wl n l1 ((List.range N).map (fun i : Nat => (k, (i : Int), a)) ++ l2) := by
    unfold wfill wl
    show (n, κ0, LL (-1) l1, fillS (LL 0 l2) k N a) = _
    rw [fill_LL]
  rw [e]; exact m
theorem c_aast (C : CX X G nL cc own) {t N ci : Nat} {CN : String} {TT : u_T} {nf : Nat} (ht : t < 3) (hCF : CF ci CN TT nf) (hCN : CN = aoC t) (hk : κ0 k = (t + 4, N) ∧ 0 ≤ k ∧ k < (n : Int)) {k2 : Int} (hk2 : κ0 k2 = (0, ci) ∧ 0 ≤ k2 ∧ k2 < (n : Int)) (hd : decode cc pc = .ok (.aastore, 1)) (pn : Nat) (hn : pc + 1 = pn) {a' : Int} (ha : w32 a = a') (hb : 0 ≤ a' ∧ a' < (N : Int)) (m : ZZ X G nL Qz cn o (wl n ((k, a', k2) :: l1) l2) pn lv st) : ZZ X G nL Qz cn o (wl n l1 l2) pc lv (vr G k2 :: vi a :: vr G k :: st) := by
  subst hn; subst ha; subst hCN
  intro z hz H locs ls hH hlo hlv
  have h1 : H[gb G + k.toNat]? = some (arrV (G.2.2 (t + 3)) N (fun j => rv G (LL (-1) l1 k j))) := hH.at (w := wl n l1 l2) hk
  obtain ⟨row, r1, cellV, g1, g2, g3, -⟩ := hH.at (w := wl n l1 l2) hk2
  obtain ⟨i1, i2, i3⟩ := idx_in hb
  have hcls := (C.2.2.2.2.2.1.1 ci _ hCF.1).2
  obtain ⟨kA, comp, k1, kq, k3, -⟩ := (kk_ar C.2.2.2.2.2 t ht).2
  have hcomp : comp = G.2.1.1 ci := Option.some.inj (k3.symm.trans hcls.1)
  subst hcomp
  obtain ⟨kC, hkC, -⟩ := hcls.2
  refine W.aast C.1 C.2.1 h1 (fun q h => by cases h) (fun h => by cases h) k1 kq rfl hkC ⟨fun q => i1 (Or.inl q), by rw [arrV_size]; exact i2⟩ g1 (fun q h => by rw [g3] at h; cases h) (by rw [g2]; exact hkC) (by rw [g2]; exact va_assign hcls) rfl rfl hd fun H' e1 e2 e3 => ?_
  refine m z hz H' _ ls (hold_ast (w := wl n l1 l2) (w' := wl n ((k, w32 a, k2) :: l1) l2) hH hk ⟨rfl, rfl⟩ (fun i hi => ⟨LL_other hi, rfl⟩) e2 e3 ?_) (locs_app hlo) hlv
  show H'[_]? = some (arrV (G.2.2 (t + 3)) N (fun j => rv G (LL (-1) ((k, w32 a, k2) :: l1) k j)))
  have hr : Value.ref (gb G + k2.toNat) = rv G k2 := by unfold rv; rw [if_neg (by omega)]; rfl
  rw [e1, arrV_store, hr, ← up_LL, arr_up (f := rv G) i3]
/-- a call of a constructor: of a class' own or (h0 true) by a nest mate -/
theorem c_callI (C : CX X G nL cc own) (hR : mR X = rc) {rm : Room} {y : MethodName} {bytes : ByteArray} {maxL : Nat} {As : List Value} {idx m : Nat} {stk : List Value} {w w' : WD}
    (t : Ctr (mL X) G y bytes maxL none rm (vr G k :: As) w (fun _ : Unit => none) (fun _ : Unit => w') (some ())) (mw : MW y bytes maxL none m) (hi : Cond.instanceMethod y ∈ UW) (hy : y.name = "<init>") (hl : Cond.methodLink own idx y ∈ UW ∨ ∃ host, (own, idx, y, host) ∈ nestL) (hAs : As.length = m) (hst : stk = As.reverse ++ vr G k :: st) (hcat : (st.map fun v => v.category).sum ≤ 8)
    (hroom : rm.frames + 1 ≤ rc.frames ∧ 8 + (maxL + 11) + rm.locals ≤ rc.locals) (hcn : cn.1 + rm.cells ≤ rc.cells ∧ cn.2 + rm.slots ≤ rc.slots) (hd : decode cc pc = .ok (.invokespecial idx, 3)) (pn : Nat) (hn : pc + 3 = pn)
    (mm : ZZ X G nL Qz (cn.1 + rm.cells, cn.2 + rm.slots) o w' pn lv st) : ZZ X G nL Qz cn o w pc lv stk := by
  subst hn; subst hR
  show ZZ X G nL Qz cn ((some ()).bind fun _ => o) w pc lv stk
  refine z_run (av := vr G k :: As) (mc := rm.cells) (ms := rm.slots) (vz := fun _ : Unit => none) (wz := fun _ : Unit => w') (st := st) (fun r hq H locs ls hH hlv => ?_) (fun _ _ => mm)
  have hts := C.2.2.2.2.1
  rcases hl with hl | ⟨host, hl⟩
  · have cb : CallB (mR X) (mS X) (mA X) own idx y bytes maxL none (.code y bytes maxL none :: UW) rm rm.cells rm.slots m := callB_of m hts (uw_code mw.1) rfl rfl rfl (hts _ mw.2.1) (hts _ hl) mw.2.2 hroom
    exact va_runI (b := gb G + k.toNat) (As := As) (n := m) ⟨C.1, C.2.1, C.2.2.1, C.2.2.2.1, hts⟩ (t () rfl) ⟨cb, hy, hts _ hi⟩ ⟨pcM_blind, fun U hU hW => ⟨rfl, by rw [hU]; exact hH, KK.moved hW C.2.2.2.2.2⟩⟩ rfl hAs hlv.1 hst (by simpa [JFrame.monitorRoom] using hcat) hd hcn
  · have cb := va_cnB (R := mR X) (args := mA X) (host := host) (mc := rm.cells) (ms := rm.slots) m hts (uw_code mw.1) rfl rfl rfl (C.2.2.2.2.2.2.2.1 _ hl) (hts _ mw.2.1) mw.2.2 hroom
    exact va_runIN (b := gb G + k.toNat) (As := As) (n := m) ⟨C.1, C.2.1, C.2.2.1, C.2.2.2.1, hts⟩ (t () rfl) ⟨cb, hy, hts _ hi⟩ ⟨pcM_blind, fun U hU hW => ⟨rfl, by rw [hU]; exact hH, KK.moved hW C.2.2.2.2.2⟩⟩ rfl hAs hlv.1 hst (by simpa [JFrame.monitorRoom] using hcat) hd hcn
theorem c_ge_no (C : CX X G nL cc own) {off : Int} (hd : decode cc pc = .ok (.if_icmp .ge off, 3)) (tgt : Nat) (ht : (pc : Int) + off = (tgt : Int)) (pn : Nat) (hn : pc + 3 = pn) (h : ¬ w32 a ≥ w32 b) (m : ZZ X G nL Qz cn o w pn lv st) : ZZ X G nL Qz cn o w pc lv (vi b :: vi a :: st) := by
  have e : o = if w32 a ≥ w32 b then none else o := by rw [if_neg h]
  rw [e]
  exact z_icmp_ge C hd tgt ht pn hn rfl rfl (fun q => absurd q h) (fun _ => m)
theorem c_ge_yes (C : CX X G nL cc own) {off : Int} (hd : decode cc pc = .ok (.if_icmp .ge off, 3)) (tgt : Nat) (ht : (pc : Int) + off = (tgt : Int)) (pn : Nat) (hn : pc + 3 = pn) (h : w32 a ≥ w32 b) (m : ZZ X G nL Qz cn o w tgt lv st) : ZZ X G nL Qz cn o w pc lv (vi b :: vi a :: st) := by
  have e : o = if w32 a ≥ w32 b then o else none := by rw [if_pos h]
  rw [e]
  exact z_icmp_ge C hd tgt ht pn hn rfl rfl (fun _ => m) (fun q => absurd h q)
end CROWS
