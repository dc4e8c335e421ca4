-- Arrays.fill and System.arraycopy over a world
def fillS (σ : St) (k N v : Int) : St := fun a b => if a = k ∧ 0 ≤ b ∧ b < N then v else σ a b
def copyS (σ : St) (k1 k2 N : Int) : St := fun a b => if a = k2 ∧ 0 ≤ b ∧ b < N then σ k1 b else σ a b
def wfill (w : WD) (k N v : Int) : WD := (w.1, w.2.1, w.2.2.1, fillS w.2.2.2 k N v)
def rmJ7_fill : Room := { frames := 0, cells := 0, slots := 0, locals := 0 }
theorem wfill_0 (w : WD) (k v : Int) : wfill w k 0 v = w := by
  have h : fillS w.2.2.2 k 0 v = w.2.2.2 := by
    funext a b
    unfold fillS
    rw [if_neg (by omega)]
  unfold wfill
  rw [h]
theorem wfill_s (w : WD) (k i v : Int) (hi : 0 ≤ i) : wup (wfill w k i v) k i v = wfill w k (i + 1) v := by
  have h : up (fillS w.2.2.2 k i v) k i v = fillS w.2.2.2 k (i + 1) v := by
    funext a b
    unfold up fillS
    by_cases h1 : a = k ∧ b = i
    · rw [if_pos h1, if_pos (by omega)]
    · rw [if_neg h1]
      by_cases h2 : a = k ∧ 0 ≤ b ∧ b < i
      · rw [if_pos h2, if_pos (by omega)]
      · rw [if_neg h2, if_neg (by omega)]
  unfold wup wfill
  rw [h]
theorem z_alen {X : MX} {G : GG} {nL : Nat} {T : Type} {Qz : T → State → Prop} {cn : Nat × Nat} {o : Option T} {w : WD} {pc : Nat} {lv : List (Nat × Value)} {st : List Value} {cc : ByteArray} {own : String} {k : Int} (C : CX X G nL cc own) {N : Nat} (hk : w.2.1 k = (1, N) ∧ 0 ≤ k ∧ k < w.1) (hd : decode cc pc = .ok (.arraylength, 1)) (pn : Nat) (hn : pc + 1 = pn) (n : ZZ X G nL Qz cn o w pn lv (vi N :: st)) : ZZ X G nL Qz cn o w pc lv (vr G k :: st) := by
  subst hn
  intro z hz H locs ls hH hlo hlv
  have h1 : H[gb G + k.toNat]? = some (arrV (G.2.2 0) N (fun j => vi (w.2.2.2 k j))) := hH.at hk
  refine W.alen C.1 C.2.1 h1 ((C.2.2.2.2.2.1.2 0 _ rfl).1 N _) (n := i32 N) ?_ rfl rfl hd (n z hz H locs ls hH hlo hlv)
  rw [arrV_size]
  show Int32.ofNat N = Int32.ofInt N
  rfl
set_option maxRecDepth 100000 in
set_option maxHeartbeats 4000000 in
theorem fill_loop {X : MX} {G : GG} (C : CX X G 4 cJ7_fill_53178 RJ7) (R : RT X none) {w : WD} {k v : Int} {N : Nat} (hN : N < 2147483648) (hk : w.2.1 k = (1, N) ∧ 0 ≤ k ∧ k < w.1) : ∀ (n : Nat) (i : Int), 0 ≤ i → i ≤ N → (N : Int) - i ≤ n → ZZ X G 4 (QM X G (fun _ : Unit => none) (fun _ : Unit => wfill w k N v) (0, 0)) (0, 0) (some ()) (wfill w k i v) 5 [(0, vr G k), (1, vi v), (2, vi i), (3, vi N)] [] := by
  intro n
  induction n with
  | zero =>
    intro i h1 h2 h3
    obtain rfl : i = N := by omega
    refine z_iload_n C 2 rfl 2 rfl dJ7_fill_53178_5 6 rfl ?_
    refine z_iload_n C 3 rfl 3 rfl dJ7_fill_53178_6 7 rfl ?_
    have e : (some () : Option Unit) = if w32 (N : Int) ≥ w32 (N : Int) then some () else none := by rw [if_pos (by omega)]
    rw [e]
    refine z_icmp_ge C dJ7_fill_53178_7 20 (by decide) 10 rfl rfl rfl (fun _ => ?_) (fun _ => ?_)
    · exact z_vret C R rfl rfl dJ7_fill_53178_20
    · exact z_none
  | succ n ih =>
    intro i h1 h2 h3
    refine z_iload_n C 2 rfl 2 rfl dJ7_fill_53178_5 6 rfl ?_
    refine z_iload_n C 3 rfl 3 rfl dJ7_fill_53178_6 7 rfl ?_
    have ei : w32 i = i := w32_id (by omega)
    have eN : w32 (N : Int) = N := w32_id (by omega)
    by_cases hlt : i < N
    · have e : (some () : Option Unit) = if i ≥ (N : Int) then none else gd (0 ≤ i ∧ i < (N : Int)) (some ()) := by
        unfold gd
        rw [if_neg (by omega), if_pos (by omega)]
      rw [e]
      refine z_icmp_ge C dJ7_fill_53178_7 20 (by decide) 10 rfl ei eN (fun _ => ?_) (fun _ => ?_)
      · exact z_none
      · refine z_aload_n C 0 rfl 0 rfl dJ7_fill_53178_10 11 rfl ?_
        refine z_iload_n C 2 rfl 2 rfl dJ7_fill_53178_11 12 rfl ?_
        refine z_iload_n C 1 rfl 1 rfl dJ7_fill_53178_12 13 rfl ?_
        refine z_iast C (N := N) (w := wfill w k i v) hk dJ7_fill_53178_13 14 rfl ei (fun _ => ?_)
        rw [wfill_s w k i v h1]
        refine z_iinc (lv' := [(2, vi (i + 1)), (0, vr G k), (1, vi v), (3, vi N)]) C (by decide) 2 rfl dJ7_fill_53178_14 17 rfl rfl ?_
        refine z_goto C dJ7_fill_53178_17 5 (by decide) ?_
        refine z_lv (lv' := [(0, vr G k), (1, vi v), (2, vi (i + 1)), (3, vi N)]) [1, 2, 0, 3] rfl ?_
        exact ih (i + 1) (by omega) (by omega) (by omega)
    · obtain rfl : i = N := by omega
      have e : (some () : Option Unit) = if w32 (N : Int) ≥ w32 (N : Int) then some () else none := by rw [if_pos (by omega)]
      rw [e]
      refine z_icmp_ge C dJ7_fill_53178_7 20 (by decide) 10 rfl rfl rfl (fun _ => ?_) (fun _ => ?_)
      · exact z_vret C R rfl rfl dJ7_fill_53178_20
      · exact z_none
set_option maxRecDepth 100000 in
set_option maxHeartbeats 4000000 in
theorem tJ7_fill (l : Launch) (G : GG) (w : WD) (k v : Int) (N : Nat) (hN : N < 2147483648) (hk : w.2.1 k = (1, N) ∧ 0 ≤ k ∧ k < w.1) : Ctr l G yJ7_fill_53178 cJ7_fill_53178 4 none rmJ7_fill [vr G k, vi v] w (fun _ : Unit => none) (fun _ : Unit => wfill w k N v) (some ()) := by
  refine ctr_of (by decide) (Nat.le_of_ble_eq_true rfl) mwJ7_fill_53178.1 (fun X hl hR C R hnm => ?_)
  subst hl
  refine z_lv (lv' := [(0, vr G k), (1, vi v)]) [0, 1] rfl ?_
  refine z_iconst C dJ7_fill_53178_0 1 rfl ?_
  refine z_istore_n (lv' := [(2, vi 0), (0, vr G k), (1, vi v)]) C 2 rfl (by decide) dJ7_fill_53178_1 2 rfl rfl ?_
  refine z_aload_n C 0 rfl 1 rfl dJ7_fill_53178_2 3 rfl ?_
  refine z_alen C hk dJ7_fill_53178_3 4 rfl ?_
  refine z_istore_n (lv' := [(3, vi N), (2, vi 0), (0, vr G k), (1, vi v)]) C 3 rfl (by decide) dJ7_fill_53178_4 5 rfl rfl ?_
  refine z_lv (lv' := [(0, vr G k), (1, vi v), (2, vi 0), (3, vi N)]) [2, 3, 1, 0] rfl ?_
  have h := fill_loop C R (v := v) hN hk N 0 (by omega) (by omega) (by omega)
  rw [wfill_0] at h
  exact h
section FROWS
variable {X : MX} {G : GG} {nL : Nat} {T : Type} {Qz : T → State → Prop} {cn : Nat × Nat} {o : Option T} {w : WD} {σ : St} {pc : Nat} {lv : List (Nat × Value)} {st : List Value} {cc : ByteArray} {own : String} {a b : Int} {k k2 : Int}
theorem z_fill (C : CX X G nL cc own) {rc : Room} (hR : mR X = rc) {idx : Nat} (hl : Cond.methodLink own idx yJ7_fill_53178 ∈ UW) {N : Nat} (hN : N < 2147483648) (hk : w.2.1 k = (1, N) ∧ 0 ≤ k ∧ k < w.1) (hcat : (st.map fun v => v.category).sum ≤ 8) (hroom : 1 ≤ rc.frames ∧ 23 ≤ rc.locals) (hcn : cn.1 ≤ rc.cells ∧ cn.2 ≤ rc.slots) (hd : decode cc pc = .ok (.invokestatic idx, 3)) (pn : Nat) (hn : pc + 3 = pn) (n : ZZ X G nL Qz cn o (wfill w k N a) pn lv st) : ZZ X G nL Qz cn o w pc lv (vi a :: vr G k :: st) := by
  show ZZ X G nL Qz cn ((some ()).bind fun _ => o) w pc lv (vi a :: vr G k :: st)
  exact z_callS C hR (tJ7_fill (mL X) G w k a N hN hk) mwJ7_fill_53178 msJ7_fill_53178 hl rfl rfl hcat ⟨hroom.1, hroom.2⟩ hcn hd pn hn (fun _ _ => n)
theorem y_fill (C : CX X G nL cc own) {rc : Room} (hR : mR X = rc) {idx : Nat} (hl : Cond.methodLink own idx yJ7_fill_53178 ∈ UW) {N : Nat} {N' : Int} (hk : isK k (1, N)) (hN : (N : Int) = N') (hcat : (st.map fun v => v.category).sum ≤ 8) (hroom : N < 2147483648 ∧ 1 ≤ rc.frames ∧ 23 ≤ rc.locals) (hd : decode cc pc = .ok (.invokestatic idx, 3)) (pn : Nat) (hn : pc + 3 = pn) (n : ZZ X G nL Qz (0, 0) o (w0 (fillS σ k N' a)) pn lv st) : ZZ X G nL Qz (0, 0) o (w0 σ) pc lv (vi a :: vr G k :: st) := by
  subst hN
  exact z_fill (w := w0 σ) C hR hl hroom.1 hk hcat hroom.2 ⟨Nat.zero_le _, Nat.zero_le _⟩ hd pn hn n
theorem native_copy : Cond.native arraycopyName ∈ UW := uw_in tb_923 rfl
theorem static_copy : Cond.static arraycopyName ∈ UW := uw_in tb_922 rfl
theorem init_system : Cond.initialized "java/lang/System" ∈ UW := uw_in tb_20 rfl
theorem y_copy (C : CX X G nL cc own) {rc : Room} (hR : mR X = rc) {N : Nat} {N' : Int} (hk : isK k (1, N)) (hk2 : isK k2 (1, N)) (hN : (N : Int) = N') (hN1 : N < 2147483648) {idx : Nat} (hl : Cond.methodLink own idx arraycopyName ∈ UW) (hcat : (st.map fun v => v.category).sum ≤ 8) (hroom : 1 ≤ rc.frames ∧ 8 + (nativeFrameWords "java/lang/System" "arraycopy" 5 + 11) ≤ rc.locals) (hd : decode cc pc = .ok (.invokestatic idx, 3)) (pn : Nat) (hn : pc + 3 = pn) (n : ZZ X G nL Qz (0, 0) o (w0 (copyS σ k k2 N')) pn lv st) : ZZ X G nL Qz (0, 0) o (w0 σ) pc lv (vi N' :: vi 0 :: vr G k2 :: vi 0 :: vr G k :: st) := by
  subst hN; subst hn; subst hR
  intro z hz H locs ls hH hlo hlv
  have hc0 : H[gb G + k.toNat]? = some (arrV (G.2.2 0) N (fun j => vi (σ k j))) := hH.at (w := w0 σ) hk
  have hc1 : H[gb G + k2.toNat]? = some (arrV (G.2.2 0) N (fun j => vi (σ k2 j))) := hH.at (w := w0 σ) hk2
  have hn0 : (i32 (N : Int)).toInt = N := w32_id (by omega)
  have hnn : (i32 (N : Int)).toNatClampNeg = N := by
    show (i32 (N : Int)).toInt.toNat = N
    rw [hn0]; omega
  have hz0 : (i32 0).toNatClampNeg = 0 := by decide
  intro T0 hT Y
  have hts := C.2.2.2.2.1
  obtain ⟨-, k0, hk0, cm0, hkk0⟩ := (C.2.2.2.2.2.1.2 0 _ rfl).1 N (fun j => vi (σ k j))
  obtain ⟨-, k1, hk1, cm1, hkk1⟩ := (C.2.2.2.2.2.1.2 0 _ rfl).1 N (fun j => vi (σ k2 j))
  obtain ⟨vm', Y', step⟩ := Y.arraycopy C.1 C.2.2.2.1 (hts _ hl) (hts _ native_copy) (hts _ static_copy) (hts _ init_system) (src := gb G + k.toNat) (dst := gb G + k2.toNat) (cs := arrV (G.2.2 0) N (fun j => vi (σ k j))) (cd := arrV (G.2.2 0) N (fun j => vi (σ k2 j))) (srcPos := i32 0) (destPos := i32 0) (n := i32 N) (by rw [hT]; exact hc0) (by rw [hT]; exact hc1)
    (fun _ h => by cases h) (fun _ h => by cases h) (fun h => by cases h) (fun h => by cases h) hk0 hk1 hkk0 hkk1 rfl (by decide) (by decide) (fun q => by have q2 := (i32_lt (N : Int) 0).mp q; rw [w32_0, w32_id (by omega)] at q2; omega)
    (by rw [hn0, arrV_size]; show ¬ ((0 : Int) + _ > _); omega)
    (by rw [hn0, arrV_size]; show ¬ ((0 : Int) + _ > _); omega)
    (fun vm₁ _ i hi => by
      rw [hnn] at hi
      have e : (arrV (G.2.2 0) N (fun j => vi (σ k j))).slots.getD ((i32 0).toNatClampNeg + i) .null = vi (σ k i) := by
        rw [hz0, Array.getD_eq_getD_getElem?, Nat.zero_add, arrV_read _ _ hi]
        rfl
      refine ⟨?_, ?_⟩
      · rw [e]
        rfl
      · rw [e]
        exact trivial)
    (g := F0 (mM X) pc ls (vi N :: vi 0 :: vr G k2 :: vi 0 :: vr G k :: st)) rfl (by rw [C.2.2.1]; exact hlv.1) (rest := st) rfl (by rw [C.2.1]; exact hd) hroom.1 (by show 2 * 0 + _ + _ ≤ _; omega)
  have e1 : copied (arrV (G.2.2 0) N (fun j => vi (σ k j))) (arrV (G.2.2 0) N (fun j => vi (σ k2 j))) (i32 0) (i32 0) (i32 N) = arrV (G.2.2 0) N (fun j => vi (copyS σ k k2 N k2 j)) := by
    have e2 := va_copied (fun z : Int => vi z) (G.2.2 0) (G.2.2 0) (n0 := N) (n1 := N) (sp := 0) (dp := 0) (n := N) (fun j => σ k j) (fun j => σ k2 j) (by omega)
    have e3 : copied (arrV (G.2.2 0) N (fun j => vi (σ k j))) (arrV (G.2.2 0) N (fun j => vi (σ k2 j))) (i32 0) (i32 0) (i32 N) = (arrV (G.2.2 0) N (fun j => vi (σ k2 j))).storeRun 0 ((arrV (G.2.2 0) N (fun j => vi (σ k j))).stretch 0 N) := by
      unfold copied
      rw [hz0, hnn]
    rw [e3, e2]
    congr 1
    funext j
    unfold va_cpy copyS
    by_cases hj : j < N
    · rw [if_pos (by omega), if_pos (by omega)]; simp
    · rw [if_neg (by omega), if_neg (by omega)]
  rw [e1] at Y' step
  have hl2 : gb G + k2.toNat < H.size := (Array.getElem?_eq_some_iff.mp hc1).1
  have hheap : ((T0.setVm vm').setCell (gb G + k2.toNat) (arrV (G.2.2 0) N (fun j => vi (copyS σ k k2 N k2 j)))).heap = H.setIfInBounds (gb G + k2.toNat) (arrV (G.2.2 0) N (fun j => vi (copyS σ k k2 N k2 j))) := by rw [← hT]; rfl
  obtain ⟨t, a1, b1⟩ := n z hz _ _ ls (hold_ast (w := w0 σ) (w' := w0 (copyS σ k k2 N)) hH hk2 ⟨rfl, rfl⟩ (fun i hi => ⟨rfl, by funext x; show copyS σ k k2 N i x = σ i x; unfold copyS; rw [if_neg (fun q => hi q.1)]⟩) (by simp) (fun q hq => by simp [Array.getElem?_setIfInBounds, Ne.symm hq])
      (show (H.setIfInBounds _ _)[_]? = some _ by simp [Array.getElem?_setIfInBounds, hl2]; rfl)) (fun q hq => by
      rcases List.mem_append.mp hq with h | h
      · exact hlo q h
      · obtain ⟨x, -, hx⟩ := List.mem_map.mp h
        rw [← hx]
        exact Nat.le_add_right _ _) hlv _ hheap Y'
  exact ⟨t, step t a1, b1⟩
end FROWS
theorem lkX0_50 : Cond.methodLink RX0 50 arraycopyName ∈ UW := uw_in tb_921 rfl
