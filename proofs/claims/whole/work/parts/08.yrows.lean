-- ROWS over the fixed layout: a world is its numbers
def vzI (z : Int) : Option Value := some (vi z)
def vzJ (z : Int) : Option Value := some (vl z)
def vzIw (z : Int × St) : Option Value := some (vi z.1)
def vzJw (z : Int × St) : Option Value := some (vl z.1)
def vzV (_ : St) : Option Value := none
def vzRw (G : GG) (z : Int × St) : Option Value := some (vr G z.1)
def wzR (σ : St) (_ : Int) : WD := w0 σ
def wzW (z : Int × St) : WD := w0 z.2
def wzV (z : St) : WD := w0 z
/-- what the tables say of a call -/
def MLV (own : String) (idx : Nat) (y : MethodName) (bytes : ByteArray) (maxL : Nat) (ret : Option FieldType) (n ci : Nat) : Prop := MW y bytes maxL ret n ∧ MV y ci ∧ Cond.methodLink own idx y ∈ UW
def MLS (own : String) (idx : Nat) (y : MethodName) (bytes : ByteArray) (maxL : Nat) (ret : Option FieldType) (n : Nat) : Prop := MW y bytes maxL ret n ∧ Cond.static y ∈ UW ∧ Cond.methodLink own idx y ∈ UW
def rmOK (rm rc : Room) (maxL : Nat) : Prop := rm.cells = 0 ∧ rm.slots = 0 ∧ rm.frames + 1 ≤ rc.frames ∧ 8 + (maxL + 11) + rm.locals ≤ rc.locals
section YROWS
variable {X : MX} {G : GG} {nL : Nat} {T : Type} {Qz : T → State → Prop} {o o1 o2 : Option T} {σ : St} {pc : Nat} {lv : List (Nat × Value)} {st : List Value} {cc : ByteArray} {own : String} {a b : Int} {k : Int}
theorem y_getI (C : CX X G nL cc own) {idx ci j : Nat} {j' : Int} (F : FLI own idx ci j j') (hk : isK k (0, ci)) (hd : decode cc pc = .ok (.getfield idx, 3)) (pn : Nat) (hn : pc + 3 = pn) (n : ZZ X G nL Qz (0, 0) o (w0 σ) pn lv (vi (σ k j') :: st)) : ZZ X G nL Qz (0, 0) o (w0 σ) pc lv (vr G k :: st) := by
  obtain ⟨⟨CN, TT, N, h1, h2, h3, h4⟩, ht, rfl⟩ := F
  refine z_get C ⟨CN, TT, N, h1, h2, h3⟩ (w := w0 σ) hk ?_ hd pn hn n
  rw [ht]; rfl
theorem y_putI (C : CX X G nL cc own) {idx ci j : Nat} {j' : Int} (F : FLI own idx ci j j') (hk : isK k (0, ci)) (hnr : narrow .int (vi a) = vi a ∧ fits .int (vi a) = true) (hd : decode cc pc = .ok (.putfield idx, 3)) (pn : Nat) (hn : pc + 3 = pn) (n : ZZ X G nL Qz (0, 0) o (w0 (up σ k j' a)) pn lv st) : ZZ X G nL Qz (0, 0) o (w0 σ) pc lv (vi a :: vr G k :: st) := by
  obtain ⟨F, ht, rfl⟩ := F
  refine z_put C F (w := w0 σ) (w' := w0 (up σ k j a)) hk (by rw [ht]; exact hnr.1) (by rw [ht]; exact hnr.2) ⟨rfl, rfl⟩ (fun i hi => ⟨rfl, up_other hi⟩) (fun i hi => ?_) ?_ hd pn hn n
  · have h : up σ k j a k (i : Int) = σ k i := by simp [up]; omega
    show fval G (tyOf ci i) (ρ0 k i) (up σ k j a k i) = _
    rw [h]; rfl
  · have h : up σ k j a k (j : Int) = a := by simp [up]
    show fval G (tyOf ci j) (ρ0 k j) (up σ k j a k j) = _
    rw [h, ht]; rfl
theorem y_getZ (C : CX X G nL cc own) {idx ci j : Nat} {j' : Int} (F : FLZ own idx ci j j') (hk : isK k (0, ci)) (hd : decode cc pc = .ok (.getfield idx, 3)) (pn : Nat) (hn : pc + 3 = pn) (n : ZZ X G nL Qz (0, 0) o (w0 σ) pn lv (vi (σ k j') :: st)) : ZZ X G nL Qz (0, 0) o (w0 σ) pc lv (vr G k :: st) := by
  obtain ⟨⟨CN, TT, N, h1, h2, h3, h4⟩, ht, rfl⟩ := F
  refine z_get C ⟨CN, TT, N, h1, h2, h3⟩ (w := w0 σ) hk ?_ hd pn hn n
  rw [ht]; rfl
theorem y_putZ (C : CX X G nL cc own) {idx ci j : Nat} {j' : Int} (F : FLZ own idx ci j j') (hk : isK k (0, ci)) (hnr : narrow .boolean (vi a) = vi a ∧ fits .boolean (vi a) = true) (hd : decode cc pc = .ok (.putfield idx, 3)) (pn : Nat) (hn : pc + 3 = pn) (n : ZZ X G nL Qz (0, 0) o (w0 (up σ k j' a)) pn lv st) : ZZ X G nL Qz (0, 0) o (w0 σ) pc lv (vi a :: vr G k :: st) := by
  obtain ⟨F, ht, rfl⟩ := F
  refine z_put C F (w := w0 σ) (w' := w0 (up σ k j a)) hk (by rw [ht]; exact hnr.1) (by rw [ht]; exact hnr.2) ⟨rfl, rfl⟩ (fun i hi => ⟨rfl, up_other hi⟩) (fun i hi => ?_) ?_ hd pn hn n
  · have h : up σ k j a k (i : Int) = σ k i := by simp [up]; omega
    show fval G (tyOf ci i) (ρ0 k i) (up σ k j a k i) = _
    rw [h]; rfl
  · have h : up σ k j a k (j : Int) = a := by simp [up]
    show fval G (tyOf ci j) (ρ0 k j) (up σ k j a k j) = _
    rw [h, ht]; rfl
theorem y_getJ (C : CX X G nL cc own) {idx ci j : Nat} {j' : Int} (F : FLJ own idx ci j j') (hk : isK k (0, ci)) (hd : decode cc pc = .ok (.getfield idx, 3)) (pn : Nat) (hn : pc + 3 = pn) (n : ZZ X G nL Qz (0, 0) o (w0 σ) pn lv (vl (σ k j') :: st)) : ZZ X G nL Qz (0, 0) o (w0 σ) pc lv (vr G k :: st) := by
  obtain ⟨⟨CN, TT, N, h1, h2, h3, h4⟩, ht, rfl⟩ := F
  refine z_get C ⟨CN, TT, N, h1, h2, h3⟩ (w := w0 σ) hk ?_ hd pn hn n
  rw [ht]; rfl
theorem y_putJ (C : CX X G nL cc own) {idx ci j : Nat} {j' : Int} (F : FLJ own idx ci j j') (hk : isK k (0, ci)) (hnr : narrow .long (vl a) = vl a ∧ fits .long (vl a) = true) (hd : decode cc pc = .ok (.putfield idx, 3)) (pn : Nat) (hn : pc + 3 = pn) (n : ZZ X G nL Qz (0, 0) o (w0 (up σ k j' a)) pn lv st) : ZZ X G nL Qz (0, 0) o (w0 σ) pc lv (vl a :: vr G k :: st) := by
  obtain ⟨F, ht, rfl⟩ := F
  refine z_put C F (w := w0 σ) (w' := w0 (up σ k j a)) hk (by rw [ht]; exact hnr.1) (by rw [ht]; exact hnr.2) ⟨rfl, rfl⟩ (fun i hi => ⟨rfl, up_other hi⟩) (fun i hi => ?_) ?_ hd pn hn n
  · have h : up σ k j a k (i : Int) = σ k i := by simp [up]; omega
    show fval G (tyOf ci i) (ρ0 k i) (up σ k j a k i) = _
    rw [h]; rfl
  · have h : up σ k j a k (j : Int) = a := by simp [up]
    show fval G (tyOf ci j) (ρ0 k j) (up σ k j a k j) = _
    rw [h, ht]; rfl
theorem y_getR (C : CX X G nL cc own) {idx ci j : Nat} {j' k2 : Int} {kd : Nat × Nat} (F : FLR own idx ci j j') (hk : isK k (0, ci)) (h2 : ρ0 k j' = k2 ∧ isK k2 kd) (hd : decode cc pc = .ok (.getfield idx, 3)) (pn : Nat) (hn : pc + 3 = pn) (n : ZZ X G nL Qz (0, 0) o (w0 σ) pn lv (vr G k2 :: st)) : ZZ X G nL Qz (0, 0) o (w0 σ) pc lv (vr G k :: st) := by
  obtain ⟨F, ht, rfl⟩ := F
  refine z_get C F (w := w0 σ) hk ?_ hd pn hn n
  show fval G (tyOf ci j) (ρ0 k j) (σ k j) = _
  have hr : rv G (ρ0 k j) = vr G k2 := by rw [h2.1]; unfold rv; rw [if_neg]; have := h2.2.2.1; omega
  cases hty : tyOf ci j <;> rw [hty] at ht <;> first | exact hr | cases ht
theorem y_iald (C : CX X G nL cc own) {N : Nat} {N' : Int} (hk : isK k (1, N)) (hN : (N : Int) = N') (hd : decode cc pc = .ok (.iaload, 1)) (pn : Nat) (hn : pc + 1 = pn) {a' : Int} (ha : w32 a = a') (n : 0 ≤ a' ∧ a' < N' → ZZ X G nL Qz (0, 0) o (w0 σ) pn lv (vi (σ k a') :: st)) : ZZ X G nL Qz (0, 0) (gd (0 ≤ a' ∧ a' < N') o) (w0 σ) pc lv (vi a :: vr G k :: st) := by
  subst hN
  exact z_iald (w := w0 σ) C hk hd pn hn ha n
theorem y_lald (C : CX X G nL cc own) {N : Nat} {N' : Int} (hk : isK k (2, N)) (hN : (N : Int) = N') (hd : decode cc pc = .ok (.laload, 1)) (pn : Nat) (hn : pc + 1 = pn) {a' : Int} (ha : w32 a = a') (n : 0 ≤ a' ∧ a' < N' → ZZ X G nL Qz (0, 0) o (w0 σ) pn lv (vl (σ k a') :: st)) : ZZ X G nL Qz (0, 0) (gd (0 ≤ a' ∧ a' < N') o) (w0 σ) pc lv (vi a :: vr G k :: st) := by
  subst hN
  exact z_lald (w := w0 σ) C hk hd pn hn ha n
theorem y_zald (C : CX X G nL cc own) {N : Nat} {N' : Int} (hk : isK k (3, N)) (hN : (N : Int) = N') (hd : decode cc pc = .ok (.baload, 1)) (pn : Nat) (hn : pc + 1 = pn) {a' : Int} (ha : w32 a = a') (n : 0 ≤ a' ∧ a' < N' → ZZ X G nL Qz (0, 0) o (w0 σ) pn lv (vi (σ k a') :: st)) : ZZ X G nL Qz (0, 0) (gd (0 ≤ a' ∧ a' < N') o) (w0 σ) pc lv (vi a :: vr G k :: st) := by
  subst hN
  exact z_zald (w := w0 σ) C hk hd pn hn ha n
theorem y_iast (C : CX X G nL cc own) {N : Nat} {N' : Int} (hk : isK k (1, N)) (hN : (N : Int) = N') (hd : decode cc pc = .ok (.iastore, 1)) (pn : Nat) (hn : pc + 1 = pn) {a' : Int} (ha : w32 a = a') (n : 0 ≤ a' ∧ a' < N' → ZZ X G nL Qz (0, 0) o (w0 (up σ k a' b)) pn lv st) : ZZ X G nL Qz (0, 0) (gd (0 ≤ a' ∧ a' < N') o) (w0 σ) pc lv (vi b :: vi a :: vr G k :: st) := by
  subst hN
  exact z_iast (w := w0 σ) C hk hd pn hn ha n
theorem y_last (C : CX X G nL cc own) {N : Nat} {N' : Int} (hk : isK k (2, N)) (hN : (N : Int) = N') (hd : decode cc pc = .ok (.lastore, 1)) (pn : Nat) (hn : pc + 1 = pn) {a' : Int} (ha : w32 a = a') (n : 0 ≤ a' ∧ a' < N' → ZZ X G nL Qz (0, 0) o (w0 (up σ k a' b)) pn lv st) : ZZ X G nL Qz (0, 0) (gd (0 ≤ a' ∧ a' < N') o) (w0 σ) pc lv (vl b :: vi a :: vr G k :: st) := by
  subst hN
  exact z_last (w := w0 σ) C hk hd pn hn ha n
theorem y_zast (C : CX X G nL cc own) {N : Nat} {N' : Int} (hk : isK k (3, N)) (hN : (N : Int) = N') (hd : decode cc pc = .ok (.bastore, 1)) (pn : Nat) (hn : pc + 1 = pn) {a' : Int} (ha : w32 a = a') (n : 0 ≤ a' ∧ a' < N' → ZZ X G nL Qz (0, 0) o (w0 (up σ k a' (b1 b))) pn lv st) : ZZ X G nL Qz (0, 0) (gd (0 ≤ a' ∧ a' < N') o) (w0 σ) pc lv (vi b :: vi a :: vr G k :: st) := by
  subst hN
  exact z_zast (w := w0 σ) C hk hd pn hn ha n
theorem y_aald (C : CX X G nL cc own) {t N : Nat} {N' : Int} (hk : isK k (t + 4, N)) (ht : t < 3) (hN : (N : Int) = N') (hd : decode cc pc = .ok (.aaload, 1)) (pn : Nat) (hn : pc + 1 = pn) {a' : Int} (ha : w32 a = a') (f : Int → Int) {kd : Nat × Nat} (hf : 0 ≤ a' ∧ a' < N' → ρ0 k a' = f a' ∧ isK (f a') kd) (n : 0 ≤ a' ∧ a' < N' → ZZ X G nL Qz (0, 0) o (w0 σ) pn lv (vr G (f a') :: st)) : ZZ X G nL Qz (0, 0) (gd (0 ≤ a' ∧ a' < N') o) (w0 σ) pc lv (vi a :: vr G k :: st) := by
  subst hN
  exact z_aald (w := w0 σ) C hk ht hd pn hn ha f (fun h => ⟨(hf h).1, (hf h).2.2.1⟩) n
theorem y_alen (C : CX X G nL cc own) {N : Nat} {N' : Int} (hk : isK k (1, N)) (hN : (N : Int) = N') (hd : decode cc pc = .ok (.arraylength, 1)) (pn : Nat) (hn : pc + 1 = pn) (n : ZZ X G nL Qz (0, 0) o (w0 σ) pn lv (vi N' :: st)) : ZZ X G nL Qz (0, 0) o (w0 σ) pc lv (vr G k :: st) := by
  subst hN; subst hn
  intro z hz H locs ls hH hlo hlv
  have h1 : H[gb G + k.toNat]? = some (arrV (G.2.2 0) N (fun j => vi (σ k j))) := hH.at (w := w0 σ) hk
  refine W.alen C.1 C.2.1 h1 ((C.2.2.2.2.2.1.2 0 _ rfl).1 N _) (n := i32 N) ?_ rfl rfl hd (n z hz H locs ls hH hlo hlv)
  rw [arrV_size]
  show Int32.ofNat N = Int32.ofInt N
  rfl
theorem y_callVI (C : CX X G nL cc own) {rc rm : Room} (hR : mR X = rc) {q : Option (Int)} {f : Int → Option T} {y : MethodName} {bytes : ByteArray} {maxL : Nat} {ret : Option FieldType} {As : List Value} {idx m : Nat} {ci : Nat} {stk : List Value}
    (t : Ctr (mL X) G y bytes maxL ret rm (vr G k :: As) (w0 σ) vzI (wzR σ) q) (M : MLV own idx y bytes maxL ret m ci) (hk : isK k (0, ci)) (hAs : As.length = m) (hst : stk = As.reverse ++ vr G k :: st) (hcat : (st.map fun v => v.category).sum ≤ 8)
    (hroom : rmOK rm rc maxL) (hd : decode cc pc = .ok (.invokevirtual idx, 3)) (pn : Nat) (hn : pc + 3 = pn)
    (n : ∀ r, q = some r → ZZ X G nL Qz (0, 0) (f r) (w0 σ) pn lv (vi r :: st)) : ZZ X G nL Qz (0, 0) (q.bind f) (w0 σ) pc lv stk := by
  refine z_callV (w := w0 σ) C hR t M.1 M.2.1 M.2.2 hk hAs hst hcat ⟨hroom.2.2.1, hroom.2.2.2⟩ ?_ hd pn hn ?_
  · rw [hroom.1, hroom.2.1]; exact ⟨Nat.zero_le _, Nat.zero_le _⟩
  · rw [hroom.1, hroom.2.1]; exact n
theorem y_callVJ (C : CX X G nL cc own) {rc rm : Room} (hR : mR X = rc) {q : Option (Int)} {f : Int → Option T} {y : MethodName} {bytes : ByteArray} {maxL : Nat} {ret : Option FieldType} {As : List Value} {idx m : Nat} {ci : Nat} {stk : List Value}
    (t : Ctr (mL X) G y bytes maxL ret rm (vr G k :: As) (w0 σ) vzJ (wzR σ) q) (M : MLV own idx y bytes maxL ret m ci) (hk : isK k (0, ci)) (hAs : As.length = m) (hst : stk = As.reverse ++ vr G k :: st) (hcat : (st.map fun v => v.category).sum ≤ 8)
    (hroom : rmOK rm rc maxL) (hd : decode cc pc = .ok (.invokevirtual idx, 3)) (pn : Nat) (hn : pc + 3 = pn)
    (n : ∀ r, q = some r → ZZ X G nL Qz (0, 0) (f r) (w0 σ) pn lv (vl r :: st)) : ZZ X G nL Qz (0, 0) (q.bind f) (w0 σ) pc lv stk := by
  refine z_callV (w := w0 σ) C hR t M.1 M.2.1 M.2.2 hk hAs hst hcat ⟨hroom.2.2.1, hroom.2.2.2⟩ ?_ hd pn hn ?_
  · rw [hroom.1, hroom.2.1]; exact ⟨Nat.zero_le _, Nat.zero_le _⟩
  · rw [hroom.1, hroom.2.1]; exact n
theorem y_callVIw (C : CX X G nL cc own) {rc rm : Room} (hR : mR X = rc) {q : Option (Int × St)} {f : Int × St → Option T} {y : MethodName} {bytes : ByteArray} {maxL : Nat} {ret : Option FieldType} {As : List Value} {idx m : Nat} {ci : Nat} {stk : List Value}
    (t : Ctr (mL X) G y bytes maxL ret rm (vr G k :: As) (w0 σ) vzIw wzW q) (M : MLV own idx y bytes maxL ret m ci) (hk : isK k (0, ci)) (hAs : As.length = m) (hst : stk = As.reverse ++ vr G k :: st) (hcat : (st.map fun v => v.category).sum ≤ 8)
    (hroom : rmOK rm rc maxL) (hd : decode cc pc = .ok (.invokevirtual idx, 3)) (pn : Nat) (hn : pc + 3 = pn)
    (n : ∀ r, q = some r → ZZ X G nL Qz (0, 0) (f r) (w0 r.2) pn lv (vi r.1 :: st)) : ZZ X G nL Qz (0, 0) (q.bind f) (w0 σ) pc lv stk := by
  refine z_callV (w := w0 σ) C hR t M.1 M.2.1 M.2.2 hk hAs hst hcat ⟨hroom.2.2.1, hroom.2.2.2⟩ ?_ hd pn hn ?_
  · rw [hroom.1, hroom.2.1]; exact ⟨Nat.zero_le _, Nat.zero_le _⟩
  · rw [hroom.1, hroom.2.1]; exact n
theorem y_callVJw (C : CX X G nL cc own) {rc rm : Room} (hR : mR X = rc) {q : Option (Int × St)} {f : Int × St → Option T} {y : MethodName} {bytes : ByteArray} {maxL : Nat} {ret : Option FieldType} {As : List Value} {idx m : Nat} {ci : Nat} {stk : List Value}
    (t : Ctr (mL X) G y bytes maxL ret rm (vr G k :: As) (w0 σ) vzJw wzW q) (M : MLV own idx y bytes maxL ret m ci) (hk : isK k (0, ci)) (hAs : As.length = m) (hst : stk = As.reverse ++ vr G k :: st) (hcat : (st.map fun v => v.category).sum ≤ 8)
    (hroom : rmOK rm rc maxL) (hd : decode cc pc = .ok (.invokevirtual idx, 3)) (pn : Nat) (hn : pc + 3 = pn)
    (n : ∀ r, q = some r → ZZ X G nL Qz (0, 0) (f r) (w0 r.2) pn lv (vl r.1 :: st)) : ZZ X G nL Qz (0, 0) (q.bind f) (w0 σ) pc lv stk := by
  refine z_callV (w := w0 σ) C hR t M.1 M.2.1 M.2.2 hk hAs hst hcat ⟨hroom.2.2.1, hroom.2.2.2⟩ ?_ hd pn hn ?_
  · rw [hroom.1, hroom.2.1]; exact ⟨Nat.zero_le _, Nat.zero_le _⟩
  · rw [hroom.1, hroom.2.1]; exact n
theorem y_callVv (C : CX X G nL cc own) {rc rm : Room} (hR : mR X = rc) {q : Option (St)} {f : St → Option T} {y : MethodName} {bytes : ByteArray} {maxL : Nat} {ret : Option FieldType} {As : List Value} {idx m : Nat} {ci : Nat} {stk : List Value}
    (t : Ctr (mL X) G y bytes maxL ret rm (vr G k :: As) (w0 σ) vzV wzV q) (M : MLV own idx y bytes maxL ret m ci) (hk : isK k (0, ci)) (hAs : As.length = m) (hst : stk = As.reverse ++ vr G k :: st) (hcat : (st.map fun v => v.category).sum ≤ 8)
    (hroom : rmOK rm rc maxL) (hd : decode cc pc = .ok (.invokevirtual idx, 3)) (pn : Nat) (hn : pc + 3 = pn)
    (n : ∀ r, q = some r → ZZ X G nL Qz (0, 0) (f r) (w0 r) pn lv (st)) : ZZ X G nL Qz (0, 0) (q.bind f) (w0 σ) pc lv stk := by
  refine z_callV (w := w0 σ) C hR t M.1 M.2.1 M.2.2 hk hAs hst hcat ⟨hroom.2.2.1, hroom.2.2.2⟩ ?_ hd pn hn ?_
  · rw [hroom.1, hroom.2.1]; exact ⟨Nat.zero_le _, Nat.zero_le _⟩
  · rw [hroom.1, hroom.2.1]; exact n
theorem y_callVR (C : CX X G nL cc own) {rc rm : Room} (hR : mR X = rc) {q : Option (St)} {f : St → Option T} {y : MethodName} {bytes : ByteArray} {maxL : Nat} {ret : Option FieldType} {As : List Value} {idx m : Nat} {ci : Nat} {stk : List Value} {kr : Int}
    (t : Ctr (mL X) G y bytes maxL ret rm (vr G k :: As) (w0 σ) (fun _ : St => some (vr G kr)) wzV q) (M : MLV own idx y bytes maxL ret m ci) (hk : isK k (0, ci)) (hAs : As.length = m) (hst : stk = As.reverse ++ vr G k :: st) (hcat : (st.map fun v => v.category).sum ≤ 8)
    (hroom : rmOK rm rc maxL) (hd : decode cc pc = .ok (.invokevirtual idx, 3)) (pn : Nat) (hn : pc + 3 = pn)
    (n : ∀ r, q = some r → ZZ X G nL Qz (0, 0) (f r) (w0 r) pn lv (vr G kr :: st)) : ZZ X G nL Qz (0, 0) (q.bind f) (w0 σ) pc lv stk := by
  refine z_callV (w := w0 σ) C hR t M.1 M.2.1 M.2.2 hk hAs hst hcat ⟨hroom.2.2.1, hroom.2.2.2⟩ ?_ hd pn hn ?_
  · rw [hroom.1, hroom.2.1]; exact ⟨Nat.zero_le _, Nat.zero_le _⟩
  · rw [hroom.1, hroom.2.1]; exact n
theorem y_callSI (C : CX X G nL cc own) {rc rm : Room} (hR : mR X = rc) {q : Option (Int)} {f : Int → Option T} {y : MethodName} {bytes : ByteArray} {maxL : Nat} {ret : Option FieldType} {As : List Value} {idx m : Nat} {stk : List Value}
    (t : Ctr (mL X) G y bytes maxL ret rm (As) (w0 σ) vzI (wzR σ) q) (M : MLS own idx y bytes maxL ret m) (hAs : As.length = m) (hst : stk = As.reverse ++ st) (hcat : (st.map fun v => v.category).sum ≤ 8)
    (hroom : rmOK rm rc maxL) (hd : decode cc pc = .ok (.invokestatic idx, 3)) (pn : Nat) (hn : pc + 3 = pn)
    (n : ∀ r, q = some r → ZZ X G nL Qz (0, 0) (f r) (w0 σ) pn lv (vi r :: st)) : ZZ X G nL Qz (0, 0) (q.bind f) (w0 σ) pc lv stk := by
  refine z_callS (w := w0 σ) C hR t M.1 M.2.1 M.2.2 hAs hst hcat ⟨hroom.2.2.1, hroom.2.2.2⟩ ?_ hd pn hn ?_
  · rw [hroom.1, hroom.2.1]; exact ⟨Nat.zero_le _, Nat.zero_le _⟩
  · rw [hroom.1, hroom.2.1]; exact n
theorem y_callSJ (C : CX X G nL cc own) {rc rm : Room} (hR : mR X = rc) {q : Option (Int)} {f : Int → Option T} {y : MethodName} {bytes : ByteArray} {maxL : Nat} {ret : Option FieldType} {As : List Value} {idx m : Nat} {stk : List Value}
    (t : Ctr (mL X) G y bytes maxL ret rm (As) (w0 σ) vzJ (wzR σ) q) (M : MLS own idx y bytes maxL ret m) (hAs : As.length = m) (hst : stk = As.reverse ++ st) (hcat : (st.map fun v => v.category).sum ≤ 8)
    (hroom : rmOK rm rc maxL) (hd : decode cc pc = .ok (.invokestatic idx, 3)) (pn : Nat) (hn : pc + 3 = pn)
    (n : ∀ r, q = some r → ZZ X G nL Qz (0, 0) (f r) (w0 σ) pn lv (vl r :: st)) : ZZ X G nL Qz (0, 0) (q.bind f) (w0 σ) pc lv stk := by
  refine z_callS (w := w0 σ) C hR t M.1 M.2.1 M.2.2 hAs hst hcat ⟨hroom.2.2.1, hroom.2.2.2⟩ ?_ hd pn hn ?_
  · rw [hroom.1, hroom.2.1]; exact ⟨Nat.zero_le _, Nat.zero_le _⟩
  · rw [hroom.1, hroom.2.1]; exact n
theorem y_callSIw (C : CX X G nL cc own) {rc rm : Room} (hR : mR X = rc) {q : Option (Int × St)} {f : Int × St → Option T} {y : MethodName} {bytes : ByteArray} {maxL : Nat} {ret : Option FieldType} {As : List Value} {idx m : Nat} {stk : List Value}
    (t : Ctr (mL X) G y bytes maxL ret rm (As) (w0 σ) vzIw wzW q) (M : MLS own idx y bytes maxL ret m) (hAs : As.length = m) (hst : stk = As.reverse ++ st) (hcat : (st.map fun v => v.category).sum ≤ 8)
    (hroom : rmOK rm rc maxL) (hd : decode cc pc = .ok (.invokestatic idx, 3)) (pn : Nat) (hn : pc + 3 = pn)
    (n : ∀ r, q = some r → ZZ X G nL Qz (0, 0) (f r) (w0 r.2) pn lv (vi r.1 :: st)) : ZZ X G nL Qz (0, 0) (q.bind f) (w0 σ) pc lv stk := by
  refine z_callS (w := w0 σ) C hR t M.1 M.2.1 M.2.2 hAs hst hcat ⟨hroom.2.2.1, hroom.2.2.2⟩ ?_ hd pn hn ?_
  · rw [hroom.1, hroom.2.1]; exact ⟨Nat.zero_le _, Nat.zero_le _⟩
  · rw [hroom.1, hroom.2.1]; exact n
theorem y_callSJw (C : CX X G nL cc own) {rc rm : Room} (hR : mR X = rc) {q : Option (Int × St)} {f : Int × St → Option T} {y : MethodName} {bytes : ByteArray} {maxL : Nat} {ret : Option FieldType} {As : List Value} {idx m : Nat} {stk : List Value}
    (t : Ctr (mL X) G y bytes maxL ret rm (As) (w0 σ) vzJw wzW q) (M : MLS own idx y bytes maxL ret m) (hAs : As.length = m) (hst : stk = As.reverse ++ st) (hcat : (st.map fun v => v.category).sum ≤ 8)
    (hroom : rmOK rm rc maxL) (hd : decode cc pc = .ok (.invokestatic idx, 3)) (pn : Nat) (hn : pc + 3 = pn)
    (n : ∀ r, q = some r → ZZ X G nL Qz (0, 0) (f r) (w0 r.2) pn lv (vl r.1 :: st)) : ZZ X G nL Qz (0, 0) (q.bind f) (w0 σ) pc lv stk := by
  refine z_callS (w := w0 σ) C hR t M.1 M.2.1 M.2.2 hAs hst hcat ⟨hroom.2.2.1, hroom.2.2.2⟩ ?_ hd pn hn ?_
  · rw [hroom.1, hroom.2.1]; exact ⟨Nat.zero_le _, Nat.zero_le _⟩
  · rw [hroom.1, hroom.2.1]; exact n
theorem y_callSv (C : CX X G nL cc own) {rc rm : Room} (hR : mR X = rc) {q : Option (St)} {f : St → Option T} {y : MethodName} {bytes : ByteArray} {maxL : Nat} {ret : Option FieldType} {As : List Value} {idx m : Nat} {stk : List Value}
    (t : Ctr (mL X) G y bytes maxL ret rm (As) (w0 σ) vzV wzV q) (M : MLS own idx y bytes maxL ret m) (hAs : As.length = m) (hst : stk = As.reverse ++ st) (hcat : (st.map fun v => v.category).sum ≤ 8)
    (hroom : rmOK rm rc maxL) (hd : decode cc pc = .ok (.invokestatic idx, 3)) (pn : Nat) (hn : pc + 3 = pn)
    (n : ∀ r, q = some r → ZZ X G nL Qz (0, 0) (f r) (w0 r) pn lv (st)) : ZZ X G nL Qz (0, 0) (q.bind f) (w0 σ) pc lv stk := by
  refine z_callS (w := w0 σ) C hR t M.1 M.2.1 M.2.2 hAs hst hcat ⟨hroom.2.2.1, hroom.2.2.2⟩ ?_ hd pn hn ?_
  · rw [hroom.1, hroom.2.1]; exact ⟨Nat.zero_le _, Nat.zero_le _⟩
  · rw [hroom.1, hroom.2.1]; exact n
theorem y_callSR (C : CX X G nL cc own) {rc rm : Room} (hR : mR X = rc) {q : Option (St)} {f : St → Option T} {y : MethodName} {bytes : ByteArray} {maxL : Nat} {ret : Option FieldType} {As : List Value} {idx m : Nat} {stk : List Value} {kr : Int}
    (t : Ctr (mL X) G y bytes maxL ret rm (As) (w0 σ) (fun _ : St => some (vr G kr)) wzV q) (M : MLS own idx y bytes maxL ret m) (hAs : As.length = m) (hst : stk = As.reverse ++ st) (hcat : (st.map fun v => v.category).sum ≤ 8)
    (hroom : rmOK rm rc maxL) (hd : decode cc pc = .ok (.invokestatic idx, 3)) (pn : Nat) (hn : pc + 3 = pn)
    (n : ∀ r, q = some r → ZZ X G nL Qz (0, 0) (f r) (w0 r) pn lv (vr G kr :: st)) : ZZ X G nL Qz (0, 0) (q.bind f) (w0 σ) pc lv stk := by
  refine z_callS (w := w0 σ) C hR t M.1 M.2.1 M.2.2 hAs hst hcat ⟨hroom.2.2.1, hroom.2.2.2⟩ ?_ hd pn hn ?_
  · rw [hroom.1, hroom.2.1]; exact ⟨Nat.zero_le _, Nat.zero_le _⟩
  · rw [hroom.1, hroom.2.1]; exact n
theorem y_maxI (C : CX X G nL cc own) {rc : Room} (hR : mR X = rc) {idx : Nat} (hl : Cond.methodLink own idx yJ9_max_7cf53 ∈ UW) (hcat : (st.map fun v => v.category).sum ≤ 8) (hroom : 1 ≤ rc.frames ∧ 21 ≤ rc.locals) (hd : decode cc pc = .ok (.invokestatic idx, 3)) (pn : Nat) (hn : pc + 3 = pn) (n : ZZ X G nL Qz (0, 0) o (w0 σ) pn lv (vi (if w32 a < w32 b then b else a) :: st)) : ZZ X G nL Qz (0, 0) o (w0 σ) pc lv (vi b :: vi a :: st) := by
  subst hn; subst hR
  intro z hz H locs ls hH hlo hlv
  refine va_mmax C.1 C.2.1 (C.2.2.1.trans hlv.1.symm) C.2.2.2.1 (C.2.2.2.2.1 _ hl) (C.2.2.2.2.1 _ msJ9_max_7cf53) (C.2.2.2.2.1 _ mwJ9_max_7cf53.2.1) (C.2.2.2.2.1 _ mwJ9_max_7cf53.1) hroom.1 (by omega) (Nat.zero_le _) (Nat.zero_le _) hd ?_
  have h := n z hz H locs ls hH hlo hlv
  by_cases hc : w32 a < w32 b
  · rw [if_pos ((i32_lt a b).mpr hc)]; rwa [if_pos hc] at h
  · rw [if_neg (fun q => hc ((i32_lt a b).mp q))]; rwa [if_neg hc] at h
theorem y_minI (C : CX X G nL cc own) {rc : Room} (hR : mR X = rc) {idx : Nat} (hl : Cond.methodLink own idx yJ9_min_7cf53 ∈ UW) (hcat : (st.map fun v => v.category).sum ≤ 8) (hroom : 1 ≤ rc.frames ∧ 21 ≤ rc.locals) (hd : decode cc pc = .ok (.invokestatic idx, 3)) (pn : Nat) (hn : pc + 3 = pn) (n : ZZ X G nL Qz (0, 0) o (w0 σ) pn lv (vi (if w32 b < w32 a then b else a) :: st)) : ZZ X G nL Qz (0, 0) o (w0 σ) pc lv (vi b :: vi a :: st) := by
  subst hn; subst hR
  intro z hz H locs ls hH hlo hlv
  refine va_mmin C.1 C.2.1 (C.2.2.1.trans hlv.1.symm) C.2.2.2.1 (C.2.2.2.2.1 _ hl) (C.2.2.2.2.1 _ msJ9_min_7cf53) (C.2.2.2.2.1 _ mwJ9_min_7cf53.2.1) (C.2.2.2.2.1 _ mwJ9_min_7cf53.1) hroom.1 (by omega) (Nat.zero_le _) (Nat.zero_le _) hd ?_
  have h := n z hz H locs ls hH hlo hlv
  by_cases hc : w32 b < w32 a
  · rw [if_pos ((i32_lt b a).mpr hc)]; rwa [if_pos hc] at h
  · rw [if_neg (fun q => hc ((i32_lt b a).mp q))]; rwa [if_neg hc] at h
theorem y_maxJ (C : CX X G nL cc own) {rc : Room} (hR : mR X = rc) {idx : Nat} (hl : Cond.methodLink own idx yJ9_max_f86c9 ∈ UW) (hcat : (st.map fun v => v.category).sum ≤ 8) (hroom : 1 ≤ rc.frames ∧ 23 ≤ rc.locals) (hd : decode cc pc = .ok (.invokestatic idx, 3)) (pn : Nat) (hn : pc + 3 = pn) (n : ZZ X G nL Qz (0, 0) o (w0 σ) pn lv (vl (if w64 b < w64 a then a else b) :: st)) : ZZ X G nL Qz (0, 0) o (w0 σ) pc lv (vl b :: vl a :: st) := by
  subst hn; subst hR
  intro z hz H locs ls hH hlo hlv
  refine va_mmax_long C.1 C.2.1 (C.2.2.1.trans hlv.1.symm) C.2.2.2.1 (C.2.2.2.2.1 _ hl) (C.2.2.2.2.1 _ msJ9_max_f86c9) (C.2.2.2.2.1 _ mwJ9_max_f86c9.2.1) (C.2.2.2.2.1 _ mwJ9_max_f86c9.1) hroom.1 (by omega) (Nat.zero_le _) (Nat.zero_le _) hd ?_
  have h := n z hz H locs ls hH hlo hlv
  by_cases hc : w64 b < w64 a
  · rw [if_pos ((i64_lt b a).mpr hc)]; rwa [if_pos hc] at h
  · rw [if_neg (fun q => hc ((i64_lt b a).mp q))]; rwa [if_neg hc] at h
-- switches
theorem z_tin {cn : Nat × Nat} {w : WD} (C : CX X G nL cc own) {dflt lo hi : Int} {offs : Array Int} {len : Nat} {off v : Int} (hd : decode cc pc = .ok (.tableswitch dflt lo hi offs, len)) (hv : w32 a = v) (h1 : ¬ v < lo ∧ ¬ hi < v) (ho : offs[(v - lo).toNat]? = some off) (tgt : Nat) (ht : (pc : Int) + off = (tgt : Int)) (n : ZZ X G nL Qz cn o w tgt lv st) : ZZ X G nL Qz cn o w pc lv (vi a :: st) := by
  intro z hz H locs ls hH hlo hlv
  have hv' : (i32 a).toInt = v := hv
  exact lv_tableIn C.1 C.2.1 hd (by rw [hv']; exact h1.1) (by rw [hv']; exact h1.2) (by rw [hv']; exact ho) ht (n z hz H locs ls hH hlo hlv)
theorem z_tout {cn : Nat × Nat} {w : WD} (C : CX X G nL cc own) {dflt lo hi : Int} {offs : Array Int} {len : Nat} (hd : decode cc pc = .ok (.tableswitch dflt lo hi offs, len)) (h : w32 a < lo ∨ hi < w32 a) (tgt : Nat) (ht : (pc : Int) + dflt = (tgt : Int)) (n : ZZ X G nL Qz cn o w tgt lv st) : ZZ X G nL Qz cn o w pc lv (vi a :: st) := by
  intro z hz H locs ls hH hlo hlv
  exact lv_tableOut C.1 C.2.1 hd h ht (n z hz H locs ls hH hlo hlv)
end YROWS
