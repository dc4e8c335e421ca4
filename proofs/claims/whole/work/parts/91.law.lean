-- THE LAW'S LOOP (by program: wip/gen/law.py): out of what each call answers (Sp..)
section LROWS
variable {X : MX} {G : GG} {nL : Nat} {T : Type} {Qz : T → State → Prop} {cn : Nat × Nat} {o : Option T} {w : WD} {σ : St} {pc : Nat} {lv : List (Nat × Value)} {st : List Value} {cc : ByteArray} {own : String} {a b k : Int} {rc : Room}
theorem l_call (C : CX X G nL cc own) (hR : mR X = rc) {rm : Room} {Tc : Type} {vz : Tc → Option Value} {wz : Tc → WD} {q : Option Tc} {r : Tc} (hq : q = some r) {y : MethodName} {bytes : ByteArray} {maxL : Nat} {ret : Option FieldType} {As : List Value} {idx m ci : Nat} {stk : List Value}
    (t : Ctr (mL X) G y bytes maxL ret rm (vr G k :: As) (w0 σ) vz wz q) (M : MLV own idx y bytes maxL ret m ci) (hk : isK k (0, ci)) (hAs : As.length = m) (hst : stk = As.reverse ++ vr G k :: st) (hcat : (st.map fun v => v.category).sum ≤ 8)
    (hroom : rmOK rm rc maxL) (hcn : cn.1 ≤ rc.cells ∧ cn.2 ≤ rc.slots) (hd : decode cc pc = .ok (.invokevirtual idx, 3)) (pn : Nat) (hn : pc + 3 = pn)
    (n : ZZ X G nL Qz cn o (wz r) pn lv ((vz r).toList ++ st)) : ZZ X G nL Qz cn o (w0 σ) pc lv stk := by
  have e : o = q.bind fun _ => o := by rw [hq]; rfl
  rw [e]
  refine z_callV (w := w0 σ) C hR t M.1 M.2.1 M.2.2 hk hAs hst hcat ⟨hroom.2.2.1, hroom.2.2.2⟩ (by rw [hroom.1, hroom.2.1]; exact hcn) hd pn hn (fun r' hr' => ?_)
  obtain rfl : r = r' := Option.some.inj (hq.symm.trans hr')
  rw [hroom.1, hroom.2.1]
  exact n
theorem l_sld (C : CX X G nL cc own) {b0 L : Nat} {xs : Nat → Int32} (hX : va_X b0 L xs (mS X) G.1) (hbl : b0 < gb G) {a' : Int} (ha : w32 a = a') (hb : 0 ≤ a' ∧ a' < (L : Int)) (hd : decode cc pc = .ok (.iaload, 1)) (pn : Nat) (hn : pc + 1 = pn) (n : ZZ X G nL Qz cn o w pn lv (vi (xs a'.toNat).toInt :: st)) : ZZ X G nL Qz cn o w pc lv (vi a :: .ref b0 :: st) := by
  subst hn; subst ha
  intro z hz H locs ls hH hlo hlv
  obtain ⟨scr, h1, h2, h3, h4, h5⟩ := hX
  obtain ⟨i1, i2, i3⟩ := idx_in hb
  have e : vi (xs (w32 a).toNat).toInt = .int (xs (w32 a).toNat) := by unfold vi; rw [i32_toInt]
  refine W.iald (v := .int (xs (w32 a).toNat)) C.1 C.2.1 (by rw [hH.2.1 b0 hbl]; exact h1) h2 h3 (by rw [h4]; exact i1) (h5 _ i2) rfl rfl hd ?_
  rw [← e]; exact n z hz H locs ls hH hlo hlv
theorem l_slen (C : CX X G nL cc own) {b0 L : Nat} {xs : Nat → Int32} (hX : va_X b0 L xs (mS X) G.1) (hbl : b0 < gb G) (hd : decode cc pc = .ok (.arraylength, 1)) (pn : Nat) (hn : pc + 1 = pn) (n : ZZ X G nL Qz cn o w pn lv (vi L :: st)) : ZZ X G nL Qz cn o w pc lv (.ref b0 :: st) := by
  subst hn
  intro z hz H locs ls hH hlo hlv
  obtain ⟨scr, h1, h2, h3, h4, h5⟩ := hX
  exact W.alen (n := i32 L) C.1 C.2.1 (by rw [hH.2.1 b0 hbl]; exact h1) h2 (by rw [h4]; rfl) rfl rfl hd (n z hz H locs ls hH hlo hlv)
theorem l_eq (C : CX X G nL cc own) {off : Int} (hd : decode cc pc = .ok (.if_icmp .eq off, 3)) (tgt : Nat) (ht : (pc : Int) + off = (tgt : Int)) (pn : Nat) (hn : pc + 3 = pn) (h : w32 a = w32 b) (n : ZZ X G nL Qz cn o w tgt lv st) : ZZ X G nL Qz cn o w pc lv (vi b :: vi a :: st) := by
  have e : o = if w32 a = w32 b then o else none := by rw [if_pos h]
  rw [e]
  exact z_icmp_eq C hd tgt ht pn hn rfl rfl (fun _ => n) (fun q => absurd h q)
theorem l_leq (C : CX X G nL cc own) (hd0 : decode cc pc = .ok (.lcmp, 1)) (p1 : Nat) (hp1 : pc + 1 = p1) {off : Int} (hd : decode cc p1 = .ok (.ifCond .eq off, 3)) (tgt : Nat) (ht : (p1 : Int) + off = (tgt : Int)) (pn : Nat) (hn : p1 + 3 = pn) (h : w64 a = w64 b) (n : ZZ X G nL Qz cn o w tgt lv st) : ZZ X G nL Qz cn o w pc lv (vl b :: vl a :: st) := by
  have e : o = if w64 a = w64 b then o else none := by rw [if_pos h]
  rw [e]
  exact z_lif_eq C hd0 p1 hp1 hd tgt ht pn hn rfl rfl (fun _ => n) (fun q => absurd h q)
end LROWS
theorem w32_t (x : Int32) : w32 x.toInt = x.toInt := by unfold w32; rw [Int32.ofInt_toInt]
def Sp0 (F : Nat) (Inv : Nat → St → Prop) : Prop := ∀ (n : Nat) (σ : St) (a : Int) (b : Int) (c : Int), n < 600 → Inv n σ → w32 a = a → w32 b = b → w32 c = c → ∃ (r1 : Int) (r2 : Int) (σ1 : St) (σ2 : St), gX10_post F σ a b c = some (r1, σ1) ∧ gX11_post F σ1 a b c = some (r2, σ2) ∧ w32 r1 = w32 r2 ∧ Inv (n + 1) σ2
def Sp1 (F : Nat) (Inv : Nat → St → Prop) : Prop := ∀ (n : Nat) (σ : St), n < 600 → Inv n σ → ∃ (r1 : Int) (r2 : Int) (σ1 : St) (σ2 : St), gX10_guest σ = some (r1, σ1) ∧ gX11_guest F σ1 = some (r2, σ2) ∧ w32 r1 = w32 r2 ∧ Inv (n + 1) σ2
def Sp2 (F : Nat) (Inv : Nat → St → Prop) : Prop := ∀ (n : Nat) (σ : St) (a : Int) (b : Int) (c : Int), n < 600 → Inv n σ → w32 a = a → w32 b = b → w32 c = c → ∃ (r1 : Int) (r2 : Int) (σ1 : St) (σ2 : St), gX10_worth σ a b c = some (r1, σ1) ∧ gX11_worth σ1 a b c = some (r2, σ2) ∧ w32 r1 = w32 r2 ∧ Inv (n + 1) σ2
def Sp3 (F : Nat) (Inv : Nat → St → Prop) : Prop := ∀ (n : Nat) (σ : St) (a : Int) (b : Int), n < 600 → Inv n σ → w32 a = a → w32 b = b → ∃ (r1 : Int) (r2 : Int) (σ1 : St) (σ2 : St), gX10_chance σ a b = some (r1, σ1) ∧ gX11_chance σ1 a b = some (r2, σ2) ∧ w32 r1 = w32 r2 ∧ Inv (n + 1) σ2
def Sp4 (F : Nat) (Inv : Nat → St → Prop) : Prop := ∀ (n : Nat) (σ : St) (a : Int) (b : Int), n < 600 → Inv n σ → w32 a = a → w32 b = b → ∃ (r1 : Int) (r2 : Int) (σ1 : St) (σ2 : St), gX10_rank σ a b = some (r1, σ1) ∧ gX11_rank F σ1 a b = some (r2, σ2) ∧ w32 r1 = w32 r2 ∧ Inv (n + 1) σ2
def Sp5 (F : Nat) (Inv : Nat → St → Prop) : Prop := ∀ (n : Nat) (σ : St) (a : Int) (b : Int), n < 600 → Inv n σ → w32 a = a → w32 b = b → ∃ (r1 : Int) (r2 : Int), gX10_told F σ a b = some r1 ∧ gX11_told F σ a b = some r2 ∧ w32 r1 = w32 r2 ∧ Inv (n + 1) σ
def Sp6 (F : Nat) (Inv : Nat → St → Prop) : Prop := ∀ (n : Nat) (σ : St) (v : Int), n < 600 → Inv n σ → w64 v = v → ∃ (r1 : Int) (r2 : Int) (σ1 : St) (σ2 : St), gX10_feed F σ v = some (r1, σ1) ∧ gX11_feed F σ1 v = some (r2, σ2) ∧ w32 r1 = w32 r2 ∧ Inv (n + 1) σ2
def Sp7 (F : Nat) (Inv : Nat → St → Prop) : Prop := ∀ (n : Nat) (σ : St) (a : Int), n < 600 → Inv n σ → w32 a = a → ∃ (r1 : Int) (r2 : Int) (σ1 : St) (σ2 : St), gX10_end σ a = some (r1, σ1) ∧ gX11_end σ1 a = some (r2, σ2) ∧ w32 r1 = w32 r2 ∧ Inv (n + 1) σ2
def Sp8 (F : Nat) (Inv : Nat → St → Prop) : Prop := ∀ (n : Nat) (σ : St), n < 600 → Inv n σ → ∃ (r1 : Int) (r2 : Int) (σ1 : St) (σ2 : St), gX10_rule F σ = some (r1, σ1) ∧ gX11_rule F σ1 = some (r2, σ2) ∧ w32 r1 = w32 r2 ∧ Inv (n + 1) σ2
def Sp9 (F : Nat) (Inv : Nat → St → Prop) : Prop := ∀ (n : Nat) (σ : St), n < 600 → Inv n σ → ∃ (r1 : Int) (r2 : Int), gX10_fault σ = some r1 ∧ gX11_fault σ = some r2 ∧ w32 r1 = w32 r2 ∧ Inv (n + 1) σ
def Sp10 (F : Nat) (Inv : Nat → St → Prop) : Prop := ∀ (n : Nat) (σ : St) (a : Int) (b : Int), n < 600 → Inv n σ → w32 a = a → w32 b = b → ∃ (r1 : Int) (r2 : Int), gX10_ruleOf σ a b = some r1 ∧ gX11_ruleOf σ a b = some r2 ∧ w32 r1 = w32 r2 ∧ Inv (n + 1) σ
def Sp11 (F : Nat) (Inv : Nat → St → Prop) : Prop := ∀ (n : Nat) (σ : St) (a : Int) (b : Int), n < 600 → Inv n σ → w32 a = a → w32 b = b → ∃ (r1 : Int) (r2 : Int) (σ1 : St) (σ2 : St), gX10_run F σ a b = some (r1, σ1) ∧ gX11_run F σ1 a b = some (r2, σ2) ∧ w32 r1 = w32 r2 ∧ Inv (n + 1) σ2
def Sp12 (F : Nat) (Inv : Nat → St → Prop) : Prop := ∀ (n : Nat) (σ : St) (a : Int) (b : Int), n < 600 → Inv n σ → w32 a = a → w32 b = b → ∃ (r1 : Int) (r2 : Int) (σ1 : St) (σ2 : St), gX10_runBy F σ a b = some (r1, σ1) ∧ gX11_runBy F σ1 a b = some (r2, σ2) ∧ w32 r1 = w32 r2 ∧ Inv (n + 1) σ2
def Sp13 (F : Nat) (Inv : Nat → St → Prop) : Prop := ∀ (n : Nat) (σ : St), n < 600 → Inv n σ → ∃ (r1 : Int) (r2 : Int) (σ1 : St) (σ2 : St), gX10_best F σ = some (r1, σ1) ∧ gX11_best F σ1 = some (r2, σ2) ∧ w32 r1 = w32 r2 ∧ Inv (n + 1) σ2
def Sp14 (F : Nat) (Inv : Nat → St → Prop) : Prop := ∀ (n : Nat) (σ : St) (a : Int), n < 600 → Inv n σ → w32 a = a → ∃ (r1 : Int) (r2 : Int) (σ1 : St) (σ2 : St), gX10_bestOf F σ a = some (r1, σ1) ∧ gX11_bestOf F σ1 a = some (r2, σ2) ∧ w32 r1 = w32 r2 ∧ Inv (n + 1) σ2
def Sp15 (F : Nat) (Inv : Nat → St → Prop) : Prop := ∀ (n : Nat) (σ : St) (a : Int), n < 600 → Inv n σ → w32 a = a → ∃ (r1 : Int) (r2 : Int) (σ1 : St) (σ2 : St), gX10_price F σ a = some (r1, σ1) ∧ gX11_price F σ1 a = some (r2, σ2) ∧ w32 r1 = w32 r2 ∧ Inv (n + 1) σ2
def Sp16 (F : Nat) (Inv : Nat → St → Prop) : Prop := ∀ (n : Nat) (σ : St) (v : Int), n < 600 → Inv n σ → w64 v = v → ∃ (r1 : Int) (r2 : Int) (σ1 : St) (σ2 : St), gX10_cover F σ v = some (r1, σ1) ∧ gX11_cover F σ1 v = some (r2, σ2) ∧ w32 r1 = w32 r2 ∧ Inv (n + 1) σ2
def Sp17 (F : Nat) (Inv : Nat → St → Prop) : Prop := ∀ (n : Nat) (σ : St) (a : Int) (b : Int) (c : Int), n < 600 → Inv n σ → w32 a = a → w32 b = b → w32 c = c → ∃ (r1 : Int) (r2 : Int) (σ1 : St) (σ2 : St), gX10_share F σ a b c = some (r1, σ1) ∧ gX11_share F σ1 a b c = some (r2, σ2) ∧ w32 r1 = w32 r2 ∧ Inv (n + 1) σ2
def Sp18 (F : Nat) (Inv : Nat → St → Prop) : Prop := ∀ (n : Nat) (σ : St) (a : Int) (b : Int), n < 600 → Inv n σ → w32 a = a → w32 b = b → ∃ (r1 : Int) (r2 : Int) (σ1 : St) (σ2 : St), gX10_mean F σ a b = some (r1, σ1) ∧ gX11_mean F σ1 a b = some (r2, σ2) ∧ w64 r1 = w64 r2 ∧ Inv (n + 1) σ2
def Sp19 (F : Nat) (Inv : Nat → St → Prop) : Prop := ∀ (n : Nat) (σ : St) (a : Int) (b : Int), n < 600 → Inv n σ → w32 a = a → w32 b = b → ∃ (r1 : Int) (r2 : Int) (σ1 : St) (σ2 : St), gX10_ends F σ a b = some (r1, σ1) ∧ gX11_ends F σ1 a b = some (r2, σ2) ∧ w32 r1 = w32 r2 ∧ Inv (n + 1) σ2
def Sp20 (F : Nat) (Inv : Nat → St → Prop) : Prop := ∀ (n : Nat) (σ : St) (a : Int) (b : Int), n < 600 → Inv n σ → w32 a = a → w32 b = b → ∃ (r1 : Int) (r2 : Int) (σ1 : St) (σ2 : St), gX10_meanOfRanks F σ a b = some (r1, σ1) ∧ gX11_meanOfRanks F σ1 a b = some (r2, σ2) ∧ w64 r1 = w64 r2 ∧ Inv (n + 1) σ2
def Sp21 (F : Nat) (Inv : Nat → St → Prop) : Prop := ∀ (n : Nat) (σ : St) (a : Int) (b : Int), n < 600 → Inv n σ → w32 a = a → w32 b = b → ∃ (r1 : Int) (r2 : Int) (σ1 : St) (σ2 : St), gX10_hope F σ a b = some (r1, σ1) ∧ gX11_hope F σ1 a b = some (r2, σ2) ∧ w64 r1 = w64 r2 ∧ Inv (n + 1) σ2
def Sp22 (F : Nat) (Inv : Nat → St → Prop) : Prop := ∀ (n : Nat) (σ : St) (a : Int) (b : Int), n < 600 → Inv n σ → w32 a = a → w32 b = b → ∃ (r1 : Int) (r2 : Int) (σ1 : St) (σ2 : St), gX10_hopeFor F σ a b = some (r1, σ1) ∧ gX11_hopeFor F σ1 a b = some (r2, σ2) ∧ w32 r1 = w32 r2 ∧ Inv (n + 1) σ2
def Sp23 (F : Nat) (Inv : Nat → St → Prop) : Prop := ∀ (n : Nat) (σ : St) (a : Int) (b : Int), n < 600 → Inv n σ → w32 a = a → w32 b = b → ∃ (r1 : Int) (r2 : Int) (σ1 : St) (σ2 : St), gX10_batch F σ a b = some (r1, σ1) ∧ gX11_batch F σ1 a b = some (r2, σ2) ∧ w32 r1 = w32 r2 ∧ Inv (n + 1) σ2
def Sp24 (F : Nat) (Inv : Nat → St → Prop) : Prop := ∀ (n : Nat) (σ : St) (a : Int) (b : Int) (c : Int), n < 600 → Inv n σ → w32 a = a → w32 b = b → w32 c = c → ∃ (r1 : Int) (r2 : Int) (σ1 : St) (σ2 : St), gX10_worst F σ a b c = some (r1, σ1) ∧ gX11_worst F σ1 a b c = some (r2, σ2) ∧ w32 r1 = w32 r2 ∧ Inv (n + 1) σ2
def Sp25 (F : Nat) (Inv : Nat → St → Prop) : Prop := ∀ (n : Nat) (σ : St) (a : Int) (b : Int), n < 600 → Inv n σ → w32 a = a → w32 b = b → ∃ (r1 : Int) (r2 : Int) (σ1 : St) (σ2 : St), gX10_come F σ a b = some (r1, σ1) ∧ gX11_come F σ1 a b = some (r2, σ2) ∧ w32 r1 = w32 r2 ∧ Inv (n + 1) σ2
def Sp26 (F : Nat) (Inv : Nat → St → Prop) : Prop := ∀ (n : Nat) (σ : St) (a : Int) (b : Int), n < 600 → Inv n σ → w32 a = a → w32 b = b → ∃ (r1 : Int) (r2 : Int) (σ1 : St) (σ2 : St), gX10_let F σ a b = some (r1, σ1) ∧ gX11_let F σ1 a b = some (r2, σ2) ∧ w32 r1 = w32 r2 ∧ Inv (n + 1) σ2
def Sp27 (F : Nat) (Inv : Nat → St → Prop) : Prop := ∀ (n : Nat) (σ : St) (a : Int), n < 600 → Inv n σ → w32 a = a → ∃ (r1 : Int) (r2 : Int) (σ1 : St) (σ2 : St), gX10_leave σ a = some (r1, σ1) ∧ gX11_leave F σ1 a = some (r2, σ2) ∧ w32 r1 = w32 r2 ∧ Inv (n + 1) σ2
def Sp28 (F : Nat) (Inv : Nat → St → Prop) : Prop := ∀ (n : Nat) (σ : St), n < 600 → Inv n σ → ∃ (r1 : Int) (r2 : Int) (σ1 : St) (σ2 : St), gX10_undo σ = some (r1, σ1) ∧ gX11_undo F σ1 = some (r2, σ2) ∧ w32 r1 = w32 r2 ∧ Inv (n + 1) σ2
def Sp29 (F : Nat) (Inv : Nat → St → Prop) : Prop := ∀ (n : Nat) (σ : St) (a : Int), n < 600 → Inv n σ → w32 a = a → ∃ (r1 : Int) (r2 : Int) (σ2 : St), gX10_market F σ a = some r1 ∧ gX11_market F σ a = some (r2, σ2) ∧ w32 r1 = w32 r2 ∧ Inv (n + 1) σ2
def Sp30 (F : Nat) (Inv : Nat → St → Prop) : Prop := ∀ (n : Nat) (σ : St) (a : Int) (b : Int) (c : Int), n < 600 → Inv n σ → w32 a = a → w32 b = b → w32 c = c → ∃ (r1 : Int) (r2 : Int) (σ1 : St) (σ2 : St), gX10_sheet σ a b c = some (r1, σ1) ∧ gX11_sheet F σ1 a b c = some (r2, σ2) ∧ w32 r1 = w32 r2 ∧ Inv (n + 1) σ2
def Sp31 (F : Nat) (Inv : Nat → St → Prop) : Prop := ∀ (n : Nat) (σ : St) (a : Int) (b : Int) (c : Int), n < 600 → Inv n σ → w32 a = a → w32 b = b → w32 c = c → ∃ (r1 : Int) (r2 : Int) (σ1 : St) (σ2 : St), gX10_lay σ a b c = some (r1, σ1) ∧ gX11_lay σ1 a b c = some (r2, σ2) ∧ w32 r1 = w32 r2 ∧ Inv (n + 1) σ2
def Sp32 (F : Nat) (Inv : Nat → St → Prop) : Prop := ∀ (n : Nat) (σ : St) (a : Int) (b : Int) (c : Int), n < 600 → Inv n σ → w32 a = a → w32 b = b → w32 c = c → ∃ (r1 : Int) (r2 : Int) (σ1 : St) (σ2 : St), gX10_net F σ a b c = some (r1, σ1) ∧ gX11_net F σ1 a b c = some (r2, σ2) ∧ w32 r1 = w32 r2 ∧ Inv (n + 1) σ2
def Sp33 (F : Nat) (Inv : Nat → St → Prop) : Prop := ∀ (n : Nat) (σ : St) (a : Int), n < 600 → Inv n σ → w32 a = a → ∃ (r1 : Int) (r2 : Int), gX10_count F σ a = some r1 ∧ gX11_count F σ a = some r2 ∧ w32 r1 = w32 r2 ∧ Inv (n + 1) σ
set_option maxRecDepth 100000 in
set_option maxHeartbeats 4000000 in
theorem law_case_0 {X : MX} {G : GG} (C : CX X G 4 cL_law RL) (hR : mR X = room_1) {Qz : Unit → State → Prop} {b L : Nat} {xs : Nat → Int32} (hX : va_X b L xs (mS X) G.1) (hbl : b < gb G) (F : Nat) {Inv : Nat → St → Prop} (S : Sp0 F Inv) {n : Nat} (hn : n < 600) {σ : St} (hI : Inv n σ) {i : Int} (hi : 0 ≤ i ∧ i + 4 ≤ (L : Int) ∧ L ≤ 2048) (next : ∀ σ' : St, Inv (n + 1) σ' → ZZ X G 4 Qz (181, 21341) (some ()) (w0 σ') 1259 [(0, .ref b), (1, vr G 0), (2, vr G 143), (3, vi i)] []) : ZZ X G 4 Qz (181, 21341) (some ()) (w0 σ) 184 [(0, .ref b), (1, vr G 0), (2, vr G 143), (3, vi i)] [] := by
  obtain ⟨r1, r2, σ1, σ2, q1, q2, q3, q4⟩ := S n σ ((xs (i + 1).toNat).toInt) ((xs (i + 2).toNat).toInt) ((xs (i + 3).toNat).toInt) hn hI (w32_t _) (w32_t _) (w32_t _)
  refine z_aload_n C 1 rfl 1 rfl dL_law_184 185 rfl ?_
  refine s_aload_n C 0 rfl 0 rfl dL_law_185 186 rfl ?_
  refine z_iload_n C 3 rfl 3 rfl dL_law_186 187 rfl ?_
  refine z_iconst C dL_law_187 188 rfl ?_
  refine z_iadd C dL_law_188 189 rfl ?_
  refine l_sld C hX hbl (w32_id (a := i + 1) (by omega)) (by omega) dL_law_189 190 rfl ?_
  refine s_aload_n C 0 rfl 0 rfl dL_law_190 191 rfl ?_
  refine z_iload_n C 3 rfl 3 rfl dL_law_191 192 rfl ?_
  refine z_iconst C dL_law_192 193 rfl ?_
  refine z_iadd C dL_law_193 194 rfl ?_
  refine l_sld C hX hbl (w32_id (a := i + 2) (by omega)) (by omega) dL_law_194 195 rfl ?_
  refine s_aload_n C 0 rfl 0 rfl dL_law_195 196 rfl ?_
  refine z_iload_n C 3 rfl 3 rfl dL_law_196 197 rfl ?_
  refine z_iconst C dL_law_197 198 rfl ?_
  refine z_iadd C dL_law_198 199 rfl ?_
  refine l_sld C hX hbl (w32_id (a := i + 3) (by omega)) (by omega) dL_law_199 200 rfl ?_
  refine l_call C hR q1 (tX10_post (mL X) G F σ ((xs (i + 1).toNat).toInt) ((xs (i + 2).toNat).toInt) ((xs (i + 3).toNat).toInt)) ⟨mwX10_post, mvX10_post, lkL_13⟩ one_10 rfl rfl (Nat.le_of_ble_eq_true rfl) (by unfold rmOK; decide) (by decide) dL_law_200 203 rfl ?_
  show ZZ X G 4 Qz (181, 21341) (some ()) (w0 σ1) 203 [(0, .ref b), (1, vr G 0), (2, vr G 143), (3, vi i)] [vi r1]
  refine z_aload_n C 2 rfl 2 rfl dL_law_203 204 rfl ?_
  refine s_aload_n C 0 rfl 0 rfl dL_law_204 205 rfl ?_
  refine z_iload_n C 3 rfl 3 rfl dL_law_205 206 rfl ?_
  refine z_iconst C dL_law_206 207 rfl ?_
  refine z_iadd C dL_law_207 208 rfl ?_
  refine l_sld C hX hbl (w32_id (a := i + 1) (by omega)) (by omega) dL_law_208 209 rfl ?_
  refine s_aload_n C 0 rfl 0 rfl dL_law_209 210 rfl ?_
  refine z_iload_n C 3 rfl 3 rfl dL_law_210 211 rfl ?_
  refine z_iconst C dL_law_211 212 rfl ?_
  refine z_iadd C dL_law_212 213 rfl ?_
  refine l_sld C hX hbl (w32_id (a := i + 2) (by omega)) (by omega) dL_law_213 214 rfl ?_
  refine s_aload_n C 0 rfl 0 rfl dL_law_214 215 rfl ?_
  refine z_iload_n C 3 rfl 3 rfl dL_law_215 216 rfl ?_
  refine z_iconst C dL_law_216 217 rfl ?_
  refine z_iadd C dL_law_217 218 rfl ?_
  refine l_sld C hX hbl (w32_id (a := i + 3) (by omega)) (by omega) dL_law_218 219 rfl ?_
  refine l_call C hR q2 (tX11_post (mL X) G F σ1 ((xs (i + 1).toNat).toInt) ((xs (i + 2).toNat).toInt) ((xs (i + 3).toNat).toInt)) ⟨mwX11_post, mvX11_post, lkL_17⟩ one_11 rfl rfl (Nat.le_of_ble_eq_true rfl) (by unfold rmOK; decide) (by decide) dL_law_219 222 rfl ?_
  show ZZ X G 4 Qz (181, 21341) (some ()) (w0 σ2) 222 [(0, .ref b), (1, vr G 0), (2, vr G 143), (3, vi i)] [vi r2, vi r1]
  refine l_eq C dL_law_222 1259 (by decide) 225 rfl q3 ?_
  exact next σ2 q4
set_option maxRecDepth 100000 in
set_option maxHeartbeats 4000000 in
theorem law_case_1 {X : MX} {G : GG} (C : CX X G 4 cL_law RL) (hR : mR X = room_1) {Qz : Unit → State → Prop} {b L : Nat} {xs : Nat → Int32} (hX : va_X b L xs (mS X) G.1) (hbl : b < gb G) (F : Nat) {Inv : Nat → St → Prop} (S : Sp1 F Inv) {n : Nat} (hn : n < 600) {σ : St} (hI : Inv n σ) {i : Int} (hi : 0 ≤ i ∧ i + 4 ≤ (L : Int) ∧ L ≤ 2048) (next : ∀ σ' : St, Inv (n + 1) σ' → ZZ X G 4 Qz (181, 21341) (some ()) (w0 σ') 1259 [(0, .ref b), (1, vr G 0), (2, vr G 143), (3, vi i)] []) : ZZ X G 4 Qz (181, 21341) (some ()) (w0 σ) 227 [(0, .ref b), (1, vr G 0), (2, vr G 143), (3, vi i)] [] := by
  obtain ⟨r1, r2, σ1, σ2, q1, q2, q3, q4⟩ := S n σ  hn hI
  refine z_aload_n C 1 rfl 1 rfl dL_law_227 228 rfl ?_
  refine l_call C hR q1 (tX10_guest (mL X) G σ) ⟨mwX10_guest, mvX10_guest, lkL_18⟩ one_10 rfl rfl (Nat.le_of_ble_eq_true rfl) (by unfold rmOK; decide) (by decide) dL_law_228 231 rfl ?_
  show ZZ X G 4 Qz (181, 21341) (some ()) (w0 σ1) 231 [(0, .ref b), (1, vr G 0), (2, vr G 143), (3, vi i)] [vi r1]
  refine z_aload_n C 2 rfl 2 rfl dL_law_231 232 rfl ?_
  refine l_call C hR q2 (tX11_guest (mL X) G F σ1) ⟨mwX11_guest, mvX11_guest, lkL_22⟩ one_11 rfl rfl (Nat.le_of_ble_eq_true rfl) (by unfold rmOK; decide) (by decide) dL_law_232 235 rfl ?_
  show ZZ X G 4 Qz (181, 21341) (some ()) (w0 σ2) 235 [(0, .ref b), (1, vr G 0), (2, vr G 143), (3, vi i)] [vi r2, vi r1]
  refine l_eq C dL_law_235 1259 (by decide) 238 rfl q3 ?_
  exact next σ2 q4
set_option maxRecDepth 100000 in
set_option maxHeartbeats 4000000 in
theorem law_case_2 {X : MX} {G : GG} (C : CX X G 4 cL_law RL) (hR : mR X = room_1) {Qz : Unit → State → Prop} {b L : Nat} {xs : Nat → Int32} (hX : va_X b L xs (mS X) G.1) (hbl : b < gb G) (F : Nat) {Inv : Nat → St → Prop} (S : Sp2 F Inv) {n : Nat} (hn : n < 600) {σ : St} (hI : Inv n σ) {i : Int} (hi : 0 ≤ i ∧ i + 4 ≤ (L : Int) ∧ L ≤ 2048) (next : ∀ σ' : St, Inv (n + 1) σ' → ZZ X G 4 Qz (181, 21341) (some ()) (w0 σ') 1259 [(0, .ref b), (1, vr G 0), (2, vr G 143), (3, vi i)] []) : ZZ X G 4 Qz (181, 21341) (some ()) (w0 σ) 240 [(0, .ref b), (1, vr G 0), (2, vr G 143), (3, vi i)] [] := by
  obtain ⟨r1, r2, σ1, σ2, q1, q2, q3, q4⟩ := S n σ ((xs (i + 1).toNat).toInt) ((xs (i + 2).toNat).toInt) ((xs (i + 3).toNat).toInt) hn hI (w32_t _) (w32_t _) (w32_t _)
  refine z_aload_n C 1 rfl 1 rfl dL_law_240 241 rfl ?_
  refine s_aload_n C 0 rfl 0 rfl dL_law_241 242 rfl ?_
  refine z_iload_n C 3 rfl 3 rfl dL_law_242 243 rfl ?_
  refine z_iconst C dL_law_243 244 rfl ?_
  refine z_iadd C dL_law_244 245 rfl ?_
  refine l_sld C hX hbl (w32_id (a := i + 1) (by omega)) (by omega) dL_law_245 246 rfl ?_
  refine s_aload_n C 0 rfl 0 rfl dL_law_246 247 rfl ?_
  refine z_iload_n C 3 rfl 3 rfl dL_law_247 248 rfl ?_
  refine z_iconst C dL_law_248 249 rfl ?_
  refine z_iadd C dL_law_249 250 rfl ?_
  refine l_sld C hX hbl (w32_id (a := i + 2) (by omega)) (by omega) dL_law_250 251 rfl ?_
  refine s_aload_n C 0 rfl 0 rfl dL_law_251 252 rfl ?_
  refine z_iload_n C 3 rfl 3 rfl dL_law_252 253 rfl ?_
  refine z_iconst C dL_law_253 254 rfl ?_
  refine z_iadd C dL_law_254 255 rfl ?_
  refine l_sld C hX hbl (w32_id (a := i + 3) (by omega)) (by omega) dL_law_255 256 rfl ?_
  refine l_call C hR q1 (tX10_worth (mL X) G σ ((xs (i + 1).toNat).toInt) ((xs (i + 2).toNat).toInt) ((xs (i + 3).toNat).toInt)) ⟨mwX10_worth, mvX10_worth, lkL_23⟩ one_10 rfl rfl (Nat.le_of_ble_eq_true rfl) (by unfold rmOK; decide) (by decide) dL_law_256 259 rfl ?_
  show ZZ X G 4 Qz (181, 21341) (some ()) (w0 σ1) 259 [(0, .ref b), (1, vr G 0), (2, vr G 143), (3, vi i)] [vi r1]
  refine z_aload_n C 2 rfl 2 rfl dL_law_259 260 rfl ?_
  refine s_aload_n C 0 rfl 0 rfl dL_law_260 261 rfl ?_
  refine z_iload_n C 3 rfl 3 rfl dL_law_261 262 rfl ?_
  refine z_iconst C dL_law_262 263 rfl ?_
  refine z_iadd C dL_law_263 264 rfl ?_
  refine l_sld C hX hbl (w32_id (a := i + 1) (by omega)) (by omega) dL_law_264 265 rfl ?_
  refine s_aload_n C 0 rfl 0 rfl dL_law_265 266 rfl ?_
  refine z_iload_n C 3 rfl 3 rfl dL_law_266 267 rfl ?_
  refine z_iconst C dL_law_267 268 rfl ?_
  refine z_iadd C dL_law_268 269 rfl ?_
  refine l_sld C hX hbl (w32_id (a := i + 2) (by omega)) (by omega) dL_law_269 270 rfl ?_
  refine s_aload_n C 0 rfl 0 rfl dL_law_270 271 rfl ?_
  refine z_iload_n C 3 rfl 3 rfl dL_law_271 272 rfl ?_
  refine z_iconst C dL_law_272 273 rfl ?_
  refine z_iadd C dL_law_273 274 rfl ?_
  refine l_sld C hX hbl (w32_id (a := i + 3) (by omega)) (by omega) dL_law_274 275 rfl ?_
  refine l_call C hR q2 (tX11_worth (mL X) G σ1 ((xs (i + 1).toNat).toInt) ((xs (i + 2).toNat).toInt) ((xs (i + 3).toNat).toInt)) ⟨mwX11_worth, mvX11_worth, lkL_26⟩ one_11 rfl rfl (Nat.le_of_ble_eq_true rfl) (by unfold rmOK; decide) (by decide) dL_law_275 278 rfl ?_
  show ZZ X G 4 Qz (181, 21341) (some ()) (w0 σ2) 278 [(0, .ref b), (1, vr G 0), (2, vr G 143), (3, vi i)] [vi r2, vi r1]
  refine l_eq C dL_law_278 1259 (by decide) 281 rfl q3 ?_
  exact next σ2 q4
set_option maxRecDepth 100000 in
set_option maxHeartbeats 4000000 in
theorem law_case_3 {X : MX} {G : GG} (C : CX X G 4 cL_law RL) (hR : mR X = room_1) {Qz : Unit → State → Prop} {b L : Nat} {xs : Nat → Int32} (hX : va_X b L xs (mS X) G.1) (hbl : b < gb G) (F : Nat) {Inv : Nat → St → Prop} (S : Sp3 F Inv) {n : Nat} (hn : n < 600) {σ : St} (hI : Inv n σ) {i : Int} (hi : 0 ≤ i ∧ i + 4 ≤ (L : Int) ∧ L ≤ 2048) (next : ∀ σ' : St, Inv (n + 1) σ' → ZZ X G 4 Qz (181, 21341) (some ()) (w0 σ') 1259 [(0, .ref b), (1, vr G 0), (2, vr G 143), (3, vi i)] []) : ZZ X G 4 Qz (181, 21341) (some ()) (w0 σ) 283 [(0, .ref b), (1, vr G 0), (2, vr G 143), (3, vi i)] [] := by
  obtain ⟨r1, r2, σ1, σ2, q1, q2, q3, q4⟩ := S n σ ((xs (i + 1).toNat).toInt) ((xs (i + 2).toNat).toInt) hn hI (w32_t _) (w32_t _)
  refine z_aload_n C 1 rfl 1 rfl dL_law_283 284 rfl ?_
  refine s_aload_n C 0 rfl 0 rfl dL_law_284 285 rfl ?_
  refine z_iload_n C 3 rfl 3 rfl dL_law_285 286 rfl ?_
  refine z_iconst C dL_law_286 287 rfl ?_
  refine z_iadd C dL_law_287 288 rfl ?_
  refine l_sld C hX hbl (w32_id (a := i + 1) (by omega)) (by omega) dL_law_288 289 rfl ?_
  refine s_aload_n C 0 rfl 0 rfl dL_law_289 290 rfl ?_
  refine z_iload_n C 3 rfl 3 rfl dL_law_290 291 rfl ?_
  refine z_iconst C dL_law_291 292 rfl ?_
  refine z_iadd C dL_law_292 293 rfl ?_
  refine l_sld C hX hbl (w32_id (a := i + 2) (by omega)) (by omega) dL_law_293 294 rfl ?_
  refine l_call C hR q1 (tX10_chance (mL X) G σ ((xs (i + 1).toNat).toInt) ((xs (i + 2).toNat).toInt)) ⟨mwX10_chance, mvX10_chance, lkL_27⟩ one_10 rfl rfl (Nat.le_of_ble_eq_true rfl) (by unfold rmOK; decide) (by decide) dL_law_294 297 rfl ?_
  show ZZ X G 4 Qz (181, 21341) (some ()) (w0 σ1) 297 [(0, .ref b), (1, vr G 0), (2, vr G 143), (3, vi i)] [vi r1]
  refine z_aload_n C 2 rfl 2 rfl dL_law_297 298 rfl ?_
  refine s_aload_n C 0 rfl 0 rfl dL_law_298 299 rfl ?_
  refine z_iload_n C 3 rfl 3 rfl dL_law_299 300 rfl ?_
  refine z_iconst C dL_law_300 301 rfl ?_
  refine z_iadd C dL_law_301 302 rfl ?_
  refine l_sld C hX hbl (w32_id (a := i + 1) (by omega)) (by omega) dL_law_302 303 rfl ?_
  refine s_aload_n C 0 rfl 0 rfl dL_law_303 304 rfl ?_
  refine z_iload_n C 3 rfl 3 rfl dL_law_304 305 rfl ?_
  refine z_iconst C dL_law_305 306 rfl ?_
  refine z_iadd C dL_law_306 307 rfl ?_
  refine l_sld C hX hbl (w32_id (a := i + 2) (by omega)) (by omega) dL_law_307 308 rfl ?_
  refine l_call C hR q2 (tX11_chance (mL X) G σ1 ((xs (i + 1).toNat).toInt) ((xs (i + 2).toNat).toInt)) ⟨mwX11_chance, mvX11_chance, lkL_31⟩ one_11 rfl rfl (Nat.le_of_ble_eq_true rfl) (by unfold rmOK; decide) (by decide) dL_law_308 311 rfl ?_
  show ZZ X G 4 Qz (181, 21341) (some ()) (w0 σ2) 311 [(0, .ref b), (1, vr G 0), (2, vr G 143), (3, vi i)] [vi r2, vi r1]
  refine l_eq C dL_law_311 1259 (by decide) 314 rfl q3 ?_
  exact next σ2 q4
set_option maxRecDepth 100000 in
set_option maxHeartbeats 4000000 in
theorem law_case_4 {X : MX} {G : GG} (C : CX X G 4 cL_law RL) (hR : mR X = room_1) {Qz : Unit → State → Prop} {b L : Nat} {xs : Nat → Int32} (hX : va_X b L xs (mS X) G.1) (hbl : b < gb G) (F : Nat) {Inv : Nat → St → Prop} (S : Sp4 F Inv) {n : Nat} (hn : n < 600) {σ : St} (hI : Inv n σ) {i : Int} (hi : 0 ≤ i ∧ i + 4 ≤ (L : Int) ∧ L ≤ 2048) (next : ∀ σ' : St, Inv (n + 1) σ' → ZZ X G 4 Qz (181, 21341) (some ()) (w0 σ') 1259 [(0, .ref b), (1, vr G 0), (2, vr G 143), (3, vi i)] []) : ZZ X G 4 Qz (181, 21341) (some ()) (w0 σ) 316 [(0, .ref b), (1, vr G 0), (2, vr G 143), (3, vi i)] [] := by
  obtain ⟨r1, r2, σ1, σ2, q1, q2, q3, q4⟩ := S n σ ((xs (i + 1).toNat).toInt) ((xs (i + 2).toNat).toInt) hn hI (w32_t _) (w32_t _)
  refine z_aload_n C 1 rfl 1 rfl dL_law_316 317 rfl ?_
  refine s_aload_n C 0 rfl 0 rfl dL_law_317 318 rfl ?_
  refine z_iload_n C 3 rfl 3 rfl dL_law_318 319 rfl ?_
  refine z_iconst C dL_law_319 320 rfl ?_
  refine z_iadd C dL_law_320 321 rfl ?_
  refine l_sld C hX hbl (w32_id (a := i + 1) (by omega)) (by omega) dL_law_321 322 rfl ?_
  refine s_aload_n C 0 rfl 0 rfl dL_law_322 323 rfl ?_
  refine z_iload_n C 3 rfl 3 rfl dL_law_323 324 rfl ?_
  refine z_iconst C dL_law_324 325 rfl ?_
  refine z_iadd C dL_law_325 326 rfl ?_
  refine l_sld C hX hbl (w32_id (a := i + 2) (by omega)) (by omega) dL_law_326 327 rfl ?_
  refine l_call C hR q1 (tX10_rank (mL X) G σ ((xs (i + 1).toNat).toInt) ((xs (i + 2).toNat).toInt)) ⟨mwX10_rank, mvX10_rank, lkL_32⟩ one_10 rfl rfl (Nat.le_of_ble_eq_true rfl) (by unfold rmOK; decide) (by decide) dL_law_327 330 rfl ?_
  show ZZ X G 4 Qz (181, 21341) (some ()) (w0 σ1) 330 [(0, .ref b), (1, vr G 0), (2, vr G 143), (3, vi i)] [vi r1]
  refine z_aload_n C 2 rfl 2 rfl dL_law_330 331 rfl ?_
  refine s_aload_n C 0 rfl 0 rfl dL_law_331 332 rfl ?_
  refine z_iload_n C 3 rfl 3 rfl dL_law_332 333 rfl ?_
  refine z_iconst C dL_law_333 334 rfl ?_
  refine z_iadd C dL_law_334 335 rfl ?_
  refine l_sld C hX hbl (w32_id (a := i + 1) (by omega)) (by omega) dL_law_335 336 rfl ?_
  refine s_aload_n C 0 rfl 0 rfl dL_law_336 337 rfl ?_
  refine z_iload_n C 3 rfl 3 rfl dL_law_337 338 rfl ?_
  refine z_iconst C dL_law_338 339 rfl ?_
  refine z_iadd C dL_law_339 340 rfl ?_
  refine l_sld C hX hbl (w32_id (a := i + 2) (by omega)) (by omega) dL_law_340 341 rfl ?_
  refine l_call C hR q2 (tX11_rank (mL X) G F σ1 ((xs (i + 1).toNat).toInt) ((xs (i + 2).toNat).toInt)) ⟨mwX11_rank, mvX11_rank, lkL_35⟩ one_11 rfl rfl (Nat.le_of_ble_eq_true rfl) (by unfold rmOK; decide) (by decide) dL_law_341 344 rfl ?_
  show ZZ X G 4 Qz (181, 21341) (some ()) (w0 σ2) 344 [(0, .ref b), (1, vr G 0), (2, vr G 143), (3, vi i)] [vi r2, vi r1]
  refine l_eq C dL_law_344 1259 (by decide) 347 rfl q3 ?_
  exact next σ2 q4
set_option maxRecDepth 100000 in
set_option maxHeartbeats 4000000 in
theorem law_case_5 {X : MX} {G : GG} (C : CX X G 4 cL_law RL) (hR : mR X = room_1) {Qz : Unit → State → Prop} {b L : Nat} {xs : Nat → Int32} (hX : va_X b L xs (mS X) G.1) (hbl : b < gb G) (F : Nat) {Inv : Nat → St → Prop} (S : Sp5 F Inv) {n : Nat} (hn : n < 600) {σ : St} (hI : Inv n σ) {i : Int} (hi : 0 ≤ i ∧ i + 4 ≤ (L : Int) ∧ L ≤ 2048) (next : ∀ σ' : St, Inv (n + 1) σ' → ZZ X G 4 Qz (181, 21341) (some ()) (w0 σ') 1259 [(0, .ref b), (1, vr G 0), (2, vr G 143), (3, vi i)] []) : ZZ X G 4 Qz (181, 21341) (some ()) (w0 σ) 349 [(0, .ref b), (1, vr G 0), (2, vr G 143), (3, vi i)] [] := by
  obtain ⟨r1, r2, q1, q2, q3, q4⟩ := S n σ ((xs (i + 1).toNat).toInt) ((xs (i + 2).toNat).toInt) hn hI (w32_t _) (w32_t _)
  refine z_aload_n C 1 rfl 1 rfl dL_law_349 350 rfl ?_
  refine s_aload_n C 0 rfl 0 rfl dL_law_350 351 rfl ?_
  refine z_iload_n C 3 rfl 3 rfl dL_law_351 352 rfl ?_
  refine z_iconst C dL_law_352 353 rfl ?_
  refine z_iadd C dL_law_353 354 rfl ?_
  refine l_sld C hX hbl (w32_id (a := i + 1) (by omega)) (by omega) dL_law_354 355 rfl ?_
  refine s_aload_n C 0 rfl 0 rfl dL_law_355 356 rfl ?_
  refine z_iload_n C 3 rfl 3 rfl dL_law_356 357 rfl ?_
  refine z_iconst C dL_law_357 358 rfl ?_
  refine z_iadd C dL_law_358 359 rfl ?_
  refine l_sld C hX hbl (w32_id (a := i + 2) (by omega)) (by omega) dL_law_359 360 rfl ?_
  refine l_call C hR q1 (tX10_told (mL X) G F σ ((xs (i + 1).toNat).toInt) ((xs (i + 2).toNat).toInt)) ⟨mwX10_told, mvX10_told, lkL_36⟩ one_10 rfl rfl (Nat.le_of_ble_eq_true rfl) (by unfold rmOK; decide) (by decide) dL_law_360 363 rfl ?_
  show ZZ X G 4 Qz (181, 21341) (some ()) (w0 σ) 363 [(0, .ref b), (1, vr G 0), (2, vr G 143), (3, vi i)] [vi r1]
  refine z_aload_n C 2 rfl 2 rfl dL_law_363 364 rfl ?_
  refine s_aload_n C 0 rfl 0 rfl dL_law_364 365 rfl ?_
  refine z_iload_n C 3 rfl 3 rfl dL_law_365 366 rfl ?_
  refine z_iconst C dL_law_366 367 rfl ?_
  refine z_iadd C dL_law_367 368 rfl ?_
  refine l_sld C hX hbl (w32_id (a := i + 1) (by omega)) (by omega) dL_law_368 369 rfl ?_
  refine s_aload_n C 0 rfl 0 rfl dL_law_369 370 rfl ?_
  refine z_iload_n C 3 rfl 3 rfl dL_law_370 371 rfl ?_
  refine z_iconst C dL_law_371 372 rfl ?_
  refine z_iadd C dL_law_372 373 rfl ?_
  refine l_sld C hX hbl (w32_id (a := i + 2) (by omega)) (by omega) dL_law_373 374 rfl ?_
  refine l_call C hR q2 (tX11_told (mL X) G F σ ((xs (i + 1).toNat).toInt) ((xs (i + 2).toNat).toInt)) ⟨mwX11_told, mvX11_told, lkL_39⟩ one_11 rfl rfl (Nat.le_of_ble_eq_true rfl) (by unfold rmOK; decide) (by decide) dL_law_374 377 rfl ?_
  show ZZ X G 4 Qz (181, 21341) (some ()) (w0 σ) 377 [(0, .ref b), (1, vr G 0), (2, vr G 143), (3, vi i)] [vi r2, vi r1]
  refine l_eq C dL_law_377 1259 (by decide) 380 rfl q3 ?_
  exact next σ q4
set_option maxRecDepth 100000 in
set_option maxHeartbeats 4000000 in
theorem law_case_6 {X : MX} {G : GG} (C : CX X G 4 cL_law RL) (hR : mR X = room_1) {Qz : Unit → State → Prop} {b L : Nat} {xs : Nat → Int32} (hX : va_X b L xs (mS X) G.1) (hbl : b < gb G) (F : Nat) {Inv : Nat → St → Prop} (S : Sp6 F Inv) {n : Nat} (hn : n < 600) {σ : St} (hI : Inv n σ) {i : Int} (hi : 0 ≤ i ∧ i + 4 ≤ (L : Int) ∧ L ≤ 2048) (next : ∀ σ' : St, Inv (n + 1) σ' → ZZ X G 4 Qz (181, 21341) (some ()) (w0 σ') 1259 [(0, .ref b), (1, vr G 0), (2, vr G 143), (3, vi i)] []) : ZZ X G 4 Qz (181, 21341) (some ()) (w0 σ) 382 [(0, .ref b), (1, vr G 0), (2, vr G 143), (3, vi i)] [] := by
  obtain ⟨r1, r2, σ1, σ2, q1, q2, q3, q4⟩ := S n σ (lor_ (lsl (w32 (xs (i + 1).toNat).toInt) 32) (land_ (w32 (xs (i + 2).toNat).toInt) 4294967295)) hn hI (w64_lor_ _ _)
  refine z_aload_n C 1 rfl 1 rfl dL_law_382 383 rfl ?_
  refine s_aload_n C 0 rfl 0 rfl dL_law_383 384 rfl ?_
  refine z_iload_n C 3 rfl 3 rfl dL_law_384 385 rfl ?_
  refine z_iconst C dL_law_385 386 rfl ?_
  refine z_iadd C dL_law_386 387 rfl ?_
  refine l_sld C hX hbl (w32_id (a := i + 1) (by omega)) (by omega) dL_law_387 388 rfl ?_
  refine z_i2l C dL_law_388 389 rfl ?_
  refine z_bipush C (by decide) dL_law_389 391 rfl ?_
  refine z_lshl C dL_law_391 392 rfl ?_
  refine s_aload_n C 0 rfl 0 rfl dL_law_392 393 rfl ?_
  refine z_iload_n C 3 rfl 3 rfl dL_law_393 394 rfl ?_
  refine z_iconst C dL_law_394 395 rfl ?_
  refine z_iadd C dL_law_395 396 rfl ?_
  refine l_sld C hX hbl (w32_id (a := i + 2) (by omega)) (by omega) dL_law_396 397 rfl ?_
  refine z_i2l C dL_law_397 398 rfl ?_
  refine z_ldc2 (v := 4294967295) C clL_40 (by decide) dL_law_398 401 rfl ?_
  refine z_land C dL_law_401 402 rfl ?_
  refine z_lor C dL_law_402 403 rfl ?_
  refine l_call C hR q1 (tX10_feed (mL X) G F σ (lor_ (lsl (w32 (xs (i + 1).toNat).toInt) 32) (land_ (w32 (xs (i + 2).toNat).toInt) 4294967295))) ⟨mwX10_feed, mvX10_feed, lkL_42⟩ one_10 rfl rfl (Nat.le_of_ble_eq_true rfl) (by unfold rmOK; decide) (by decide) dL_law_403 406 rfl ?_
  show ZZ X G 4 Qz (181, 21341) (some ()) (w0 σ1) 406 [(0, .ref b), (1, vr G 0), (2, vr G 143), (3, vi i)] [vi r1]
  refine z_aload_n C 2 rfl 2 rfl dL_law_406 407 rfl ?_
  refine s_aload_n C 0 rfl 0 rfl dL_law_407 408 rfl ?_
  refine z_iload_n C 3 rfl 3 rfl dL_law_408 409 rfl ?_
  refine z_iconst C dL_law_409 410 rfl ?_
  refine z_iadd C dL_law_410 411 rfl ?_
  refine l_sld C hX hbl (w32_id (a := i + 1) (by omega)) (by omega) dL_law_411 412 rfl ?_
  refine z_i2l C dL_law_412 413 rfl ?_
  refine z_bipush C (by decide) dL_law_413 415 rfl ?_
  refine z_lshl C dL_law_415 416 rfl ?_
  refine s_aload_n C 0 rfl 0 rfl dL_law_416 417 rfl ?_
  refine z_iload_n C 3 rfl 3 rfl dL_law_417 418 rfl ?_
  refine z_iconst C dL_law_418 419 rfl ?_
  refine z_iadd C dL_law_419 420 rfl ?_
  refine l_sld C hX hbl (w32_id (a := i + 2) (by omega)) (by omega) dL_law_420 421 rfl ?_
  refine z_i2l C dL_law_421 422 rfl ?_
  refine z_ldc2 (v := 4294967295) C clL_40 (by decide) dL_law_422 425 rfl ?_
  refine z_land C dL_law_425 426 rfl ?_
  refine z_lor C dL_law_426 427 rfl ?_
  refine l_call C hR q2 (tX11_feed (mL X) G F σ1 (lor_ (lsl (w32 (xs (i + 1).toNat).toInt) 32) (land_ (w32 (xs (i + 2).toNat).toInt) 4294967295))) ⟨mwX11_feed, mvX11_feed, lkL_46⟩ one_11 rfl rfl (Nat.le_of_ble_eq_true rfl) (by unfold rmOK; decide) (by decide) dL_law_427 430 rfl ?_
  show ZZ X G 4 Qz (181, 21341) (some ()) (w0 σ2) 430 [(0, .ref b), (1, vr G 0), (2, vr G 143), (3, vi i)] [vi r2, vi r1]
  refine l_eq C dL_law_430 1259 (by decide) 433 rfl q3 ?_
  exact next σ2 q4
set_option maxRecDepth 100000 in
set_option maxHeartbeats 4000000 in
theorem law_case_7 {X : MX} {G : GG} (C : CX X G 4 cL_law RL) (hR : mR X = room_1) {Qz : Unit → State → Prop} {b L : Nat} {xs : Nat → Int32} (hX : va_X b L xs (mS X) G.1) (hbl : b < gb G) (F : Nat) {Inv : Nat → St → Prop} (S : Sp7 F Inv) {n : Nat} (hn : n < 600) {σ : St} (hI : Inv n σ) {i : Int} (hi : 0 ≤ i ∧ i + 4 ≤ (L : Int) ∧ L ≤ 2048) (next : ∀ σ' : St, Inv (n + 1) σ' → ZZ X G 4 Qz (181, 21341) (some ()) (w0 σ') 1259 [(0, .ref b), (1, vr G 0), (2, vr G 143), (3, vi i)] []) : ZZ X G 4 Qz (181, 21341) (some ()) (w0 σ) 435 [(0, .ref b), (1, vr G 0), (2, vr G 143), (3, vi i)] [] := by
  obtain ⟨r1, r2, σ1, σ2, q1, q2, q3, q4⟩ := S n σ ((xs (i + 1).toNat).toInt) hn hI (w32_t _)
  refine z_aload_n C 1 rfl 1 rfl dL_law_435 436 rfl ?_
  refine s_aload_n C 0 rfl 0 rfl dL_law_436 437 rfl ?_
  refine z_iload_n C 3 rfl 3 rfl dL_law_437 438 rfl ?_
  refine z_iconst C dL_law_438 439 rfl ?_
  refine z_iadd C dL_law_439 440 rfl ?_
  refine l_sld C hX hbl (w32_id (a := i + 1) (by omega)) (by omega) dL_law_440 441 rfl ?_
  refine l_call C hR q1 (tX10_end (mL X) G σ ((xs (i + 1).toNat).toInt)) ⟨mwX10_end, mvX10_end, lkL_47⟩ one_10 rfl rfl (Nat.le_of_ble_eq_true rfl) (by unfold rmOK; decide) (by decide) dL_law_441 444 rfl ?_
  show ZZ X G 4 Qz (181, 21341) (some ()) (w0 σ1) 444 [(0, .ref b), (1, vr G 0), (2, vr G 143), (3, vi i)] [vi r1]
  refine z_aload_n C 2 rfl 2 rfl dL_law_444 445 rfl ?_
  refine s_aload_n C 0 rfl 0 rfl dL_law_445 446 rfl ?_
  refine z_iload_n C 3 rfl 3 rfl dL_law_446 447 rfl ?_
  refine z_iconst C dL_law_447 448 rfl ?_
  refine z_iadd C dL_law_448 449 rfl ?_
  refine l_sld C hX hbl (w32_id (a := i + 1) (by omega)) (by omega) dL_law_449 450 rfl ?_
  refine l_call C hR q2 (tX11_end (mL X) G σ1 ((xs (i + 1).toNat).toInt)) ⟨mwX11_end, mvX11_end, lkL_51⟩ one_11 rfl rfl (Nat.le_of_ble_eq_true rfl) (by unfold rmOK; decide) (by decide) dL_law_450 453 rfl ?_
  show ZZ X G 4 Qz (181, 21341) (some ()) (w0 σ2) 453 [(0, .ref b), (1, vr G 0), (2, vr G 143), (3, vi i)] [vi r2, vi r1]
  refine l_eq C dL_law_453 1259 (by decide) 456 rfl q3 ?_
  exact next σ2 q4
set_option maxRecDepth 100000 in
set_option maxHeartbeats 4000000 in
theorem law_case_8 {X : MX} {G : GG} (C : CX X G 4 cL_law RL) (hR : mR X = room_1) {Qz : Unit → State → Prop} {b L : Nat} {xs : Nat → Int32} (hX : va_X b L xs (mS X) G.1) (hbl : b < gb G) (F : Nat) {Inv : Nat → St → Prop} (S : Sp8 F Inv) {n : Nat} (hn : n < 600) {σ : St} (hI : Inv n σ) {i : Int} (hi : 0 ≤ i ∧ i + 4 ≤ (L : Int) ∧ L ≤ 2048) (next : ∀ σ' : St, Inv (n + 1) σ' → ZZ X G 4 Qz (181, 21341) (some ()) (w0 σ') 1259 [(0, .ref b), (1, vr G 0), (2, vr G 143), (3, vi i)] []) : ZZ X G 4 Qz (181, 21341) (some ()) (w0 σ) 458 [(0, .ref b), (1, vr G 0), (2, vr G 143), (3, vi i)] [] := by
  obtain ⟨r1, r2, σ1, σ2, q1, q2, q3, q4⟩ := S n σ  hn hI
  refine z_aload_n C 1 rfl 1 rfl dL_law_458 459 rfl ?_
  refine l_call C hR q1 (tX10_rule (mL X) G F σ) ⟨mwX10_rule, mvX10_rule, lkL_52⟩ one_10 rfl rfl (Nat.le_of_ble_eq_true rfl) (by unfold rmOK; decide) (by decide) dL_law_459 462 rfl ?_
  show ZZ X G 4 Qz (181, 21341) (some ()) (w0 σ1) 462 [(0, .ref b), (1, vr G 0), (2, vr G 143), (3, vi i)] [vi r1]
  refine z_aload_n C 2 rfl 2 rfl dL_law_462 463 rfl ?_
  refine l_call C hR q2 (tX11_rule (mL X) G F σ1) ⟨mwX11_rule, mvX11_rule, lkL_55⟩ one_11 rfl rfl (Nat.le_of_ble_eq_true rfl) (by unfold rmOK; decide) (by decide) dL_law_463 466 rfl ?_
  show ZZ X G 4 Qz (181, 21341) (some ()) (w0 σ2) 466 [(0, .ref b), (1, vr G 0), (2, vr G 143), (3, vi i)] [vi r2, vi r1]
  refine l_eq C dL_law_466 1259 (by decide) 469 rfl q3 ?_
  exact next σ2 q4
set_option maxRecDepth 100000 in
set_option maxHeartbeats 4000000 in
theorem law_case_9 {X : MX} {G : GG} (C : CX X G 4 cL_law RL) (hR : mR X = room_1) {Qz : Unit → State → Prop} {b L : Nat} {xs : Nat → Int32} (hX : va_X b L xs (mS X) G.1) (hbl : b < gb G) (F : Nat) {Inv : Nat → St → Prop} (S : Sp9 F Inv) {n : Nat} (hn : n < 600) {σ : St} (hI : Inv n σ) {i : Int} (hi : 0 ≤ i ∧ i + 4 ≤ (L : Int) ∧ L ≤ 2048) (next : ∀ σ' : St, Inv (n + 1) σ' → ZZ X G 4 Qz (181, 21341) (some ()) (w0 σ') 1259 [(0, .ref b), (1, vr G 0), (2, vr G 143), (3, vi i)] []) : ZZ X G 4 Qz (181, 21341) (some ()) (w0 σ) 471 [(0, .ref b), (1, vr G 0), (2, vr G 143), (3, vi i)] [] := by
  obtain ⟨r1, r2, q1, q2, q3, q4⟩ := S n σ  hn hI
  refine z_aload_n C 1 rfl 1 rfl dL_law_471 472 rfl ?_
  refine l_call C hR q1 (tX10_fault (mL X) G σ) ⟨mwX10_fault, mvX10_fault, lkL_56⟩ one_10 rfl rfl (Nat.le_of_ble_eq_true rfl) (by unfold rmOK; decide) (by decide) dL_law_472 475 rfl ?_
  show ZZ X G 4 Qz (181, 21341) (some ()) (w0 σ) 475 [(0, .ref b), (1, vr G 0), (2, vr G 143), (3, vi i)] [vi r1]
  refine z_aload_n C 2 rfl 2 rfl dL_law_475 476 rfl ?_
  refine l_call C hR q2 (tX11_fault (mL X) G σ) ⟨mwX11_fault, mvX11_fault, lkL_59⟩ one_11 rfl rfl (Nat.le_of_ble_eq_true rfl) (by unfold rmOK; decide) (by decide) dL_law_476 479 rfl ?_
  show ZZ X G 4 Qz (181, 21341) (some ()) (w0 σ) 479 [(0, .ref b), (1, vr G 0), (2, vr G 143), (3, vi i)] [vi r2, vi r1]
  refine l_eq C dL_law_479 1259 (by decide) 482 rfl q3 ?_
  exact next σ q4
set_option maxRecDepth 100000 in
set_option maxHeartbeats 4000000 in
theorem law_case_10 {X : MX} {G : GG} (C : CX X G 4 cL_law RL) (hR : mR X = room_1) {Qz : Unit → State → Prop} {b L : Nat} {xs : Nat → Int32} (hX : va_X b L xs (mS X) G.1) (hbl : b < gb G) (F : Nat) {Inv : Nat → St → Prop} (S : Sp10 F Inv) {n : Nat} (hn : n < 600) {σ : St} (hI : Inv n σ) {i : Int} (hi : 0 ≤ i ∧ i + 4 ≤ (L : Int) ∧ L ≤ 2048) (next : ∀ σ' : St, Inv (n + 1) σ' → ZZ X G 4 Qz (181, 21341) (some ()) (w0 σ') 1259 [(0, .ref b), (1, vr G 0), (2, vr G 143), (3, vi i)] []) : ZZ X G 4 Qz (181, 21341) (some ()) (w0 σ) 484 [(0, .ref b), (1, vr G 0), (2, vr G 143), (3, vi i)] [] := by
  obtain ⟨r1, r2, q1, q2, q3, q4⟩ := S n σ ((xs (i + 1).toNat).toInt) ((xs (i + 2).toNat).toInt) hn hI (w32_t _) (w32_t _)
  refine z_aload_n C 1 rfl 1 rfl dL_law_484 485 rfl ?_
  refine s_aload_n C 0 rfl 0 rfl dL_law_485 486 rfl ?_
  refine z_iload_n C 3 rfl 3 rfl dL_law_486 487 rfl ?_
  refine z_iconst C dL_law_487 488 rfl ?_
  refine z_iadd C dL_law_488 489 rfl ?_
  refine l_sld C hX hbl (w32_id (a := i + 1) (by omega)) (by omega) dL_law_489 490 rfl ?_
  refine s_aload_n C 0 rfl 0 rfl dL_law_490 491 rfl ?_
  refine z_iload_n C 3 rfl 3 rfl dL_law_491 492 rfl ?_
  refine z_iconst C dL_law_492 493 rfl ?_
  refine z_iadd C dL_law_493 494 rfl ?_
  refine l_sld C hX hbl (w32_id (a := i + 2) (by omega)) (by omega) dL_law_494 495 rfl ?_
  refine l_call C hR q1 (tX10_ruleOf (mL X) G σ ((xs (i + 1).toNat).toInt) ((xs (i + 2).toNat).toInt)) ⟨mwX10_ruleOf, mvX10_ruleOf, lkL_60⟩ one_10 rfl rfl (Nat.le_of_ble_eq_true rfl) (by unfold rmOK; decide) (by decide) dL_law_495 498 rfl ?_
  show ZZ X G 4 Qz (181, 21341) (some ()) (w0 σ) 498 [(0, .ref b), (1, vr G 0), (2, vr G 143), (3, vi i)] [vi r1]
  refine z_aload_n C 2 rfl 2 rfl dL_law_498 499 rfl ?_
  refine s_aload_n C 0 rfl 0 rfl dL_law_499 500 rfl ?_
  refine z_iload_n C 3 rfl 3 rfl dL_law_500 501 rfl ?_
  refine z_iconst C dL_law_501 502 rfl ?_
  refine z_iadd C dL_law_502 503 rfl ?_
  refine l_sld C hX hbl (w32_id (a := i + 1) (by omega)) (by omega) dL_law_503 504 rfl ?_
  refine s_aload_n C 0 rfl 0 rfl dL_law_504 505 rfl ?_
  refine z_iload_n C 3 rfl 3 rfl dL_law_505 506 rfl ?_
  refine z_iconst C dL_law_506 507 rfl ?_
  refine z_iadd C dL_law_507 508 rfl ?_
  refine l_sld C hX hbl (w32_id (a := i + 2) (by omega)) (by omega) dL_law_508 509 rfl ?_
  refine l_call C hR q2 (tX11_ruleOf (mL X) G σ ((xs (i + 1).toNat).toInt) ((xs (i + 2).toNat).toInt)) ⟨mwX11_ruleOf, mvX11_ruleOf, lkL_63⟩ one_11 rfl rfl (Nat.le_of_ble_eq_true rfl) (by unfold rmOK; decide) (by decide) dL_law_509 512 rfl ?_
  show ZZ X G 4 Qz (181, 21341) (some ()) (w0 σ) 512 [(0, .ref b), (1, vr G 0), (2, vr G 143), (3, vi i)] [vi r2, vi r1]
  refine l_eq C dL_law_512 1259 (by decide) 515 rfl q3 ?_
  exact next σ q4
set_option maxRecDepth 100000 in
set_option maxHeartbeats 4000000 in
theorem law_case_11 {X : MX} {G : GG} (C : CX X G 4 cL_law RL) (hR : mR X = room_1) {Qz : Unit → State → Prop} {b L : Nat} {xs : Nat → Int32} (hX : va_X b L xs (mS X) G.1) (hbl : b < gb G) (F : Nat) {Inv : Nat → St → Prop} (S : Sp11 F Inv) {n : Nat} (hn : n < 600) {σ : St} (hI : Inv n σ) {i : Int} (hi : 0 ≤ i ∧ i + 4 ≤ (L : Int) ∧ L ≤ 2048) (next : ∀ σ' : St, Inv (n + 1) σ' → ZZ X G 4 Qz (181, 21341) (some ()) (w0 σ') 1259 [(0, .ref b), (1, vr G 0), (2, vr G 143), (3, vi i)] []) : ZZ X G 4 Qz (181, 21341) (some ()) (w0 σ) 517 [(0, .ref b), (1, vr G 0), (2, vr G 143), (3, vi i)] [] := by
  obtain ⟨r1, r2, σ1, σ2, q1, q2, q3, q4⟩ := S n σ ((xs (i + 1).toNat).toInt) ((xs (i + 2).toNat).toInt) hn hI (w32_t _) (w32_t _)
  refine z_aload_n C 1 rfl 1 rfl dL_law_517 518 rfl ?_
  refine s_aload_n C 0 rfl 0 rfl dL_law_518 519 rfl ?_
  refine z_iload_n C 3 rfl 3 rfl dL_law_519 520 rfl ?_
  refine z_iconst C dL_law_520 521 rfl ?_
  refine z_iadd C dL_law_521 522 rfl ?_
  refine l_sld C hX hbl (w32_id (a := i + 1) (by omega)) (by omega) dL_law_522 523 rfl ?_
  refine s_aload_n C 0 rfl 0 rfl dL_law_523 524 rfl ?_
  refine z_iload_n C 3 rfl 3 rfl dL_law_524 525 rfl ?_
  refine z_iconst C dL_law_525 526 rfl ?_
  refine z_iadd C dL_law_526 527 rfl ?_
  refine l_sld C hX hbl (w32_id (a := i + 2) (by omega)) (by omega) dL_law_527 528 rfl ?_
  refine l_call C hR q1 (tX10_run (mL X) G F σ ((xs (i + 1).toNat).toInt) ((xs (i + 2).toNat).toInt)) ⟨mwX10_run, mvX10_run, lkL_64⟩ one_10 rfl rfl (Nat.le_of_ble_eq_true rfl) (by unfold rmOK; decide) (by decide) dL_law_528 531 rfl ?_
  show ZZ X G 4 Qz (181, 21341) (some ()) (w0 σ1) 531 [(0, .ref b), (1, vr G 0), (2, vr G 143), (3, vi i)] [vi r1]
  refine z_aload_n C 2 rfl 2 rfl dL_law_531 532 rfl ?_
  refine s_aload_n C 0 rfl 0 rfl dL_law_532 533 rfl ?_
  refine z_iload_n C 3 rfl 3 rfl dL_law_533 534 rfl ?_
  refine z_iconst C dL_law_534 535 rfl ?_
  refine z_iadd C dL_law_535 536 rfl ?_
  refine l_sld C hX hbl (w32_id (a := i + 1) (by omega)) (by omega) dL_law_536 537 rfl ?_
  refine s_aload_n C 0 rfl 0 rfl dL_law_537 538 rfl ?_
  refine z_iload_n C 3 rfl 3 rfl dL_law_538 539 rfl ?_
  refine z_iconst C dL_law_539 540 rfl ?_
  refine z_iadd C dL_law_540 541 rfl ?_
  refine l_sld C hX hbl (w32_id (a := i + 2) (by omega)) (by omega) dL_law_541 542 rfl ?_
  refine l_call C hR q2 (tX11_run (mL X) G F σ1 ((xs (i + 1).toNat).toInt) ((xs (i + 2).toNat).toInt)) ⟨mwX11_run, mvX11_run, lkL_67⟩ one_11 rfl rfl (Nat.le_of_ble_eq_true rfl) (by unfold rmOK; decide) (by decide) dL_law_542 545 rfl ?_
  show ZZ X G 4 Qz (181, 21341) (some ()) (w0 σ2) 545 [(0, .ref b), (1, vr G 0), (2, vr G 143), (3, vi i)] [vi r2, vi r1]
  refine l_eq C dL_law_545 1259 (by decide) 548 rfl q3 ?_
  exact next σ2 q4
set_option maxRecDepth 100000 in
set_option maxHeartbeats 4000000 in
theorem law_case_12 {X : MX} {G : GG} (C : CX X G 4 cL_law RL) (hR : mR X = room_1) {Qz : Unit → State → Prop} {b L : Nat} {xs : Nat → Int32} (hX : va_X b L xs (mS X) G.1) (hbl : b < gb G) (F : Nat) {Inv : Nat → St → Prop} (S : Sp12 F Inv) {n : Nat} (hn : n < 600) {σ : St} (hI : Inv n σ) {i : Int} (hi : 0 ≤ i ∧ i + 4 ≤ (L : Int) ∧ L ≤ 2048) (next : ∀ σ' : St, Inv (n + 1) σ' → ZZ X G 4 Qz (181, 21341) (some ()) (w0 σ') 1259 [(0, .ref b), (1, vr G 0), (2, vr G 143), (3, vi i)] []) : ZZ X G 4 Qz (181, 21341) (some ()) (w0 σ) 550 [(0, .ref b), (1, vr G 0), (2, vr G 143), (3, vi i)] [] := by
  obtain ⟨r1, r2, σ1, σ2, q1, q2, q3, q4⟩ := S n σ ((xs (i + 1).toNat).toInt) ((xs (i + 2).toNat).toInt) hn hI (w32_t _) (w32_t _)
  refine z_aload_n C 1 rfl 1 rfl dL_law_550 551 rfl ?_
  refine s_aload_n C 0 rfl 0 rfl dL_law_551 552 rfl ?_
  refine z_iload_n C 3 rfl 3 rfl dL_law_552 553 rfl ?_
  refine z_iconst C dL_law_553 554 rfl ?_
  refine z_iadd C dL_law_554 555 rfl ?_
  refine l_sld C hX hbl (w32_id (a := i + 1) (by omega)) (by omega) dL_law_555 556 rfl ?_
  refine s_aload_n C 0 rfl 0 rfl dL_law_556 557 rfl ?_
  refine z_iload_n C 3 rfl 3 rfl dL_law_557 558 rfl ?_
  refine z_iconst C dL_law_558 559 rfl ?_
  refine z_iadd C dL_law_559 560 rfl ?_
  refine l_sld C hX hbl (w32_id (a := i + 2) (by omega)) (by omega) dL_law_560 561 rfl ?_
  refine l_call C hR q1 (tX10_runBy (mL X) G F σ ((xs (i + 1).toNat).toInt) ((xs (i + 2).toNat).toInt)) ⟨mwX10_runBy, mvX10_runBy, lkL_68⟩ one_10 rfl rfl (Nat.le_of_ble_eq_true rfl) (by unfold rmOK; decide) (by decide) dL_law_561 564 rfl ?_
  show ZZ X G 4 Qz (181, 21341) (some ()) (w0 σ1) 564 [(0, .ref b), (1, vr G 0), (2, vr G 143), (3, vi i)] [vi r1]
  refine z_aload_n C 2 rfl 2 rfl dL_law_564 565 rfl ?_
  refine s_aload_n C 0 rfl 0 rfl dL_law_565 566 rfl ?_
  refine z_iload_n C 3 rfl 3 rfl dL_law_566 567 rfl ?_
  refine z_iconst C dL_law_567 568 rfl ?_
  refine z_iadd C dL_law_568 569 rfl ?_
  refine l_sld C hX hbl (w32_id (a := i + 1) (by omega)) (by omega) dL_law_569 570 rfl ?_
  refine s_aload_n C 0 rfl 0 rfl dL_law_570 571 rfl ?_
  refine z_iload_n C 3 rfl 3 rfl dL_law_571 572 rfl ?_
  refine z_iconst C dL_law_572 573 rfl ?_
  refine z_iadd C dL_law_573 574 rfl ?_
  refine l_sld C hX hbl (w32_id (a := i + 2) (by omega)) (by omega) dL_law_574 575 rfl ?_
  refine l_call C hR q2 (tX11_runBy (mL X) G F σ1 ((xs (i + 1).toNat).toInt) ((xs (i + 2).toNat).toInt)) ⟨mwX11_runBy, mvX11_runBy, lkL_71⟩ one_11 rfl rfl (Nat.le_of_ble_eq_true rfl) (by unfold rmOK; decide) (by decide) dL_law_575 578 rfl ?_
  show ZZ X G 4 Qz (181, 21341) (some ()) (w0 σ2) 578 [(0, .ref b), (1, vr G 0), (2, vr G 143), (3, vi i)] [vi r2, vi r1]
  refine l_eq C dL_law_578 1259 (by decide) 581 rfl q3 ?_
  exact next σ2 q4
set_option maxRecDepth 100000 in
set_option maxHeartbeats 4000000 in
theorem law_case_13 {X : MX} {G : GG} (C : CX X G 4 cL_law RL) (hR : mR X = room_1) {Qz : Unit → State → Prop} {b L : Nat} {xs : Nat → Int32} (hX : va_X b L xs (mS X) G.1) (hbl : b < gb G) (F : Nat) {Inv : Nat → St → Prop} (S : Sp13 F Inv) {n : Nat} (hn : n < 600) {σ : St} (hI : Inv n σ) {i : Int} (hi : 0 ≤ i ∧ i + 4 ≤ (L : Int) ∧ L ≤ 2048) (next : ∀ σ' : St, Inv (n + 1) σ' → ZZ X G 4 Qz (181, 21341) (some ()) (w0 σ') 1259 [(0, .ref b), (1, vr G 0), (2, vr G 143), (3, vi i)] []) : ZZ X G 4 Qz (181, 21341) (some ()) (w0 σ) 583 [(0, .ref b), (1, vr G 0), (2, vr G 143), (3, vi i)] [] := by
  obtain ⟨r1, r2, σ1, σ2, q1, q2, q3, q4⟩ := S n σ  hn hI
  refine z_aload_n C 1 rfl 1 rfl dL_law_583 584 rfl ?_
  refine l_call C hR q1 (tX10_best (mL X) G F σ) ⟨mwX10_best, mvX10_best, lkL_72⟩ one_10 rfl rfl (Nat.le_of_ble_eq_true rfl) (by unfold rmOK; decide) (by decide) dL_law_584 587 rfl ?_
  show ZZ X G 4 Qz (181, 21341) (some ()) (w0 σ1) 587 [(0, .ref b), (1, vr G 0), (2, vr G 143), (3, vi i)] [vi r1]
  refine z_aload_n C 2 rfl 2 rfl dL_law_587 588 rfl ?_
  refine l_call C hR q2 (tX11_best (mL X) G F σ1) ⟨mwX11_best, mvX11_best, lkL_75⟩ one_11 rfl rfl (Nat.le_of_ble_eq_true rfl) (by unfold rmOK; decide) (by decide) dL_law_588 591 rfl ?_
  show ZZ X G 4 Qz (181, 21341) (some ()) (w0 σ2) 591 [(0, .ref b), (1, vr G 0), (2, vr G 143), (3, vi i)] [vi r2, vi r1]
  refine l_eq C dL_law_591 1259 (by decide) 594 rfl q3 ?_
  exact next σ2 q4
set_option maxRecDepth 100000 in
set_option maxHeartbeats 4000000 in
theorem law_case_14 {X : MX} {G : GG} (C : CX X G 4 cL_law RL) (hR : mR X = room_1) {Qz : Unit → State → Prop} {b L : Nat} {xs : Nat → Int32} (hX : va_X b L xs (mS X) G.1) (hbl : b < gb G) (F : Nat) {Inv : Nat → St → Prop} (S : Sp14 F Inv) {n : Nat} (hn : n < 600) {σ : St} (hI : Inv n σ) {i : Int} (hi : 0 ≤ i ∧ i + 4 ≤ (L : Int) ∧ L ≤ 2048) (next : ∀ σ' : St, Inv (n + 1) σ' → ZZ X G 4 Qz (181, 21341) (some ()) (w0 σ') 1259 [(0, .ref b), (1, vr G 0), (2, vr G 143), (3, vi i)] []) : ZZ X G 4 Qz (181, 21341) (some ()) (w0 σ) 596 [(0, .ref b), (1, vr G 0), (2, vr G 143), (3, vi i)] [] := by
  obtain ⟨r1, r2, σ1, σ2, q1, q2, q3, q4⟩ := S n σ ((xs (i + 1).toNat).toInt) hn hI (w32_t _)
  refine z_aload_n C 1 rfl 1 rfl dL_law_596 597 rfl ?_
  refine s_aload_n C 0 rfl 0 rfl dL_law_597 598 rfl ?_
  refine z_iload_n C 3 rfl 3 rfl dL_law_598 599 rfl ?_
  refine z_iconst C dL_law_599 600 rfl ?_
  refine z_iadd C dL_law_600 601 rfl ?_
  refine l_sld C hX hbl (w32_id (a := i + 1) (by omega)) (by omega) dL_law_601 602 rfl ?_
  refine l_call C hR q1 (tX10_bestOf (mL X) G F σ ((xs (i + 1).toNat).toInt)) ⟨mwX10_bestOf, mvX10_bestOf, lkL_76⟩ one_10 rfl rfl (Nat.le_of_ble_eq_true rfl) (by unfold rmOK; decide) (by decide) dL_law_602 605 rfl ?_
  show ZZ X G 4 Qz (181, 21341) (some ()) (w0 σ1) 605 [(0, .ref b), (1, vr G 0), (2, vr G 143), (3, vi i)] [vi r1]
  refine z_aload_n C 2 rfl 2 rfl dL_law_605 606 rfl ?_
  refine s_aload_n C 0 rfl 0 rfl dL_law_606 607 rfl ?_
  refine z_iload_n C 3 rfl 3 rfl dL_law_607 608 rfl ?_
  refine z_iconst C dL_law_608 609 rfl ?_
  refine z_iadd C dL_law_609 610 rfl ?_
  refine l_sld C hX hbl (w32_id (a := i + 1) (by omega)) (by omega) dL_law_610 611 rfl ?_
  refine l_call C hR q2 (tX11_bestOf (mL X) G F σ1 ((xs (i + 1).toNat).toInt)) ⟨mwX11_bestOf, mvX11_bestOf, lkL_79⟩ one_11 rfl rfl (Nat.le_of_ble_eq_true rfl) (by unfold rmOK; decide) (by decide) dL_law_611 614 rfl ?_
  show ZZ X G 4 Qz (181, 21341) (some ()) (w0 σ2) 614 [(0, .ref b), (1, vr G 0), (2, vr G 143), (3, vi i)] [vi r2, vi r1]
  refine l_eq C dL_law_614 1259 (by decide) 617 rfl q3 ?_
  exact next σ2 q4
set_option maxRecDepth 100000 in
set_option maxHeartbeats 4000000 in
theorem law_case_15 {X : MX} {G : GG} (C : CX X G 4 cL_law RL) (hR : mR X = room_1) {Qz : Unit → State → Prop} {b L : Nat} {xs : Nat → Int32} (hX : va_X b L xs (mS X) G.1) (hbl : b < gb G) (F : Nat) {Inv : Nat → St → Prop} (S : Sp15 F Inv) {n : Nat} (hn : n < 600) {σ : St} (hI : Inv n σ) {i : Int} (hi : 0 ≤ i ∧ i + 4 ≤ (L : Int) ∧ L ≤ 2048) (next : ∀ σ' : St, Inv (n + 1) σ' → ZZ X G 4 Qz (181, 21341) (some ()) (w0 σ') 1259 [(0, .ref b), (1, vr G 0), (2, vr G 143), (3, vi i)] []) : ZZ X G 4 Qz (181, 21341) (some ()) (w0 σ) 619 [(0, .ref b), (1, vr G 0), (2, vr G 143), (3, vi i)] [] := by
  obtain ⟨r1, r2, σ1, σ2, q1, q2, q3, q4⟩ := S n σ ((xs (i + 1).toNat).toInt) hn hI (w32_t _)
  refine z_aload_n C 1 rfl 1 rfl dL_law_619 620 rfl ?_
  refine s_aload_n C 0 rfl 0 rfl dL_law_620 621 rfl ?_
  refine z_iload_n C 3 rfl 3 rfl dL_law_621 622 rfl ?_
  refine z_iconst C dL_law_622 623 rfl ?_
  refine z_iadd C dL_law_623 624 rfl ?_
  refine l_sld C hX hbl (w32_id (a := i + 1) (by omega)) (by omega) dL_law_624 625 rfl ?_
  refine l_call C hR q1 (tX10_price (mL X) G F σ ((xs (i + 1).toNat).toInt)) ⟨mwX10_price, mvX10_price, lkL_80⟩ one_10 rfl rfl (Nat.le_of_ble_eq_true rfl) (by unfold rmOK; decide) (by decide) dL_law_625 628 rfl ?_
  show ZZ X G 4 Qz (181, 21341) (some ()) (w0 σ1) 628 [(0, .ref b), (1, vr G 0), (2, vr G 143), (3, vi i)] [vi r1]
  refine z_aload_n C 2 rfl 2 rfl dL_law_628 629 rfl ?_
  refine s_aload_n C 0 rfl 0 rfl dL_law_629 630 rfl ?_
  refine z_iload_n C 3 rfl 3 rfl dL_law_630 631 rfl ?_
  refine z_iconst C dL_law_631 632 rfl ?_
  refine z_iadd C dL_law_632 633 rfl ?_
  refine l_sld C hX hbl (w32_id (a := i + 1) (by omega)) (by omega) dL_law_633 634 rfl ?_
  refine l_call C hR q2 (tX11_price (mL X) G F σ1 ((xs (i + 1).toNat).toInt)) ⟨mwX11_price, mvX11_price, lkL_83⟩ one_11 rfl rfl (Nat.le_of_ble_eq_true rfl) (by unfold rmOK; decide) (by decide) dL_law_634 637 rfl ?_
  show ZZ X G 4 Qz (181, 21341) (some ()) (w0 σ2) 637 [(0, .ref b), (1, vr G 0), (2, vr G 143), (3, vi i)] [vi r2, vi r1]
  refine l_eq C dL_law_637 1259 (by decide) 640 rfl q3 ?_
  exact next σ2 q4
set_option maxRecDepth 100000 in
set_option maxHeartbeats 4000000 in
theorem law_case_16 {X : MX} {G : GG} (C : CX X G 4 cL_law RL) (hR : mR X = room_1) {Qz : Unit → State → Prop} {b L : Nat} {xs : Nat → Int32} (hX : va_X b L xs (mS X) G.1) (hbl : b < gb G) (F : Nat) {Inv : Nat → St → Prop} (S : Sp16 F Inv) {n : Nat} (hn : n < 600) {σ : St} (hI : Inv n σ) {i : Int} (hi : 0 ≤ i ∧ i + 4 ≤ (L : Int) ∧ L ≤ 2048) (next : ∀ σ' : St, Inv (n + 1) σ' → ZZ X G 4 Qz (181, 21341) (some ()) (w0 σ') 1259 [(0, .ref b), (1, vr G 0), (2, vr G 143), (3, vi i)] []) : ZZ X G 4 Qz (181, 21341) (some ()) (w0 σ) 642 [(0, .ref b), (1, vr G 0), (2, vr G 143), (3, vi i)] [] := by
  obtain ⟨r1, r2, σ1, σ2, q1, q2, q3, q4⟩ := S n σ (lor_ (lsl (w32 (xs (i + 1).toNat).toInt) 32) (land_ (w32 (xs (i + 2).toNat).toInt) 4294967295)) hn hI (w64_lor_ _ _)
  refine z_aload_n C 1 rfl 1 rfl dL_law_642 643 rfl ?_
  refine s_aload_n C 0 rfl 0 rfl dL_law_643 644 rfl ?_
  refine z_iload_n C 3 rfl 3 rfl dL_law_644 645 rfl ?_
  refine z_iconst C dL_law_645 646 rfl ?_
  refine z_iadd C dL_law_646 647 rfl ?_
  refine l_sld C hX hbl (w32_id (a := i + 1) (by omega)) (by omega) dL_law_647 648 rfl ?_
  refine z_i2l C dL_law_648 649 rfl ?_
  refine z_bipush C (by decide) dL_law_649 651 rfl ?_
  refine z_lshl C dL_law_651 652 rfl ?_
  refine s_aload_n C 0 rfl 0 rfl dL_law_652 653 rfl ?_
  refine z_iload_n C 3 rfl 3 rfl dL_law_653 654 rfl ?_
  refine z_iconst C dL_law_654 655 rfl ?_
  refine z_iadd C dL_law_655 656 rfl ?_
  refine l_sld C hX hbl (w32_id (a := i + 2) (by omega)) (by omega) dL_law_656 657 rfl ?_
  refine z_i2l C dL_law_657 658 rfl ?_
  refine z_ldc2 (v := 4294967295) C clL_40 (by decide) dL_law_658 661 rfl ?_
  refine z_land C dL_law_661 662 rfl ?_
  refine z_lor C dL_law_662 663 rfl ?_
  refine l_call C hR q1 (tX10_cover (mL X) G F σ (lor_ (lsl (w32 (xs (i + 1).toNat).toInt) 32) (land_ (w32 (xs (i + 2).toNat).toInt) 4294967295))) ⟨mwX10_cover, mvX10_cover, lkL_84⟩ one_10 rfl rfl (Nat.le_of_ble_eq_true rfl) (by unfold rmOK; decide) (by decide) dL_law_663 666 rfl ?_
  show ZZ X G 4 Qz (181, 21341) (some ()) (w0 σ1) 666 [(0, .ref b), (1, vr G 0), (2, vr G 143), (3, vi i)] [vi r1]
  refine z_aload_n C 2 rfl 2 rfl dL_law_666 667 rfl ?_
  refine s_aload_n C 0 rfl 0 rfl dL_law_667 668 rfl ?_
  refine z_iload_n C 3 rfl 3 rfl dL_law_668 669 rfl ?_
  refine z_iconst C dL_law_669 670 rfl ?_
  refine z_iadd C dL_law_670 671 rfl ?_
  refine l_sld C hX hbl (w32_id (a := i + 1) (by omega)) (by omega) dL_law_671 672 rfl ?_
  refine z_i2l C dL_law_672 673 rfl ?_
  refine z_bipush C (by decide) dL_law_673 675 rfl ?_
  refine z_lshl C dL_law_675 676 rfl ?_
  refine s_aload_n C 0 rfl 0 rfl dL_law_676 677 rfl ?_
  refine z_iload_n C 3 rfl 3 rfl dL_law_677 678 rfl ?_
  refine z_iconst C dL_law_678 679 rfl ?_
  refine z_iadd C dL_law_679 680 rfl ?_
  refine l_sld C hX hbl (w32_id (a := i + 2) (by omega)) (by omega) dL_law_680 681 rfl ?_
  refine z_i2l C dL_law_681 682 rfl ?_
  refine z_ldc2 (v := 4294967295) C clL_40 (by decide) dL_law_682 685 rfl ?_
  refine z_land C dL_law_685 686 rfl ?_
  refine z_lor C dL_law_686 687 rfl ?_
  refine l_call C hR q2 (tX11_cover (mL X) G F σ1 (lor_ (lsl (w32 (xs (i + 1).toNat).toInt) 32) (land_ (w32 (xs (i + 2).toNat).toInt) 4294967295))) ⟨mwX11_cover, mvX11_cover, lkL_87⟩ one_11 rfl rfl (Nat.le_of_ble_eq_true rfl) (by unfold rmOK; decide) (by decide) dL_law_687 690 rfl ?_
  show ZZ X G 4 Qz (181, 21341) (some ()) (w0 σ2) 690 [(0, .ref b), (1, vr G 0), (2, vr G 143), (3, vi i)] [vi r2, vi r1]
  refine l_eq C dL_law_690 1259 (by decide) 693 rfl q3 ?_
  exact next σ2 q4
set_option maxRecDepth 100000 in
set_option maxHeartbeats 4000000 in
theorem law_case_17 {X : MX} {G : GG} (C : CX X G 4 cL_law RL) (hR : mR X = room_1) {Qz : Unit → State → Prop} {b L : Nat} {xs : Nat → Int32} (hX : va_X b L xs (mS X) G.1) (hbl : b < gb G) (F : Nat) {Inv : Nat → St → Prop} (S : Sp17 F Inv) {n : Nat} (hn : n < 600) {σ : St} (hI : Inv n σ) {i : Int} (hi : 0 ≤ i ∧ i + 4 ≤ (L : Int) ∧ L ≤ 2048) (next : ∀ σ' : St, Inv (n + 1) σ' → ZZ X G 4 Qz (181, 21341) (some ()) (w0 σ') 1259 [(0, .ref b), (1, vr G 0), (2, vr G 143), (3, vi i)] []) : ZZ X G 4 Qz (181, 21341) (some ()) (w0 σ) 695 [(0, .ref b), (1, vr G 0), (2, vr G 143), (3, vi i)] [] := by
  obtain ⟨r1, r2, σ1, σ2, q1, q2, q3, q4⟩ := S n σ ((xs (i + 1).toNat).toInt) ((xs (i + 2).toNat).toInt) ((xs (i + 3).toNat).toInt) hn hI (w32_t _) (w32_t _) (w32_t _)
  refine z_aload_n C 1 rfl 1 rfl dL_law_695 696 rfl ?_
  refine s_aload_n C 0 rfl 0 rfl dL_law_696 697 rfl ?_
  refine z_iload_n C 3 rfl 3 rfl dL_law_697 698 rfl ?_
  refine z_iconst C dL_law_698 699 rfl ?_
  refine z_iadd C dL_law_699 700 rfl ?_
  refine l_sld C hX hbl (w32_id (a := i + 1) (by omega)) (by omega) dL_law_700 701 rfl ?_
  refine s_aload_n C 0 rfl 0 rfl dL_law_701 702 rfl ?_
  refine z_iload_n C 3 rfl 3 rfl dL_law_702 703 rfl ?_
  refine z_iconst C dL_law_703 704 rfl ?_
  refine z_iadd C dL_law_704 705 rfl ?_
  refine l_sld C hX hbl (w32_id (a := i + 2) (by omega)) (by omega) dL_law_705 706 rfl ?_
  refine s_aload_n C 0 rfl 0 rfl dL_law_706 707 rfl ?_
  refine z_iload_n C 3 rfl 3 rfl dL_law_707 708 rfl ?_
  refine z_iconst C dL_law_708 709 rfl ?_
  refine z_iadd C dL_law_709 710 rfl ?_
  refine l_sld C hX hbl (w32_id (a := i + 3) (by omega)) (by omega) dL_law_710 711 rfl ?_
  refine l_call C hR q1 (tX10_share (mL X) G F σ ((xs (i + 1).toNat).toInt) ((xs (i + 2).toNat).toInt) ((xs (i + 3).toNat).toInt)) ⟨mwX10_share, mvX10_share, lkL_88⟩ one_10 rfl rfl (Nat.le_of_ble_eq_true rfl) (by unfold rmOK; decide) (by decide) dL_law_711 714 rfl ?_
  show ZZ X G 4 Qz (181, 21341) (some ()) (w0 σ1) 714 [(0, .ref b), (1, vr G 0), (2, vr G 143), (3, vi i)] [vi r1]
  refine z_aload_n C 2 rfl 2 rfl dL_law_714 715 rfl ?_
  refine s_aload_n C 0 rfl 0 rfl dL_law_715 716 rfl ?_
  refine z_iload_n C 3 rfl 3 rfl dL_law_716 717 rfl ?_
  refine z_iconst C dL_law_717 718 rfl ?_
  refine z_iadd C dL_law_718 719 rfl ?_
  refine l_sld C hX hbl (w32_id (a := i + 1) (by omega)) (by omega) dL_law_719 720 rfl ?_
  refine s_aload_n C 0 rfl 0 rfl dL_law_720 721 rfl ?_
  refine z_iload_n C 3 rfl 3 rfl dL_law_721 722 rfl ?_
  refine z_iconst C dL_law_722 723 rfl ?_
  refine z_iadd C dL_law_723 724 rfl ?_
  refine l_sld C hX hbl (w32_id (a := i + 2) (by omega)) (by omega) dL_law_724 725 rfl ?_
  refine s_aload_n C 0 rfl 0 rfl dL_law_725 726 rfl ?_
  refine z_iload_n C 3 rfl 3 rfl dL_law_726 727 rfl ?_
  refine z_iconst C dL_law_727 728 rfl ?_
  refine z_iadd C dL_law_728 729 rfl ?_
  refine l_sld C hX hbl (w32_id (a := i + 3) (by omega)) (by omega) dL_law_729 730 rfl ?_
  refine l_call C hR q2 (tX11_share (mL X) G F σ1 ((xs (i + 1).toNat).toInt) ((xs (i + 2).toNat).toInt) ((xs (i + 3).toNat).toInt)) ⟨mwX11_share, mvX11_share, lkL_91⟩ one_11 rfl rfl (Nat.le_of_ble_eq_true rfl) (by unfold rmOK; decide) (by decide) dL_law_730 733 rfl ?_
  show ZZ X G 4 Qz (181, 21341) (some ()) (w0 σ2) 733 [(0, .ref b), (1, vr G 0), (2, vr G 143), (3, vi i)] [vi r2, vi r1]
  refine l_eq C dL_law_733 1259 (by decide) 736 rfl q3 ?_
  exact next σ2 q4
set_option maxRecDepth 100000 in
set_option maxHeartbeats 4000000 in
theorem law_case_18 {X : MX} {G : GG} (C : CX X G 4 cL_law RL) (hR : mR X = room_1) {Qz : Unit → State → Prop} {b L : Nat} {xs : Nat → Int32} (hX : va_X b L xs (mS X) G.1) (hbl : b < gb G) (F : Nat) {Inv : Nat → St → Prop} (S : Sp18 F Inv) {n : Nat} (hn : n < 600) {σ : St} (hI : Inv n σ) {i : Int} (hi : 0 ≤ i ∧ i + 4 ≤ (L : Int) ∧ L ≤ 2048) (next : ∀ σ' : St, Inv (n + 1) σ' → ZZ X G 4 Qz (181, 21341) (some ()) (w0 σ') 1259 [(0, .ref b), (1, vr G 0), (2, vr G 143), (3, vi i)] []) : ZZ X G 4 Qz (181, 21341) (some ()) (w0 σ) 738 [(0, .ref b), (1, vr G 0), (2, vr G 143), (3, vi i)] [] := by
  obtain ⟨r1, r2, σ1, σ2, q1, q2, q3, q4⟩ := S n σ ((xs (i + 1).toNat).toInt) ((xs (i + 2).toNat).toInt) hn hI (w32_t _) (w32_t _)
  refine z_aload_n C 1 rfl 1 rfl dL_law_738 739 rfl ?_
  refine s_aload_n C 0 rfl 0 rfl dL_law_739 740 rfl ?_
  refine z_iload_n C 3 rfl 3 rfl dL_law_740 741 rfl ?_
  refine z_iconst C dL_law_741 742 rfl ?_
  refine z_iadd C dL_law_742 743 rfl ?_
  refine l_sld C hX hbl (w32_id (a := i + 1) (by omega)) (by omega) dL_law_743 744 rfl ?_
  refine s_aload_n C 0 rfl 0 rfl dL_law_744 745 rfl ?_
  refine z_iload_n C 3 rfl 3 rfl dL_law_745 746 rfl ?_
  refine z_iconst C dL_law_746 747 rfl ?_
  refine z_iadd C dL_law_747 748 rfl ?_
  refine l_sld C hX hbl (w32_id (a := i + 2) (by omega)) (by omega) dL_law_748 749 rfl ?_
  refine l_call C hR q1 (tX10_mean (mL X) G F σ ((xs (i + 1).toNat).toInt) ((xs (i + 2).toNat).toInt)) ⟨mwX10_mean, mvX10_mean, lkL_92⟩ one_10 rfl rfl (Nat.le_of_ble_eq_true rfl) (by unfold rmOK; decide) (by decide) dL_law_749 752 rfl ?_
  show ZZ X G 4 Qz (181, 21341) (some ()) (w0 σ1) 752 [(0, .ref b), (1, vr G 0), (2, vr G 143), (3, vi i)] [vl r1]
  refine z_aload_n C 2 rfl 2 rfl dL_law_752 753 rfl ?_
  refine s_aload_n C 0 rfl 0 rfl dL_law_753 754 rfl ?_
  refine z_iload_n C 3 rfl 3 rfl dL_law_754 755 rfl ?_
  refine z_iconst C dL_law_755 756 rfl ?_
  refine z_iadd C dL_law_756 757 rfl ?_
  refine l_sld C hX hbl (w32_id (a := i + 1) (by omega)) (by omega) dL_law_757 758 rfl ?_
  refine s_aload_n C 0 rfl 0 rfl dL_law_758 759 rfl ?_
  refine z_iload_n C 3 rfl 3 rfl dL_law_759 760 rfl ?_
  refine z_iconst C dL_law_760 761 rfl ?_
  refine z_iadd C dL_law_761 762 rfl ?_
  refine l_sld C hX hbl (w32_id (a := i + 2) (by omega)) (by omega) dL_law_762 763 rfl ?_
  refine l_call C hR q2 (tX11_mean (mL X) G F σ1 ((xs (i + 1).toNat).toInt) ((xs (i + 2).toNat).toInt)) ⟨mwX11_mean, mvX11_mean, lkL_96⟩ one_11 rfl rfl (Nat.le_of_ble_eq_true rfl) (by unfold rmOK; decide) (by decide) dL_law_763 766 rfl ?_
  show ZZ X G 4 Qz (181, 21341) (some ()) (w0 σ2) 766 [(0, .ref b), (1, vr G 0), (2, vr G 143), (3, vi i)] [vl r2, vl r1]
  refine l_leq C dL_law_766 767 rfl dL_law_767 1259 (by decide) 770 rfl q3 ?_
  exact next σ2 q4
set_option maxRecDepth 100000 in
set_option maxHeartbeats 4000000 in
theorem law_case_19 {X : MX} {G : GG} (C : CX X G 4 cL_law RL) (hR : mR X = room_1) {Qz : Unit → State → Prop} {b L : Nat} {xs : Nat → Int32} (hX : va_X b L xs (mS X) G.1) (hbl : b < gb G) (F : Nat) {Inv : Nat → St → Prop} (S : Sp19 F Inv) {n : Nat} (hn : n < 600) {σ : St} (hI : Inv n σ) {i : Int} (hi : 0 ≤ i ∧ i + 4 ≤ (L : Int) ∧ L ≤ 2048) (next : ∀ σ' : St, Inv (n + 1) σ' → ZZ X G 4 Qz (181, 21341) (some ()) (w0 σ') 1259 [(0, .ref b), (1, vr G 0), (2, vr G 143), (3, vi i)] []) : ZZ X G 4 Qz (181, 21341) (some ()) (w0 σ) 772 [(0, .ref b), (1, vr G 0), (2, vr G 143), (3, vi i)] [] := by
  obtain ⟨r1, r2, σ1, σ2, q1, q2, q3, q4⟩ := S n σ ((xs (i + 1).toNat).toInt) ((xs (i + 2).toNat).toInt) hn hI (w32_t _) (w32_t _)
  refine z_aload_n C 1 rfl 1 rfl dL_law_772 773 rfl ?_
  refine s_aload_n C 0 rfl 0 rfl dL_law_773 774 rfl ?_
  refine z_iload_n C 3 rfl 3 rfl dL_law_774 775 rfl ?_
  refine z_iconst C dL_law_775 776 rfl ?_
  refine z_iadd C dL_law_776 777 rfl ?_
  refine l_sld C hX hbl (w32_id (a := i + 1) (by omega)) (by omega) dL_law_777 778 rfl ?_
  refine s_aload_n C 0 rfl 0 rfl dL_law_778 779 rfl ?_
  refine z_iload_n C 3 rfl 3 rfl dL_law_779 780 rfl ?_
  refine z_iconst C dL_law_780 781 rfl ?_
  refine z_iadd C dL_law_781 782 rfl ?_
  refine l_sld C hX hbl (w32_id (a := i + 2) (by omega)) (by omega) dL_law_782 783 rfl ?_
  refine l_call C hR q1 (tX10_ends (mL X) G F σ ((xs (i + 1).toNat).toInt) ((xs (i + 2).toNat).toInt)) ⟨mwX10_ends, mvX10_ends, lkL_97⟩ one_10 rfl rfl (Nat.le_of_ble_eq_true rfl) (by unfold rmOK; decide) (by decide) dL_law_783 786 rfl ?_
  show ZZ X G 4 Qz (181, 21341) (some ()) (w0 σ1) 786 [(0, .ref b), (1, vr G 0), (2, vr G 143), (3, vi i)] [vi r1]
  refine z_aload_n C 2 rfl 2 rfl dL_law_786 787 rfl ?_
  refine s_aload_n C 0 rfl 0 rfl dL_law_787 788 rfl ?_
  refine z_iload_n C 3 rfl 3 rfl dL_law_788 789 rfl ?_
  refine z_iconst C dL_law_789 790 rfl ?_
  refine z_iadd C dL_law_790 791 rfl ?_
  refine l_sld C hX hbl (w32_id (a := i + 1) (by omega)) (by omega) dL_law_791 792 rfl ?_
  refine s_aload_n C 0 rfl 0 rfl dL_law_792 793 rfl ?_
  refine z_iload_n C 3 rfl 3 rfl dL_law_793 794 rfl ?_
  refine z_iconst C dL_law_794 795 rfl ?_
  refine z_iadd C dL_law_795 796 rfl ?_
  refine l_sld C hX hbl (w32_id (a := i + 2) (by omega)) (by omega) dL_law_796 797 rfl ?_
  refine l_call C hR q2 (tX11_ends (mL X) G F σ1 ((xs (i + 1).toNat).toInt) ((xs (i + 2).toNat).toInt)) ⟨mwX11_ends, mvX11_ends, lkL_100⟩ one_11 rfl rfl (Nat.le_of_ble_eq_true rfl) (by unfold rmOK; decide) (by decide) dL_law_797 800 rfl ?_
  show ZZ X G 4 Qz (181, 21341) (some ()) (w0 σ2) 800 [(0, .ref b), (1, vr G 0), (2, vr G 143), (3, vi i)] [vi r2, vi r1]
  refine l_eq C dL_law_800 1259 (by decide) 803 rfl q3 ?_
  exact next σ2 q4
set_option maxRecDepth 100000 in
set_option maxHeartbeats 4000000 in
theorem law_case_20 {X : MX} {G : GG} (C : CX X G 4 cL_law RL) (hR : mR X = room_1) {Qz : Unit → State → Prop} {b L : Nat} {xs : Nat → Int32} (hX : va_X b L xs (mS X) G.1) (hbl : b < gb G) (F : Nat) {Inv : Nat → St → Prop} (S : Sp20 F Inv) {n : Nat} (hn : n < 600) {σ : St} (hI : Inv n σ) {i : Int} (hi : 0 ≤ i ∧ i + 4 ≤ (L : Int) ∧ L ≤ 2048) (next : ∀ σ' : St, Inv (n + 1) σ' → ZZ X G 4 Qz (181, 21341) (some ()) (w0 σ') 1259 [(0, .ref b), (1, vr G 0), (2, vr G 143), (3, vi i)] []) : ZZ X G 4 Qz (181, 21341) (some ()) (w0 σ) 805 [(0, .ref b), (1, vr G 0), (2, vr G 143), (3, vi i)] [] := by
  obtain ⟨r1, r2, σ1, σ2, q1, q2, q3, q4⟩ := S n σ ((xs (i + 1).toNat).toInt) ((xs (i + 2).toNat).toInt) hn hI (w32_t _) (w32_t _)
  refine z_aload_n C 1 rfl 1 rfl dL_law_805 806 rfl ?_
  refine s_aload_n C 0 rfl 0 rfl dL_law_806 807 rfl ?_
  refine z_iload_n C 3 rfl 3 rfl dL_law_807 808 rfl ?_
  refine z_iconst C dL_law_808 809 rfl ?_
  refine z_iadd C dL_law_809 810 rfl ?_
  refine l_sld C hX hbl (w32_id (a := i + 1) (by omega)) (by omega) dL_law_810 811 rfl ?_
  refine s_aload_n C 0 rfl 0 rfl dL_law_811 812 rfl ?_
  refine z_iload_n C 3 rfl 3 rfl dL_law_812 813 rfl ?_
  refine z_iconst C dL_law_813 814 rfl ?_
  refine z_iadd C dL_law_814 815 rfl ?_
  refine l_sld C hX hbl (w32_id (a := i + 2) (by omega)) (by omega) dL_law_815 816 rfl ?_
  refine l_call C hR q1 (tX10_meanOfRanks (mL X) G F σ ((xs (i + 1).toNat).toInt) ((xs (i + 2).toNat).toInt)) ⟨mwX10_meanOfRanks, mvX10_meanOfRanks, lkL_101⟩ one_10 rfl rfl (Nat.le_of_ble_eq_true rfl) (by unfold rmOK; decide) (by decide) dL_law_816 819 rfl ?_
  show ZZ X G 4 Qz (181, 21341) (some ()) (w0 σ1) 819 [(0, .ref b), (1, vr G 0), (2, vr G 143), (3, vi i)] [vl r1]
  refine z_aload_n C 2 rfl 2 rfl dL_law_819 820 rfl ?_
  refine s_aload_n C 0 rfl 0 rfl dL_law_820 821 rfl ?_
  refine z_iload_n C 3 rfl 3 rfl dL_law_821 822 rfl ?_
  refine z_iconst C dL_law_822 823 rfl ?_
  refine z_iadd C dL_law_823 824 rfl ?_
  refine l_sld C hX hbl (w32_id (a := i + 1) (by omega)) (by omega) dL_law_824 825 rfl ?_
  refine s_aload_n C 0 rfl 0 rfl dL_law_825 826 rfl ?_
  refine z_iload_n C 3 rfl 3 rfl dL_law_826 827 rfl ?_
  refine z_iconst C dL_law_827 828 rfl ?_
  refine z_iadd C dL_law_828 829 rfl ?_
  refine l_sld C hX hbl (w32_id (a := i + 2) (by omega)) (by omega) dL_law_829 830 rfl ?_
  refine l_call C hR q2 (tX11_meanOfRanks (mL X) G F σ1 ((xs (i + 1).toNat).toInt) ((xs (i + 2).toNat).toInt)) ⟨mwX11_meanOfRanks, mvX11_meanOfRanks, lkL_104⟩ one_11 rfl rfl (Nat.le_of_ble_eq_true rfl) (by unfold rmOK; decide) (by decide) dL_law_830 833 rfl ?_
  show ZZ X G 4 Qz (181, 21341) (some ()) (w0 σ2) 833 [(0, .ref b), (1, vr G 0), (2, vr G 143), (3, vi i)] [vl r2, vl r1]
  refine l_leq C dL_law_833 834 rfl dL_law_834 1259 (by decide) 837 rfl q3 ?_
  exact next σ2 q4
set_option maxRecDepth 100000 in
set_option maxHeartbeats 4000000 in
theorem law_case_21 {X : MX} {G : GG} (C : CX X G 4 cL_law RL) (hR : mR X = room_1) {Qz : Unit → State → Prop} {b L : Nat} {xs : Nat → Int32} (hX : va_X b L xs (mS X) G.1) (hbl : b < gb G) (F : Nat) {Inv : Nat → St → Prop} (S : Sp21 F Inv) {n : Nat} (hn : n < 600) {σ : St} (hI : Inv n σ) {i : Int} (hi : 0 ≤ i ∧ i + 4 ≤ (L : Int) ∧ L ≤ 2048) (next : ∀ σ' : St, Inv (n + 1) σ' → ZZ X G 4 Qz (181, 21341) (some ()) (w0 σ') 1259 [(0, .ref b), (1, vr G 0), (2, vr G 143), (3, vi i)] []) : ZZ X G 4 Qz (181, 21341) (some ()) (w0 σ) 839 [(0, .ref b), (1, vr G 0), (2, vr G 143), (3, vi i)] [] := by
  obtain ⟨r1, r2, σ1, σ2, q1, q2, q3, q4⟩ := S n σ ((xs (i + 1).toNat).toInt) ((xs (i + 2).toNat).toInt) hn hI (w32_t _) (w32_t _)
  refine z_aload_n C 1 rfl 1 rfl dL_law_839 840 rfl ?_
  refine s_aload_n C 0 rfl 0 rfl dL_law_840 841 rfl ?_
  refine z_iload_n C 3 rfl 3 rfl dL_law_841 842 rfl ?_
  refine z_iconst C dL_law_842 843 rfl ?_
  refine z_iadd C dL_law_843 844 rfl ?_
  refine l_sld C hX hbl (w32_id (a := i + 1) (by omega)) (by omega) dL_law_844 845 rfl ?_
  refine s_aload_n C 0 rfl 0 rfl dL_law_845 846 rfl ?_
  refine z_iload_n C 3 rfl 3 rfl dL_law_846 847 rfl ?_
  refine z_iconst C dL_law_847 848 rfl ?_
  refine z_iadd C dL_law_848 849 rfl ?_
  refine l_sld C hX hbl (w32_id (a := i + 2) (by omega)) (by omega) dL_law_849 850 rfl ?_
  refine l_call C hR q1 (tX10_hope (mL X) G F σ ((xs (i + 1).toNat).toInt) ((xs (i + 2).toNat).toInt)) ⟨mwX10_hope, mvX10_hope, lkL_105⟩ one_10 rfl rfl (Nat.le_of_ble_eq_true rfl) (by unfold rmOK; decide) (by decide) dL_law_850 853 rfl ?_
  show ZZ X G 4 Qz (181, 21341) (some ()) (w0 σ1) 853 [(0, .ref b), (1, vr G 0), (2, vr G 143), (3, vi i)] [vl r1]
  refine z_aload_n C 2 rfl 2 rfl dL_law_853 854 rfl ?_
  refine s_aload_n C 0 rfl 0 rfl dL_law_854 855 rfl ?_
  refine z_iload_n C 3 rfl 3 rfl dL_law_855 856 rfl ?_
  refine z_iconst C dL_law_856 857 rfl ?_
  refine z_iadd C dL_law_857 858 rfl ?_
  refine l_sld C hX hbl (w32_id (a := i + 1) (by omega)) (by omega) dL_law_858 859 rfl ?_
  refine s_aload_n C 0 rfl 0 rfl dL_law_859 860 rfl ?_
  refine z_iload_n C 3 rfl 3 rfl dL_law_860 861 rfl ?_
  refine z_iconst C dL_law_861 862 rfl ?_
  refine z_iadd C dL_law_862 863 rfl ?_
  refine l_sld C hX hbl (w32_id (a := i + 2) (by omega)) (by omega) dL_law_863 864 rfl ?_
  refine l_call C hR q2 (tX11_hope (mL X) G F σ1 ((xs (i + 1).toNat).toInt) ((xs (i + 2).toNat).toInt)) ⟨mwX11_hope, mvX11_hope, lkL_108⟩ one_11 rfl rfl (Nat.le_of_ble_eq_true rfl) (by unfold rmOK; decide) (by decide) dL_law_864 867 rfl ?_
  show ZZ X G 4 Qz (181, 21341) (some ()) (w0 σ2) 867 [(0, .ref b), (1, vr G 0), (2, vr G 143), (3, vi i)] [vl r2, vl r1]
  refine l_leq C dL_law_867 868 rfl dL_law_868 1259 (by decide) 871 rfl q3 ?_
  exact next σ2 q4
set_option maxRecDepth 100000 in
set_option maxHeartbeats 4000000 in
theorem law_case_22 {X : MX} {G : GG} (C : CX X G 4 cL_law RL) (hR : mR X = room_1) {Qz : Unit → State → Prop} {b L : Nat} {xs : Nat → Int32} (hX : va_X b L xs (mS X) G.1) (hbl : b < gb G) (F : Nat) {Inv : Nat → St → Prop} (S : Sp22 F Inv) {n : Nat} (hn : n < 600) {σ : St} (hI : Inv n σ) {i : Int} (hi : 0 ≤ i ∧ i + 4 ≤ (L : Int) ∧ L ≤ 2048) (next : ∀ σ' : St, Inv (n + 1) σ' → ZZ X G 4 Qz (181, 21341) (some ()) (w0 σ') 1259 [(0, .ref b), (1, vr G 0), (2, vr G 143), (3, vi i)] []) : ZZ X G 4 Qz (181, 21341) (some ()) (w0 σ) 873 [(0, .ref b), (1, vr G 0), (2, vr G 143), (3, vi i)] [] := by
  obtain ⟨r1, r2, σ1, σ2, q1, q2, q3, q4⟩ := S n σ ((xs (i + 1).toNat).toInt) ((xs (i + 2).toNat).toInt) hn hI (w32_t _) (w32_t _)
  refine z_aload_n C 1 rfl 1 rfl dL_law_873 874 rfl ?_
  refine s_aload_n C 0 rfl 0 rfl dL_law_874 875 rfl ?_
  refine z_iload_n C 3 rfl 3 rfl dL_law_875 876 rfl ?_
  refine z_iconst C dL_law_876 877 rfl ?_
  refine z_iadd C dL_law_877 878 rfl ?_
  refine l_sld C hX hbl (w32_id (a := i + 1) (by omega)) (by omega) dL_law_878 879 rfl ?_
  refine s_aload_n C 0 rfl 0 rfl dL_law_879 880 rfl ?_
  refine z_iload_n C 3 rfl 3 rfl dL_law_880 881 rfl ?_
  refine z_iconst C dL_law_881 882 rfl ?_
  refine z_iadd C dL_law_882 883 rfl ?_
  refine l_sld C hX hbl (w32_id (a := i + 2) (by omega)) (by omega) dL_law_883 884 rfl ?_
  refine l_call C hR q1 (tX10_hopeFor (mL X) G F σ ((xs (i + 1).toNat).toInt) ((xs (i + 2).toNat).toInt)) ⟨mwX10_hopeFor, mvX10_hopeFor, lkL_109⟩ one_10 rfl rfl (Nat.le_of_ble_eq_true rfl) (by unfold rmOK; decide) (by decide) dL_law_884 887 rfl ?_
  show ZZ X G 4 Qz (181, 21341) (some ()) (w0 σ1) 887 [(0, .ref b), (1, vr G 0), (2, vr G 143), (3, vi i)] [vi r1]
  refine z_aload_n C 2 rfl 2 rfl dL_law_887 888 rfl ?_
  refine s_aload_n C 0 rfl 0 rfl dL_law_888 889 rfl ?_
  refine z_iload_n C 3 rfl 3 rfl dL_law_889 890 rfl ?_
  refine z_iconst C dL_law_890 891 rfl ?_
  refine z_iadd C dL_law_891 892 rfl ?_
  refine l_sld C hX hbl (w32_id (a := i + 1) (by omega)) (by omega) dL_law_892 893 rfl ?_
  refine s_aload_n C 0 rfl 0 rfl dL_law_893 894 rfl ?_
  refine z_iload_n C 3 rfl 3 rfl dL_law_894 895 rfl ?_
  refine z_iconst C dL_law_895 896 rfl ?_
  refine z_iadd C dL_law_896 897 rfl ?_
  refine l_sld C hX hbl (w32_id (a := i + 2) (by omega)) (by omega) dL_law_897 898 rfl ?_
  refine l_call C hR q2 (tX11_hopeFor (mL X) G F σ1 ((xs (i + 1).toNat).toInt) ((xs (i + 2).toNat).toInt)) ⟨mwX11_hopeFor, mvX11_hopeFor, lkL_112⟩ one_11 rfl rfl (Nat.le_of_ble_eq_true rfl) (by unfold rmOK; decide) (by decide) dL_law_898 901 rfl ?_
  show ZZ X G 4 Qz (181, 21341) (some ()) (w0 σ2) 901 [(0, .ref b), (1, vr G 0), (2, vr G 143), (3, vi i)] [vi r2, vi r1]
  refine l_eq C dL_law_901 1259 (by decide) 904 rfl q3 ?_
  exact next σ2 q4
set_option maxRecDepth 100000 in
set_option maxHeartbeats 4000000 in
theorem law_case_23 {X : MX} {G : GG} (C : CX X G 4 cL_law RL) (hR : mR X = room_1) {Qz : Unit → State → Prop} {b L : Nat} {xs : Nat → Int32} (hX : va_X b L xs (mS X) G.1) (hbl : b < gb G) (F : Nat) {Inv : Nat → St → Prop} (S : Sp23 F Inv) {n : Nat} (hn : n < 600) {σ : St} (hI : Inv n σ) {i : Int} (hi : 0 ≤ i ∧ i + 4 ≤ (L : Int) ∧ L ≤ 2048) (next : ∀ σ' : St, Inv (n + 1) σ' → ZZ X G 4 Qz (181, 21341) (some ()) (w0 σ') 1259 [(0, .ref b), (1, vr G 0), (2, vr G 143), (3, vi i)] []) : ZZ X G 4 Qz (181, 21341) (some ()) (w0 σ) 906 [(0, .ref b), (1, vr G 0), (2, vr G 143), (3, vi i)] [] := by
  obtain ⟨r1, r2, σ1, σ2, q1, q2, q3, q4⟩ := S n σ ((xs (i + 1).toNat).toInt) ((xs (i + 2).toNat).toInt) hn hI (w32_t _) (w32_t _)
  refine z_aload_n C 1 rfl 1 rfl dL_law_906 907 rfl ?_
  refine s_aload_n C 0 rfl 0 rfl dL_law_907 908 rfl ?_
  refine z_iload_n C 3 rfl 3 rfl dL_law_908 909 rfl ?_
  refine z_iconst C dL_law_909 910 rfl ?_
  refine z_iadd C dL_law_910 911 rfl ?_
  refine l_sld C hX hbl (w32_id (a := i + 1) (by omega)) (by omega) dL_law_911 912 rfl ?_
  refine s_aload_n C 0 rfl 0 rfl dL_law_912 913 rfl ?_
  refine z_iload_n C 3 rfl 3 rfl dL_law_913 914 rfl ?_
  refine z_iconst C dL_law_914 915 rfl ?_
  refine z_iadd C dL_law_915 916 rfl ?_
  refine l_sld C hX hbl (w32_id (a := i + 2) (by omega)) (by omega) dL_law_916 917 rfl ?_
  refine l_call C hR q1 (tX10_batch (mL X) G F σ ((xs (i + 1).toNat).toInt) ((xs (i + 2).toNat).toInt)) ⟨mwX10_batch, mvX10_batch, lkL_113⟩ one_10 rfl rfl (Nat.le_of_ble_eq_true rfl) (by unfold rmOK; decide) (by decide) dL_law_917 920 rfl ?_
  show ZZ X G 4 Qz (181, 21341) (some ()) (w0 σ1) 920 [(0, .ref b), (1, vr G 0), (2, vr G 143), (3, vi i)] [vi r1]
  refine z_aload_n C 2 rfl 2 rfl dL_law_920 921 rfl ?_
  refine s_aload_n C 0 rfl 0 rfl dL_law_921 922 rfl ?_
  refine z_iload_n C 3 rfl 3 rfl dL_law_922 923 rfl ?_
  refine z_iconst C dL_law_923 924 rfl ?_
  refine z_iadd C dL_law_924 925 rfl ?_
  refine l_sld C hX hbl (w32_id (a := i + 1) (by omega)) (by omega) dL_law_925 926 rfl ?_
  refine s_aload_n C 0 rfl 0 rfl dL_law_926 927 rfl ?_
  refine z_iload_n C 3 rfl 3 rfl dL_law_927 928 rfl ?_
  refine z_iconst C dL_law_928 929 rfl ?_
  refine z_iadd C dL_law_929 930 rfl ?_
  refine l_sld C hX hbl (w32_id (a := i + 2) (by omega)) (by omega) dL_law_930 931 rfl ?_
  refine l_call C hR q2 (tX11_batch (mL X) G F σ1 ((xs (i + 1).toNat).toInt) ((xs (i + 2).toNat).toInt)) ⟨mwX11_batch, mvX11_batch, lkL_116⟩ one_11 rfl rfl (Nat.le_of_ble_eq_true rfl) (by unfold rmOK; decide) (by decide) dL_law_931 934 rfl ?_
  show ZZ X G 4 Qz (181, 21341) (some ()) (w0 σ2) 934 [(0, .ref b), (1, vr G 0), (2, vr G 143), (3, vi i)] [vi r2, vi r1]
  refine l_eq C dL_law_934 1259 (by decide) 937 rfl q3 ?_
  exact next σ2 q4
set_option maxRecDepth 100000 in
set_option maxHeartbeats 4000000 in
theorem law_case_24 {X : MX} {G : GG} (C : CX X G 4 cL_law RL) (hR : mR X = room_1) {Qz : Unit → State → Prop} {b L : Nat} {xs : Nat → Int32} (hX : va_X b L xs (mS X) G.1) (hbl : b < gb G) (F : Nat) {Inv : Nat → St → Prop} (S : Sp24 F Inv) {n : Nat} (hn : n < 600) {σ : St} (hI : Inv n σ) {i : Int} (hi : 0 ≤ i ∧ i + 4 ≤ (L : Int) ∧ L ≤ 2048) (next : ∀ σ' : St, Inv (n + 1) σ' → ZZ X G 4 Qz (181, 21341) (some ()) (w0 σ') 1259 [(0, .ref b), (1, vr G 0), (2, vr G 143), (3, vi i)] []) : ZZ X G 4 Qz (181, 21341) (some ()) (w0 σ) 939 [(0, .ref b), (1, vr G 0), (2, vr G 143), (3, vi i)] [] := by
  obtain ⟨r1, r2, σ1, σ2, q1, q2, q3, q4⟩ := S n σ ((xs (i + 1).toNat).toInt) ((xs (i + 2).toNat).toInt) ((xs (i + 3).toNat).toInt) hn hI (w32_t _) (w32_t _) (w32_t _)
  refine z_aload_n C 1 rfl 1 rfl dL_law_939 940 rfl ?_
  refine s_aload_n C 0 rfl 0 rfl dL_law_940 941 rfl ?_
  refine z_iload_n C 3 rfl 3 rfl dL_law_941 942 rfl ?_
  refine z_iconst C dL_law_942 943 rfl ?_
  refine z_iadd C dL_law_943 944 rfl ?_
  refine l_sld C hX hbl (w32_id (a := i + 1) (by omega)) (by omega) dL_law_944 945 rfl ?_
  refine s_aload_n C 0 rfl 0 rfl dL_law_945 946 rfl ?_
  refine z_iload_n C 3 rfl 3 rfl dL_law_946 947 rfl ?_
  refine z_iconst C dL_law_947 948 rfl ?_
  refine z_iadd C dL_law_948 949 rfl ?_
  refine l_sld C hX hbl (w32_id (a := i + 2) (by omega)) (by omega) dL_law_949 950 rfl ?_
  refine s_aload_n C 0 rfl 0 rfl dL_law_950 951 rfl ?_
  refine z_iload_n C 3 rfl 3 rfl dL_law_951 952 rfl ?_
  refine z_iconst C dL_law_952 953 rfl ?_
  refine z_iadd C dL_law_953 954 rfl ?_
  refine l_sld C hX hbl (w32_id (a := i + 3) (by omega)) (by omega) dL_law_954 955 rfl ?_
  refine l_call C hR q1 (tX10_worst (mL X) G F σ ((xs (i + 1).toNat).toInt) ((xs (i + 2).toNat).toInt) ((xs (i + 3).toNat).toInt)) ⟨mwX10_worst, mvX10_worst, lkL_117⟩ one_10 rfl rfl (Nat.le_of_ble_eq_true rfl) (by unfold rmOK; decide) (by decide) dL_law_955 958 rfl ?_
  show ZZ X G 4 Qz (181, 21341) (some ()) (w0 σ1) 958 [(0, .ref b), (1, vr G 0), (2, vr G 143), (3, vi i)] [vi r1]
  refine z_aload_n C 2 rfl 2 rfl dL_law_958 959 rfl ?_
  refine s_aload_n C 0 rfl 0 rfl dL_law_959 960 rfl ?_
  refine z_iload_n C 3 rfl 3 rfl dL_law_960 961 rfl ?_
  refine z_iconst C dL_law_961 962 rfl ?_
  refine z_iadd C dL_law_962 963 rfl ?_
  refine l_sld C hX hbl (w32_id (a := i + 1) (by omega)) (by omega) dL_law_963 964 rfl ?_
  refine s_aload_n C 0 rfl 0 rfl dL_law_964 965 rfl ?_
  refine z_iload_n C 3 rfl 3 rfl dL_law_965 966 rfl ?_
  refine z_iconst C dL_law_966 967 rfl ?_
  refine z_iadd C dL_law_967 968 rfl ?_
  refine l_sld C hX hbl (w32_id (a := i + 2) (by omega)) (by omega) dL_law_968 969 rfl ?_
  refine s_aload_n C 0 rfl 0 rfl dL_law_969 970 rfl ?_
  refine z_iload_n C 3 rfl 3 rfl dL_law_970 971 rfl ?_
  refine z_iconst C dL_law_971 972 rfl ?_
  refine z_iadd C dL_law_972 973 rfl ?_
  refine l_sld C hX hbl (w32_id (a := i + 3) (by omega)) (by omega) dL_law_973 974 rfl ?_
  refine l_call C hR q2 (tX11_worst (mL X) G F σ1 ((xs (i + 1).toNat).toInt) ((xs (i + 2).toNat).toInt) ((xs (i + 3).toNat).toInt)) ⟨mwX11_worst, mvX11_worst, lkL_120⟩ one_11 rfl rfl (Nat.le_of_ble_eq_true rfl) (by unfold rmOK; decide) (by decide) dL_law_974 977 rfl ?_
  show ZZ X G 4 Qz (181, 21341) (some ()) (w0 σ2) 977 [(0, .ref b), (1, vr G 0), (2, vr G 143), (3, vi i)] [vi r2, vi r1]
  refine l_eq C dL_law_977 1259 (by decide) 980 rfl q3 ?_
  exact next σ2 q4
set_option maxRecDepth 100000 in
set_option maxHeartbeats 4000000 in
theorem law_case_25 {X : MX} {G : GG} (C : CX X G 4 cL_law RL) (hR : mR X = room_1) {Qz : Unit → State → Prop} {b L : Nat} {xs : Nat → Int32} (hX : va_X b L xs (mS X) G.1) (hbl : b < gb G) (F : Nat) {Inv : Nat → St → Prop} (S : Sp25 F Inv) {n : Nat} (hn : n < 600) {σ : St} (hI : Inv n σ) {i : Int} (hi : 0 ≤ i ∧ i + 4 ≤ (L : Int) ∧ L ≤ 2048) (next : ∀ σ' : St, Inv (n + 1) σ' → ZZ X G 4 Qz (181, 21341) (some ()) (w0 σ') 1259 [(0, .ref b), (1, vr G 0), (2, vr G 143), (3, vi i)] []) : ZZ X G 4 Qz (181, 21341) (some ()) (w0 σ) 982 [(0, .ref b), (1, vr G 0), (2, vr G 143), (3, vi i)] [] := by
  obtain ⟨r1, r2, σ1, σ2, q1, q2, q3, q4⟩ := S n σ ((xs (i + 1).toNat).toInt) ((xs (i + 2).toNat).toInt) hn hI (w32_t _) (w32_t _)
  refine z_aload_n C 1 rfl 1 rfl dL_law_982 983 rfl ?_
  refine s_aload_n C 0 rfl 0 rfl dL_law_983 984 rfl ?_
  refine z_iload_n C 3 rfl 3 rfl dL_law_984 985 rfl ?_
  refine z_iconst C dL_law_985 986 rfl ?_
  refine z_iadd C dL_law_986 987 rfl ?_
  refine l_sld C hX hbl (w32_id (a := i + 1) (by omega)) (by omega) dL_law_987 988 rfl ?_
  refine s_aload_n C 0 rfl 0 rfl dL_law_988 989 rfl ?_
  refine z_iload_n C 3 rfl 3 rfl dL_law_989 990 rfl ?_
  refine z_iconst C dL_law_990 991 rfl ?_
  refine z_iadd C dL_law_991 992 rfl ?_
  refine l_sld C hX hbl (w32_id (a := i + 2) (by omega)) (by omega) dL_law_992 993 rfl ?_
  refine l_call C hR q1 (tX10_come (mL X) G F σ ((xs (i + 1).toNat).toInt) ((xs (i + 2).toNat).toInt)) ⟨mwX10_come, mvX10_come, lkL_121⟩ one_10 rfl rfl (Nat.le_of_ble_eq_true rfl) (by unfold rmOK; decide) (by decide) dL_law_993 996 rfl ?_
  show ZZ X G 4 Qz (181, 21341) (some ()) (w0 σ1) 996 [(0, .ref b), (1, vr G 0), (2, vr G 143), (3, vi i)] [vi r1]
  refine z_aload_n C 2 rfl 2 rfl dL_law_996 997 rfl ?_
  refine s_aload_n C 0 rfl 0 rfl dL_law_997 998 rfl ?_
  refine z_iload_n C 3 rfl 3 rfl dL_law_998 999 rfl ?_
  refine z_iconst C dL_law_999 1000 rfl ?_
  refine z_iadd C dL_law_1000 1001 rfl ?_
  refine l_sld C hX hbl (w32_id (a := i + 1) (by omega)) (by omega) dL_law_1001 1002 rfl ?_
  refine s_aload_n C 0 rfl 0 rfl dL_law_1002 1003 rfl ?_
  refine z_iload_n C 3 rfl 3 rfl dL_law_1003 1004 rfl ?_
  refine z_iconst C dL_law_1004 1005 rfl ?_
  refine z_iadd C dL_law_1005 1006 rfl ?_
  refine l_sld C hX hbl (w32_id (a := i + 2) (by omega)) (by omega) dL_law_1006 1007 rfl ?_
  refine l_call C hR q2 (tX11_come (mL X) G F σ1 ((xs (i + 1).toNat).toInt) ((xs (i + 2).toNat).toInt)) ⟨mwX11_come, mvX11_come, lkL_124⟩ one_11 rfl rfl (Nat.le_of_ble_eq_true rfl) (by unfold rmOK; decide) (by decide) dL_law_1007 1010 rfl ?_
  show ZZ X G 4 Qz (181, 21341) (some ()) (w0 σ2) 1010 [(0, .ref b), (1, vr G 0), (2, vr G 143), (3, vi i)] [vi r2, vi r1]
  refine l_eq C dL_law_1010 1259 (by decide) 1013 rfl q3 ?_
  exact next σ2 q4
set_option maxRecDepth 100000 in
set_option maxHeartbeats 4000000 in
theorem law_case_26 {X : MX} {G : GG} (C : CX X G 4 cL_law RL) (hR : mR X = room_1) {Qz : Unit → State → Prop} {b L : Nat} {xs : Nat → Int32} (hX : va_X b L xs (mS X) G.1) (hbl : b < gb G) (F : Nat) {Inv : Nat → St → Prop} (S : Sp26 F Inv) {n : Nat} (hn : n < 600) {σ : St} (hI : Inv n σ) {i : Int} (hi : 0 ≤ i ∧ i + 4 ≤ (L : Int) ∧ L ≤ 2048) (next : ∀ σ' : St, Inv (n + 1) σ' → ZZ X G 4 Qz (181, 21341) (some ()) (w0 σ') 1259 [(0, .ref b), (1, vr G 0), (2, vr G 143), (3, vi i)] []) : ZZ X G 4 Qz (181, 21341) (some ()) (w0 σ) 1015 [(0, .ref b), (1, vr G 0), (2, vr G 143), (3, vi i)] [] := by
  obtain ⟨r1, r2, σ1, σ2, q1, q2, q3, q4⟩ := S n σ ((xs (i + 1).toNat).toInt) ((xs (i + 2).toNat).toInt) hn hI (w32_t _) (w32_t _)
  refine z_aload_n C 1 rfl 1 rfl dL_law_1015 1016 rfl ?_
  refine s_aload_n C 0 rfl 0 rfl dL_law_1016 1017 rfl ?_
  refine z_iload_n C 3 rfl 3 rfl dL_law_1017 1018 rfl ?_
  refine z_iconst C dL_law_1018 1019 rfl ?_
  refine z_iadd C dL_law_1019 1020 rfl ?_
  refine l_sld C hX hbl (w32_id (a := i + 1) (by omega)) (by omega) dL_law_1020 1021 rfl ?_
  refine s_aload_n C 0 rfl 0 rfl dL_law_1021 1022 rfl ?_
  refine z_iload_n C 3 rfl 3 rfl dL_law_1022 1023 rfl ?_
  refine z_iconst C dL_law_1023 1024 rfl ?_
  refine z_iadd C dL_law_1024 1025 rfl ?_
  refine l_sld C hX hbl (w32_id (a := i + 2) (by omega)) (by omega) dL_law_1025 1026 rfl ?_
  refine l_call C hR q1 (tX10_let (mL X) G F σ ((xs (i + 1).toNat).toInt) ((xs (i + 2).toNat).toInt)) ⟨mwX10_let, mvX10_let, lkL_125⟩ one_10 rfl rfl (Nat.le_of_ble_eq_true rfl) (by unfold rmOK; decide) (by decide) dL_law_1026 1029 rfl ?_
  show ZZ X G 4 Qz (181, 21341) (some ()) (w0 σ1) 1029 [(0, .ref b), (1, vr G 0), (2, vr G 143), (3, vi i)] [vi r1]
  refine z_aload_n C 2 rfl 2 rfl dL_law_1029 1030 rfl ?_
  refine s_aload_n C 0 rfl 0 rfl dL_law_1030 1031 rfl ?_
  refine z_iload_n C 3 rfl 3 rfl dL_law_1031 1032 rfl ?_
  refine z_iconst C dL_law_1032 1033 rfl ?_
  refine z_iadd C dL_law_1033 1034 rfl ?_
  refine l_sld C hX hbl (w32_id (a := i + 1) (by omega)) (by omega) dL_law_1034 1035 rfl ?_
  refine s_aload_n C 0 rfl 0 rfl dL_law_1035 1036 rfl ?_
  refine z_iload_n C 3 rfl 3 rfl dL_law_1036 1037 rfl ?_
  refine z_iconst C dL_law_1037 1038 rfl ?_
  refine z_iadd C dL_law_1038 1039 rfl ?_
  refine l_sld C hX hbl (w32_id (a := i + 2) (by omega)) (by omega) dL_law_1039 1040 rfl ?_
  refine l_call C hR q2 (tX11_let (mL X) G F σ1 ((xs (i + 1).toNat).toInt) ((xs (i + 2).toNat).toInt)) ⟨mwX11_let, mvX11_let, lkL_128⟩ one_11 rfl rfl (Nat.le_of_ble_eq_true rfl) (by unfold rmOK; decide) (by decide) dL_law_1040 1043 rfl ?_
  show ZZ X G 4 Qz (181, 21341) (some ()) (w0 σ2) 1043 [(0, .ref b), (1, vr G 0), (2, vr G 143), (3, vi i)] [vi r2, vi r1]
  refine l_eq C dL_law_1043 1259 (by decide) 1046 rfl q3 ?_
  exact next σ2 q4
set_option maxRecDepth 100000 in
set_option maxHeartbeats 4000000 in
theorem law_case_27 {X : MX} {G : GG} (C : CX X G 4 cL_law RL) (hR : mR X = room_1) {Qz : Unit → State → Prop} {b L : Nat} {xs : Nat → Int32} (hX : va_X b L xs (mS X) G.1) (hbl : b < gb G) (F : Nat) {Inv : Nat → St → Prop} (S : Sp27 F Inv) {n : Nat} (hn : n < 600) {σ : St} (hI : Inv n σ) {i : Int} (hi : 0 ≤ i ∧ i + 4 ≤ (L : Int) ∧ L ≤ 2048) (next : ∀ σ' : St, Inv (n + 1) σ' → ZZ X G 4 Qz (181, 21341) (some ()) (w0 σ') 1259 [(0, .ref b), (1, vr G 0), (2, vr G 143), (3, vi i)] []) : ZZ X G 4 Qz (181, 21341) (some ()) (w0 σ) 1048 [(0, .ref b), (1, vr G 0), (2, vr G 143), (3, vi i)] [] := by
  obtain ⟨r1, r2, σ1, σ2, q1, q2, q3, q4⟩ := S n σ ((xs (i + 1).toNat).toInt) hn hI (w32_t _)
  refine z_aload_n C 1 rfl 1 rfl dL_law_1048 1049 rfl ?_
  refine s_aload_n C 0 rfl 0 rfl dL_law_1049 1050 rfl ?_
  refine z_iload_n C 3 rfl 3 rfl dL_law_1050 1051 rfl ?_
  refine z_iconst C dL_law_1051 1052 rfl ?_
  refine z_iadd C dL_law_1052 1053 rfl ?_
  refine l_sld C hX hbl (w32_id (a := i + 1) (by omega)) (by omega) dL_law_1053 1054 rfl ?_
  refine l_call C hR q1 (tX10_leave (mL X) G σ ((xs (i + 1).toNat).toInt)) ⟨mwX10_leave, mvX10_leave, lkL_129⟩ one_10 rfl rfl (Nat.le_of_ble_eq_true rfl) (by unfold rmOK; decide) (by decide) dL_law_1054 1057 rfl ?_
  show ZZ X G 4 Qz (181, 21341) (some ()) (w0 σ1) 1057 [(0, .ref b), (1, vr G 0), (2, vr G 143), (3, vi i)] [vi r1]
  refine z_aload_n C 2 rfl 2 rfl dL_law_1057 1058 rfl ?_
  refine s_aload_n C 0 rfl 0 rfl dL_law_1058 1059 rfl ?_
  refine z_iload_n C 3 rfl 3 rfl dL_law_1059 1060 rfl ?_
  refine z_iconst C dL_law_1060 1061 rfl ?_
  refine z_iadd C dL_law_1061 1062 rfl ?_
  refine l_sld C hX hbl (w32_id (a := i + 1) (by omega)) (by omega) dL_law_1062 1063 rfl ?_
  refine l_call C hR q2 (tX11_leave (mL X) G F σ1 ((xs (i + 1).toNat).toInt)) ⟨mwX11_leave, mvX11_leave, lkL_132⟩ one_11 rfl rfl (Nat.le_of_ble_eq_true rfl) (by unfold rmOK; decide) (by decide) dL_law_1063 1066 rfl ?_
  show ZZ X G 4 Qz (181, 21341) (some ()) (w0 σ2) 1066 [(0, .ref b), (1, vr G 0), (2, vr G 143), (3, vi i)] [vi r2, vi r1]
  refine l_eq C dL_law_1066 1259 (by decide) 1069 rfl q3 ?_
  exact next σ2 q4
set_option maxRecDepth 100000 in
set_option maxHeartbeats 4000000 in
theorem law_case_28 {X : MX} {G : GG} (C : CX X G 4 cL_law RL) (hR : mR X = room_1) {Qz : Unit → State → Prop} {b L : Nat} {xs : Nat → Int32} (hX : va_X b L xs (mS X) G.1) (hbl : b < gb G) (F : Nat) {Inv : Nat → St → Prop} (S : Sp28 F Inv) {n : Nat} (hn : n < 600) {σ : St} (hI : Inv n σ) {i : Int} (hi : 0 ≤ i ∧ i + 4 ≤ (L : Int) ∧ L ≤ 2048) (next : ∀ σ' : St, Inv (n + 1) σ' → ZZ X G 4 Qz (181, 21341) (some ()) (w0 σ') 1259 [(0, .ref b), (1, vr G 0), (2, vr G 143), (3, vi i)] []) : ZZ X G 4 Qz (181, 21341) (some ()) (w0 σ) 1071 [(0, .ref b), (1, vr G 0), (2, vr G 143), (3, vi i)] [] := by
  obtain ⟨r1, r2, σ1, σ2, q1, q2, q3, q4⟩ := S n σ  hn hI
  refine z_aload_n C 1 rfl 1 rfl dL_law_1071 1072 rfl ?_
  refine l_call C hR q1 (tX10_undo (mL X) G σ) ⟨mwX10_undo, mvX10_undo, lkL_133⟩ one_10 rfl rfl (Nat.le_of_ble_eq_true rfl) (by unfold rmOK; decide) (by decide) dL_law_1072 1075 rfl ?_
  show ZZ X G 4 Qz (181, 21341) (some ()) (w0 σ1) 1075 [(0, .ref b), (1, vr G 0), (2, vr G 143), (3, vi i)] [vi r1]
  refine z_aload_n C 2 rfl 2 rfl dL_law_1075 1076 rfl ?_
  refine l_call C hR q2 (tX11_undo (mL X) G F σ1) ⟨mwX11_undo, mvX11_undo, lkL_136⟩ one_11 rfl rfl (Nat.le_of_ble_eq_true rfl) (by unfold rmOK; decide) (by decide) dL_law_1076 1079 rfl ?_
  show ZZ X G 4 Qz (181, 21341) (some ()) (w0 σ2) 1079 [(0, .ref b), (1, vr G 0), (2, vr G 143), (3, vi i)] [vi r2, vi r1]
  refine l_eq C dL_law_1079 1259 (by decide) 1082 rfl q3 ?_
  exact next σ2 q4
set_option maxRecDepth 100000 in
set_option maxHeartbeats 4000000 in
theorem law_case_29 {X : MX} {G : GG} (C : CX X G 4 cL_law RL) (hR : mR X = room_1) {Qz : Unit → State → Prop} {b L : Nat} {xs : Nat → Int32} (hX : va_X b L xs (mS X) G.1) (hbl : b < gb G) (F : Nat) {Inv : Nat → St → Prop} (S : Sp29 F Inv) {n : Nat} (hn : n < 600) {σ : St} (hI : Inv n σ) {i : Int} (hi : 0 ≤ i ∧ i + 4 ≤ (L : Int) ∧ L ≤ 2048) (next : ∀ σ' : St, Inv (n + 1) σ' → ZZ X G 4 Qz (181, 21341) (some ()) (w0 σ') 1259 [(0, .ref b), (1, vr G 0), (2, vr G 143), (3, vi i)] []) : ZZ X G 4 Qz (181, 21341) (some ()) (w0 σ) 1084 [(0, .ref b), (1, vr G 0), (2, vr G 143), (3, vi i)] [] := by
  obtain ⟨r1, r2, σ2, q1, q2, q3, q4⟩ := S n σ ((xs (i + 1).toNat).toInt) hn hI (w32_t _)
  refine z_aload_n C 1 rfl 1 rfl dL_law_1084 1085 rfl ?_
  refine s_aload_n C 0 rfl 0 rfl dL_law_1085 1086 rfl ?_
  refine z_iload_n C 3 rfl 3 rfl dL_law_1086 1087 rfl ?_
  refine z_iconst C dL_law_1087 1088 rfl ?_
  refine z_iadd C dL_law_1088 1089 rfl ?_
  refine l_sld C hX hbl (w32_id (a := i + 1) (by omega)) (by omega) dL_law_1089 1090 rfl ?_
  refine l_call C hR q1 (tX10_market (mL X) G F σ ((xs (i + 1).toNat).toInt)) ⟨mwX10_market, mvX10_market, lkL_137⟩ one_10 rfl rfl (Nat.le_of_ble_eq_true rfl) (by unfold rmOK; decide) (by decide) dL_law_1090 1093 rfl ?_
  show ZZ X G 4 Qz (181, 21341) (some ()) (w0 σ) 1093 [(0, .ref b), (1, vr G 0), (2, vr G 143), (3, vi i)] [vi r1]
  refine z_aload_n C 2 rfl 2 rfl dL_law_1093 1094 rfl ?_
  refine s_aload_n C 0 rfl 0 rfl dL_law_1094 1095 rfl ?_
  refine z_iload_n C 3 rfl 3 rfl dL_law_1095 1096 rfl ?_
  refine z_iconst C dL_law_1096 1097 rfl ?_
  refine z_iadd C dL_law_1097 1098 rfl ?_
  refine l_sld C hX hbl (w32_id (a := i + 1) (by omega)) (by omega) dL_law_1098 1099 rfl ?_
  refine l_call C hR q2 (tX11_market (mL X) G F σ ((xs (i + 1).toNat).toInt)) ⟨mwX11_market, mvX11_market, lkL_140⟩ one_11 rfl rfl (Nat.le_of_ble_eq_true rfl) (by unfold rmOK; decide) (by decide) dL_law_1099 1102 rfl ?_
  show ZZ X G 4 Qz (181, 21341) (some ()) (w0 σ2) 1102 [(0, .ref b), (1, vr G 0), (2, vr G 143), (3, vi i)] [vi r2, vi r1]
  refine l_eq C dL_law_1102 1259 (by decide) 1105 rfl q3 ?_
  exact next σ2 q4
set_option maxRecDepth 100000 in
set_option maxHeartbeats 4000000 in
theorem law_case_30 {X : MX} {G : GG} (C : CX X G 4 cL_law RL) (hR : mR X = room_1) {Qz : Unit → State → Prop} {b L : Nat} {xs : Nat → Int32} (hX : va_X b L xs (mS X) G.1) (hbl : b < gb G) (F : Nat) {Inv : Nat → St → Prop} (S : Sp30 F Inv) {n : Nat} (hn : n < 600) {σ : St} (hI : Inv n σ) {i : Int} (hi : 0 ≤ i ∧ i + 4 ≤ (L : Int) ∧ L ≤ 2048) (next : ∀ σ' : St, Inv (n + 1) σ' → ZZ X G 4 Qz (181, 21341) (some ()) (w0 σ') 1259 [(0, .ref b), (1, vr G 0), (2, vr G 143), (3, vi i)] []) : ZZ X G 4 Qz (181, 21341) (some ()) (w0 σ) 1107 [(0, .ref b), (1, vr G 0), (2, vr G 143), (3, vi i)] [] := by
  obtain ⟨r1, r2, σ1, σ2, q1, q2, q3, q4⟩ := S n σ ((xs (i + 1).toNat).toInt) ((xs (i + 2).toNat).toInt) ((xs (i + 3).toNat).toInt) hn hI (w32_t _) (w32_t _) (w32_t _)
  refine z_aload_n C 1 rfl 1 rfl dL_law_1107 1108 rfl ?_
  refine s_aload_n C 0 rfl 0 rfl dL_law_1108 1109 rfl ?_
  refine z_iload_n C 3 rfl 3 rfl dL_law_1109 1110 rfl ?_
  refine z_iconst C dL_law_1110 1111 rfl ?_
  refine z_iadd C dL_law_1111 1112 rfl ?_
  refine l_sld C hX hbl (w32_id (a := i + 1) (by omega)) (by omega) dL_law_1112 1113 rfl ?_
  refine s_aload_n C 0 rfl 0 rfl dL_law_1113 1114 rfl ?_
  refine z_iload_n C 3 rfl 3 rfl dL_law_1114 1115 rfl ?_
  refine z_iconst C dL_law_1115 1116 rfl ?_
  refine z_iadd C dL_law_1116 1117 rfl ?_
  refine l_sld C hX hbl (w32_id (a := i + 2) (by omega)) (by omega) dL_law_1117 1118 rfl ?_
  refine s_aload_n C 0 rfl 0 rfl dL_law_1118 1119 rfl ?_
  refine z_iload_n C 3 rfl 3 rfl dL_law_1119 1120 rfl ?_
  refine z_iconst C dL_law_1120 1121 rfl ?_
  refine z_iadd C dL_law_1121 1122 rfl ?_
  refine l_sld C hX hbl (w32_id (a := i + 3) (by omega)) (by omega) dL_law_1122 1123 rfl ?_
  refine l_call C hR q1 (tX10_sheet (mL X) G σ ((xs (i + 1).toNat).toInt) ((xs (i + 2).toNat).toInt) ((xs (i + 3).toNat).toInt)) ⟨mwX10_sheet, mvX10_sheet, lkL_141⟩ one_10 rfl rfl (Nat.le_of_ble_eq_true rfl) (by unfold rmOK; decide) (by decide) dL_law_1123 1126 rfl ?_
  show ZZ X G 4 Qz (181, 21341) (some ()) (w0 σ1) 1126 [(0, .ref b), (1, vr G 0), (2, vr G 143), (3, vi i)] [vi r1]
  refine z_aload_n C 2 rfl 2 rfl dL_law_1126 1127 rfl ?_
  refine s_aload_n C 0 rfl 0 rfl dL_law_1127 1128 rfl ?_
  refine z_iload_n C 3 rfl 3 rfl dL_law_1128 1129 rfl ?_
  refine z_iconst C dL_law_1129 1130 rfl ?_
  refine z_iadd C dL_law_1130 1131 rfl ?_
  refine l_sld C hX hbl (w32_id (a := i + 1) (by omega)) (by omega) dL_law_1131 1132 rfl ?_
  refine s_aload_n C 0 rfl 0 rfl dL_law_1132 1133 rfl ?_
  refine z_iload_n C 3 rfl 3 rfl dL_law_1133 1134 rfl ?_
  refine z_iconst C dL_law_1134 1135 rfl ?_
  refine z_iadd C dL_law_1135 1136 rfl ?_
  refine l_sld C hX hbl (w32_id (a := i + 2) (by omega)) (by omega) dL_law_1136 1137 rfl ?_
  refine s_aload_n C 0 rfl 0 rfl dL_law_1137 1138 rfl ?_
  refine z_iload_n C 3 rfl 3 rfl dL_law_1138 1139 rfl ?_
  refine z_iconst C dL_law_1139 1140 rfl ?_
  refine z_iadd C dL_law_1140 1141 rfl ?_
  refine l_sld C hX hbl (w32_id (a := i + 3) (by omega)) (by omega) dL_law_1141 1142 rfl ?_
  refine l_call C hR q2 (tX11_sheet (mL X) G F σ1 ((xs (i + 1).toNat).toInt) ((xs (i + 2).toNat).toInt) ((xs (i + 3).toNat).toInt)) ⟨mwX11_sheet, mvX11_sheet, lkL_144⟩ one_11 rfl rfl (Nat.le_of_ble_eq_true rfl) (by unfold rmOK; decide) (by decide) dL_law_1142 1145 rfl ?_
  show ZZ X G 4 Qz (181, 21341) (some ()) (w0 σ2) 1145 [(0, .ref b), (1, vr G 0), (2, vr G 143), (3, vi i)] [vi r2, vi r1]
  refine l_eq C dL_law_1145 1259 (by decide) 1148 rfl q3 ?_
  exact next σ2 q4
set_option maxRecDepth 100000 in
set_option maxHeartbeats 4000000 in
theorem law_case_31 {X : MX} {G : GG} (C : CX X G 4 cL_law RL) (hR : mR X = room_1) {Qz : Unit → State → Prop} {b L : Nat} {xs : Nat → Int32} (hX : va_X b L xs (mS X) G.1) (hbl : b < gb G) (F : Nat) {Inv : Nat → St → Prop} (S : Sp31 F Inv) {n : Nat} (hn : n < 600) {σ : St} (hI : Inv n σ) {i : Int} (hi : 0 ≤ i ∧ i + 4 ≤ (L : Int) ∧ L ≤ 2048) (next : ∀ σ' : St, Inv (n + 1) σ' → ZZ X G 4 Qz (181, 21341) (some ()) (w0 σ') 1259 [(0, .ref b), (1, vr G 0), (2, vr G 143), (3, vi i)] []) : ZZ X G 4 Qz (181, 21341) (some ()) (w0 σ) 1150 [(0, .ref b), (1, vr G 0), (2, vr G 143), (3, vi i)] [] := by
  obtain ⟨r1, r2, σ1, σ2, q1, q2, q3, q4⟩ := S n σ ((xs (i + 1).toNat).toInt) ((xs (i + 2).toNat).toInt) ((xs (i + 3).toNat).toInt) hn hI (w32_t _) (w32_t _) (w32_t _)
  refine z_aload_n C 1 rfl 1 rfl dL_law_1150 1151 rfl ?_
  refine s_aload_n C 0 rfl 0 rfl dL_law_1151 1152 rfl ?_
  refine z_iload_n C 3 rfl 3 rfl dL_law_1152 1153 rfl ?_
  refine z_iconst C dL_law_1153 1154 rfl ?_
  refine z_iadd C dL_law_1154 1155 rfl ?_
  refine l_sld C hX hbl (w32_id (a := i + 1) (by omega)) (by omega) dL_law_1155 1156 rfl ?_
  refine s_aload_n C 0 rfl 0 rfl dL_law_1156 1157 rfl ?_
  refine z_iload_n C 3 rfl 3 rfl dL_law_1157 1158 rfl ?_
  refine z_iconst C dL_law_1158 1159 rfl ?_
  refine z_iadd C dL_law_1159 1160 rfl ?_
  refine l_sld C hX hbl (w32_id (a := i + 2) (by omega)) (by omega) dL_law_1160 1161 rfl ?_
  refine s_aload_n C 0 rfl 0 rfl dL_law_1161 1162 rfl ?_
  refine z_iload_n C 3 rfl 3 rfl dL_law_1162 1163 rfl ?_
  refine z_iconst C dL_law_1163 1164 rfl ?_
  refine z_iadd C dL_law_1164 1165 rfl ?_
  refine l_sld C hX hbl (w32_id (a := i + 3) (by omega)) (by omega) dL_law_1165 1166 rfl ?_
  refine l_call C hR q1 (tX10_lay (mL X) G σ ((xs (i + 1).toNat).toInt) ((xs (i + 2).toNat).toInt) ((xs (i + 3).toNat).toInt)) ⟨mwX10_lay, mvX10_lay, lkL_145⟩ one_10 rfl rfl (Nat.le_of_ble_eq_true rfl) (by unfold rmOK; decide) (by decide) dL_law_1166 1169 rfl ?_
  show ZZ X G 4 Qz (181, 21341) (some ()) (w0 σ1) 1169 [(0, .ref b), (1, vr G 0), (2, vr G 143), (3, vi i)] [vi r1]
  refine z_aload_n C 2 rfl 2 rfl dL_law_1169 1170 rfl ?_
  refine s_aload_n C 0 rfl 0 rfl dL_law_1170 1171 rfl ?_
  refine z_iload_n C 3 rfl 3 rfl dL_law_1171 1172 rfl ?_
  refine z_iconst C dL_law_1172 1173 rfl ?_
  refine z_iadd C dL_law_1173 1174 rfl ?_
  refine l_sld C hX hbl (w32_id (a := i + 1) (by omega)) (by omega) dL_law_1174 1175 rfl ?_
  refine s_aload_n C 0 rfl 0 rfl dL_law_1175 1176 rfl ?_
  refine z_iload_n C 3 rfl 3 rfl dL_law_1176 1177 rfl ?_
  refine z_iconst C dL_law_1177 1178 rfl ?_
  refine z_iadd C dL_law_1178 1179 rfl ?_
  refine l_sld C hX hbl (w32_id (a := i + 2) (by omega)) (by omega) dL_law_1179 1180 rfl ?_
  refine s_aload_n C 0 rfl 0 rfl dL_law_1180 1181 rfl ?_
  refine z_iload_n C 3 rfl 3 rfl dL_law_1181 1182 rfl ?_
  refine z_iconst C dL_law_1182 1183 rfl ?_
  refine z_iadd C dL_law_1183 1184 rfl ?_
  refine l_sld C hX hbl (w32_id (a := i + 3) (by omega)) (by omega) dL_law_1184 1185 rfl ?_
  refine l_call C hR q2 (tX11_lay (mL X) G σ1 ((xs (i + 1).toNat).toInt) ((xs (i + 2).toNat).toInt) ((xs (i + 3).toNat).toInt)) ⟨mwX11_lay, mvX11_lay, lkL_148⟩ one_11 rfl rfl (Nat.le_of_ble_eq_true rfl) (by unfold rmOK; decide) (by decide) dL_law_1185 1188 rfl ?_
  show ZZ X G 4 Qz (181, 21341) (some ()) (w0 σ2) 1188 [(0, .ref b), (1, vr G 0), (2, vr G 143), (3, vi i)] [vi r2, vi r1]
  refine l_eq C dL_law_1188 1259 (by decide) 1191 rfl q3 ?_
  exact next σ2 q4
set_option maxRecDepth 100000 in
set_option maxHeartbeats 4000000 in
theorem law_case_32 {X : MX} {G : GG} (C : CX X G 4 cL_law RL) (hR : mR X = room_1) {Qz : Unit → State → Prop} {b L : Nat} {xs : Nat → Int32} (hX : va_X b L xs (mS X) G.1) (hbl : b < gb G) (F : Nat) {Inv : Nat → St → Prop} (S : Sp32 F Inv) {n : Nat} (hn : n < 600) {σ : St} (hI : Inv n σ) {i : Int} (hi : 0 ≤ i ∧ i + 4 ≤ (L : Int) ∧ L ≤ 2048) (next : ∀ σ' : St, Inv (n + 1) σ' → ZZ X G 4 Qz (181, 21341) (some ()) (w0 σ') 1259 [(0, .ref b), (1, vr G 0), (2, vr G 143), (3, vi i)] []) : ZZ X G 4 Qz (181, 21341) (some ()) (w0 σ) 1193 [(0, .ref b), (1, vr G 0), (2, vr G 143), (3, vi i)] [] := by
  obtain ⟨r1, r2, σ1, σ2, q1, q2, q3, q4⟩ := S n σ ((xs (i + 1).toNat).toInt) ((xs (i + 2).toNat).toInt) ((xs (i + 3).toNat).toInt) hn hI (w32_t _) (w32_t _) (w32_t _)
  refine z_aload_n C 1 rfl 1 rfl dL_law_1193 1194 rfl ?_
  refine s_aload_n C 0 rfl 0 rfl dL_law_1194 1195 rfl ?_
  refine z_iload_n C 3 rfl 3 rfl dL_law_1195 1196 rfl ?_
  refine z_iconst C dL_law_1196 1197 rfl ?_
  refine z_iadd C dL_law_1197 1198 rfl ?_
  refine l_sld C hX hbl (w32_id (a := i + 1) (by omega)) (by omega) dL_law_1198 1199 rfl ?_
  refine s_aload_n C 0 rfl 0 rfl dL_law_1199 1200 rfl ?_
  refine z_iload_n C 3 rfl 3 rfl dL_law_1200 1201 rfl ?_
  refine z_iconst C dL_law_1201 1202 rfl ?_
  refine z_iadd C dL_law_1202 1203 rfl ?_
  refine l_sld C hX hbl (w32_id (a := i + 2) (by omega)) (by omega) dL_law_1203 1204 rfl ?_
  refine s_aload_n C 0 rfl 0 rfl dL_law_1204 1205 rfl ?_
  refine z_iload_n C 3 rfl 3 rfl dL_law_1205 1206 rfl ?_
  refine z_iconst C dL_law_1206 1207 rfl ?_
  refine z_iadd C dL_law_1207 1208 rfl ?_
  refine l_sld C hX hbl (w32_id (a := i + 3) (by omega)) (by omega) dL_law_1208 1209 rfl ?_
  refine l_call C hR q1 (tX10_net (mL X) G F σ ((xs (i + 1).toNat).toInt) ((xs (i + 2).toNat).toInt) ((xs (i + 3).toNat).toInt)) ⟨mwX10_net, mvX10_net, lkL_149⟩ one_10 rfl rfl (Nat.le_of_ble_eq_true rfl) (by unfold rmOK; decide) (by decide) dL_law_1209 1212 rfl ?_
  show ZZ X G 4 Qz (181, 21341) (some ()) (w0 σ1) 1212 [(0, .ref b), (1, vr G 0), (2, vr G 143), (3, vi i)] [vi r1]
  refine z_aload_n C 2 rfl 2 rfl dL_law_1212 1213 rfl ?_
  refine s_aload_n C 0 rfl 0 rfl dL_law_1213 1214 rfl ?_
  refine z_iload_n C 3 rfl 3 rfl dL_law_1214 1215 rfl ?_
  refine z_iconst C dL_law_1215 1216 rfl ?_
  refine z_iadd C dL_law_1216 1217 rfl ?_
  refine l_sld C hX hbl (w32_id (a := i + 1) (by omega)) (by omega) dL_law_1217 1218 rfl ?_
  refine s_aload_n C 0 rfl 0 rfl dL_law_1218 1219 rfl ?_
  refine z_iload_n C 3 rfl 3 rfl dL_law_1219 1220 rfl ?_
  refine z_iconst C dL_law_1220 1221 rfl ?_
  refine z_iadd C dL_law_1221 1222 rfl ?_
  refine l_sld C hX hbl (w32_id (a := i + 2) (by omega)) (by omega) dL_law_1222 1223 rfl ?_
  refine s_aload_n C 0 rfl 0 rfl dL_law_1223 1224 rfl ?_
  refine z_iload_n C 3 rfl 3 rfl dL_law_1224 1225 rfl ?_
  refine z_iconst C dL_law_1225 1226 rfl ?_
  refine z_iadd C dL_law_1226 1227 rfl ?_
  refine l_sld C hX hbl (w32_id (a := i + 3) (by omega)) (by omega) dL_law_1227 1228 rfl ?_
  refine l_call C hR q2 (tX11_net (mL X) G F σ1 ((xs (i + 1).toNat).toInt) ((xs (i + 2).toNat).toInt) ((xs (i + 3).toNat).toInt)) ⟨mwX11_net, mvX11_net, lkL_152⟩ one_11 rfl rfl (Nat.le_of_ble_eq_true rfl) (by unfold rmOK; decide) (by decide) dL_law_1228 1231 rfl ?_
  show ZZ X G 4 Qz (181, 21341) (some ()) (w0 σ2) 1231 [(0, .ref b), (1, vr G 0), (2, vr G 143), (3, vi i)] [vi r2, vi r1]
  refine l_eq C dL_law_1231 1259 (by decide) 1234 rfl q3 ?_
  exact next σ2 q4
set_option maxRecDepth 100000 in
set_option maxHeartbeats 4000000 in
theorem law_case_33 {X : MX} {G : GG} (C : CX X G 4 cL_law RL) (hR : mR X = room_1) {Qz : Unit → State → Prop} {b L : Nat} {xs : Nat → Int32} (hX : va_X b L xs (mS X) G.1) (hbl : b < gb G) (F : Nat) {Inv : Nat → St → Prop} (S : Sp33 F Inv) {n : Nat} (hn : n < 600) {σ : St} (hI : Inv n σ) {i : Int} (hi : 0 ≤ i ∧ i + 4 ≤ (L : Int) ∧ L ≤ 2048) (next : ∀ σ' : St, Inv (n + 1) σ' → ZZ X G 4 Qz (181, 21341) (some ()) (w0 σ') 1259 [(0, .ref b), (1, vr G 0), (2, vr G 143), (3, vi i)] []) : ZZ X G 4 Qz (181, 21341) (some ()) (w0 σ) 1236 [(0, .ref b), (1, vr G 0), (2, vr G 143), (3, vi i)] [] := by
  obtain ⟨r1, r2, q1, q2, q3, q4⟩ := S n σ ((xs (i + 1).toNat).toInt) hn hI (w32_t _)
  refine z_aload_n C 1 rfl 1 rfl dL_law_1236 1237 rfl ?_
  refine s_aload_n C 0 rfl 0 rfl dL_law_1237 1238 rfl ?_
  refine z_iload_n C 3 rfl 3 rfl dL_law_1238 1239 rfl ?_
  refine z_iconst C dL_law_1239 1240 rfl ?_
  refine z_iadd C dL_law_1240 1241 rfl ?_
  refine l_sld C hX hbl (w32_id (a := i + 1) (by omega)) (by omega) dL_law_1241 1242 rfl ?_
  refine l_call C hR q1 (tX10_count (mL X) G F σ ((xs (i + 1).toNat).toInt)) ⟨mwX10_count, mvX10_count, lkL_153⟩ one_10 rfl rfl (Nat.le_of_ble_eq_true rfl) (by unfold rmOK; decide) (by decide) dL_law_1242 1245 rfl ?_
  show ZZ X G 4 Qz (181, 21341) (some ()) (w0 σ) 1245 [(0, .ref b), (1, vr G 0), (2, vr G 143), (3, vi i)] [vi r1]
  refine z_aload_n C 2 rfl 2 rfl dL_law_1245 1246 rfl ?_
  refine s_aload_n C 0 rfl 0 rfl dL_law_1246 1247 rfl ?_
  refine z_iload_n C 3 rfl 3 rfl dL_law_1247 1248 rfl ?_
  refine z_iconst C dL_law_1248 1249 rfl ?_
  refine z_iadd C dL_law_1249 1250 rfl ?_
  refine l_sld C hX hbl (w32_id (a := i + 1) (by omega)) (by omega) dL_law_1250 1251 rfl ?_
  refine l_call C hR q2 (tX11_count (mL X) G F σ ((xs (i + 1).toNat).toInt)) ⟨mwX11_count, mvX11_count, lkL_156⟩ one_11 rfl rfl (Nat.le_of_ble_eq_true rfl) (by unfold rmOK; decide) (by decide) dL_law_1251 1254 rfl ?_
  show ZZ X G 4 Qz (181, 21341) (some ()) (w0 σ) 1254 [(0, .ref b), (1, vr G 0), (2, vr G 143), (3, vi i)] [vi r2, vi r1]
  refine l_eq C dL_law_1254 1259 (by decide) 1257 rfl q3 ?_
  exact next σ q4
def Spec (F : Nat) (Inv : Nat → St → Prop) : Prop := Sp0 F Inv ∧ Sp1 F Inv ∧ Sp2 F Inv ∧ Sp3 F Inv ∧ Sp4 F Inv ∧ Sp5 F Inv ∧ Sp6 F Inv ∧ Sp7 F Inv ∧ Sp8 F Inv ∧ Sp9 F Inv ∧ Sp10 F Inv ∧ Sp11 F Inv ∧ Sp12 F Inv ∧ Sp13 F Inv ∧ Sp14 F Inv ∧ Sp15 F Inv ∧ Sp16 F Inv ∧ Sp17 F Inv ∧ Sp18 F Inv ∧ Sp19 F Inv ∧ Sp20 F Inv ∧ Sp21 F Inv ∧ Sp22 F Inv ∧ Sp23 F Inv ∧ Sp24 F Inv ∧ Sp25 F Inv ∧ Sp26 F Inv ∧ Sp27 F Inv ∧ Sp28 F Inv ∧ Sp29 F Inv ∧ Sp30 F Inv ∧ Sp31 F Inv ∧ Sp32 F Inv ∧ Sp33 F Inv
theorem iand63 (a : Int) : 0 ≤ iand a 63 ∧ iand a 63 < 64 := by
  unfold iand
  generalize i32 a = x
  have h : (x &&& i32 63).toInt = ((x.toBitVec &&& 63#32).toInt) := rfl
  rw [h]
  generalize x.toBitVec = y
  have h1 : (y &&& 63#32).toNat < 64 := by
    rw [BitVec.toNat_and]
    exact Nat.lt_of_le_of_lt Nat.and_le_right (by decide)
  rw [BitVec.toInt_eq_toNat_of_lt (by omega)]
  omega
set_option maxRecDepth 100000 in
set_option maxHeartbeats 4000000 in
theorem law_switch {X : MX} {G : GG} (C : CX X G 4 cL_law RL) (hR : mR X = room_1) {Qz : Unit → State → Prop} {b L : Nat} {xs : Nat → Int32} (hX : va_X b L xs (mS X) G.1) (hbl : b < gb G) (F : Nat) {Inv : Nat → St → Prop} (S : Spec F Inv) (hK : ∀ n σ, Inv n σ → Inv (n + 1) σ) {n : Nat} (hn : n < 600) {σ : St} (hI : Inv n σ) {i : Int} (hi : 0 ≤ i ∧ i + 4 ≤ (L : Int) ∧ L ≤ 2048) (next : ∀ σ' : St, Inv (n + 1) σ' → ZZ X G 4 Qz (181, 21341) (some ()) (w0 σ') 1259 [(0, .ref b), (1, vr G 0), (2, vr G 143), (3, vi i)] []) : ZZ X G 4 Qz (181, 21341) (some ()) (w0 σ) 32 [(0, .ref b), (1, vr G 0), (2, vr G 143), (3, vi i)] [vi (iand (xs i.toNat).toInt 63)] := by
  by_cases h0 : iand (xs i.toNat).toInt 63 = 0
  · refine z_tin C dL_law_32 (v := 0) ((w32_iand _ _).trans h0) (by decide) rfl 184 (by decide) ?_
    exact law_case_0 C hR hX hbl F S.1 hn hI hi next
  by_cases h1 : iand (xs i.toNat).toInt 63 = 1
  · refine z_tin C dL_law_32 (v := 1) ((w32_iand _ _).trans h1) (by decide) rfl 227 (by decide) ?_
    exact law_case_1 C hR hX hbl F S.2.1 hn hI hi next
  by_cases h2 : iand (xs i.toNat).toInt 63 = 2
  · refine z_tin C dL_law_32 (v := 2) ((w32_iand _ _).trans h2) (by decide) rfl 240 (by decide) ?_
    exact law_case_2 C hR hX hbl F S.2.2.1 hn hI hi next
  by_cases h3 : iand (xs i.toNat).toInt 63 = 3
  · refine z_tin C dL_law_32 (v := 3) ((w32_iand _ _).trans h3) (by decide) rfl 283 (by decide) ?_
    exact law_case_3 C hR hX hbl F S.2.2.2.1 hn hI hi next
  by_cases h4 : iand (xs i.toNat).toInt 63 = 4
  · refine z_tin C dL_law_32 (v := 4) ((w32_iand _ _).trans h4) (by decide) rfl 316 (by decide) ?_
    exact law_case_4 C hR hX hbl F S.2.2.2.2.1 hn hI hi next
  by_cases h5 : iand (xs i.toNat).toInt 63 = 5
  · refine z_tin C dL_law_32 (v := 5) ((w32_iand _ _).trans h5) (by decide) rfl 349 (by decide) ?_
    exact law_case_5 C hR hX hbl F S.2.2.2.2.2.1 hn hI hi next
  by_cases h6 : iand (xs i.toNat).toInt 63 = 6
  · refine z_tin C dL_law_32 (v := 6) ((w32_iand _ _).trans h6) (by decide) rfl 382 (by decide) ?_
    exact law_case_6 C hR hX hbl F S.2.2.2.2.2.2.1 hn hI hi next
  by_cases h7 : iand (xs i.toNat).toInt 63 = 7
  · refine z_tin C dL_law_32 (v := 7) ((w32_iand _ _).trans h7) (by decide) rfl 435 (by decide) ?_
    exact law_case_7 C hR hX hbl F S.2.2.2.2.2.2.2.1 hn hI hi next
  by_cases h8 : iand (xs i.toNat).toInt 63 = 8
  · refine z_tin C dL_law_32 (v := 8) ((w32_iand _ _).trans h8) (by decide) rfl 458 (by decide) ?_
    exact law_case_8 C hR hX hbl F S.2.2.2.2.2.2.2.2.1 hn hI hi next
  by_cases h9 : iand (xs i.toNat).toInt 63 = 9
  · refine z_tin C dL_law_32 (v := 9) ((w32_iand _ _).trans h9) (by decide) rfl 471 (by decide) ?_
    exact law_case_9 C hR hX hbl F S.2.2.2.2.2.2.2.2.2.1 hn hI hi next
  by_cases h10 : iand (xs i.toNat).toInt 63 = 10
  · refine z_tin C dL_law_32 (v := 10) ((w32_iand _ _).trans h10) (by decide) rfl 484 (by decide) ?_
    exact law_case_10 C hR hX hbl F S.2.2.2.2.2.2.2.2.2.2.1 hn hI hi next
  by_cases h11 : iand (xs i.toNat).toInt 63 = 11
  · refine z_tin C dL_law_32 (v := 11) ((w32_iand _ _).trans h11) (by decide) rfl 517 (by decide) ?_
    exact law_case_11 C hR hX hbl F S.2.2.2.2.2.2.2.2.2.2.2.1 hn hI hi next
  by_cases h12 : iand (xs i.toNat).toInt 63 = 12
  · refine z_tin C dL_law_32 (v := 12) ((w32_iand _ _).trans h12) (by decide) rfl 550 (by decide) ?_
    exact law_case_12 C hR hX hbl F S.2.2.2.2.2.2.2.2.2.2.2.2.1 hn hI hi next
  by_cases h13 : iand (xs i.toNat).toInt 63 = 13
  · refine z_tin C dL_law_32 (v := 13) ((w32_iand _ _).trans h13) (by decide) rfl 583 (by decide) ?_
    exact law_case_13 C hR hX hbl F S.2.2.2.2.2.2.2.2.2.2.2.2.2.1 hn hI hi next
  by_cases h14 : iand (xs i.toNat).toInt 63 = 14
  · refine z_tin C dL_law_32 (v := 14) ((w32_iand _ _).trans h14) (by decide) rfl 596 (by decide) ?_
    exact law_case_14 C hR hX hbl F S.2.2.2.2.2.2.2.2.2.2.2.2.2.2.1 hn hI hi next
  by_cases h15 : iand (xs i.toNat).toInt 63 = 15
  · refine z_tin C dL_law_32 (v := 15) ((w32_iand _ _).trans h15) (by decide) rfl 619 (by decide) ?_
    exact law_case_15 C hR hX hbl F S.2.2.2.2.2.2.2.2.2.2.2.2.2.2.2.1 hn hI hi next
  by_cases h16 : iand (xs i.toNat).toInt 63 = 16
  · refine z_tin C dL_law_32 (v := 16) ((w32_iand _ _).trans h16) (by decide) rfl 642 (by decide) ?_
    exact law_case_16 C hR hX hbl F S.2.2.2.2.2.2.2.2.2.2.2.2.2.2.2.2.1 hn hI hi next
  by_cases h17 : iand (xs i.toNat).toInt 63 = 17
  · refine z_tin C dL_law_32 (v := 17) ((w32_iand _ _).trans h17) (by decide) rfl 695 (by decide) ?_
    exact law_case_17 C hR hX hbl F S.2.2.2.2.2.2.2.2.2.2.2.2.2.2.2.2.2.1 hn hI hi next
  by_cases h18 : iand (xs i.toNat).toInt 63 = 18
  · refine z_tin C dL_law_32 (v := 18) ((w32_iand _ _).trans h18) (by decide) rfl 738 (by decide) ?_
    exact law_case_18 C hR hX hbl F S.2.2.2.2.2.2.2.2.2.2.2.2.2.2.2.2.2.2.1 hn hI hi next
  by_cases h19 : iand (xs i.toNat).toInt 63 = 19
  · refine z_tin C dL_law_32 (v := 19) ((w32_iand _ _).trans h19) (by decide) rfl 772 (by decide) ?_
    exact law_case_19 C hR hX hbl F S.2.2.2.2.2.2.2.2.2.2.2.2.2.2.2.2.2.2.2.1 hn hI hi next
  by_cases h20 : iand (xs i.toNat).toInt 63 = 20
  · refine z_tin C dL_law_32 (v := 20) ((w32_iand _ _).trans h20) (by decide) rfl 805 (by decide) ?_
    exact law_case_20 C hR hX hbl F S.2.2.2.2.2.2.2.2.2.2.2.2.2.2.2.2.2.2.2.2.1 hn hI hi next
  by_cases h21 : iand (xs i.toNat).toInt 63 = 21
  · refine z_tin C dL_law_32 (v := 21) ((w32_iand _ _).trans h21) (by decide) rfl 839 (by decide) ?_
    exact law_case_21 C hR hX hbl F S.2.2.2.2.2.2.2.2.2.2.2.2.2.2.2.2.2.2.2.2.2.1 hn hI hi next
  by_cases h22 : iand (xs i.toNat).toInt 63 = 22
  · refine z_tin C dL_law_32 (v := 22) ((w32_iand _ _).trans h22) (by decide) rfl 873 (by decide) ?_
    exact law_case_22 C hR hX hbl F S.2.2.2.2.2.2.2.2.2.2.2.2.2.2.2.2.2.2.2.2.2.2.1 hn hI hi next
  by_cases h23 : iand (xs i.toNat).toInt 63 = 23
  · refine z_tin C dL_law_32 (v := 23) ((w32_iand _ _).trans h23) (by decide) rfl 906 (by decide) ?_
    exact law_case_23 C hR hX hbl F S.2.2.2.2.2.2.2.2.2.2.2.2.2.2.2.2.2.2.2.2.2.2.2.1 hn hI hi next
  by_cases h24 : iand (xs i.toNat).toInt 63 = 24
  · refine z_tin C dL_law_32 (v := 24) ((w32_iand _ _).trans h24) (by decide) rfl 939 (by decide) ?_
    exact law_case_24 C hR hX hbl F S.2.2.2.2.2.2.2.2.2.2.2.2.2.2.2.2.2.2.2.2.2.2.2.2.1 hn hI hi next
  by_cases h25 : iand (xs i.toNat).toInt 63 = 25
  · refine z_tin C dL_law_32 (v := 25) ((w32_iand _ _).trans h25) (by decide) rfl 982 (by decide) ?_
    exact law_case_25 C hR hX hbl F S.2.2.2.2.2.2.2.2.2.2.2.2.2.2.2.2.2.2.2.2.2.2.2.2.2.1 hn hI hi next
  by_cases h26 : iand (xs i.toNat).toInt 63 = 26
  · refine z_tin C dL_law_32 (v := 26) ((w32_iand _ _).trans h26) (by decide) rfl 1015 (by decide) ?_
    exact law_case_26 C hR hX hbl F S.2.2.2.2.2.2.2.2.2.2.2.2.2.2.2.2.2.2.2.2.2.2.2.2.2.2.1 hn hI hi next
  by_cases h27 : iand (xs i.toNat).toInt 63 = 27
  · refine z_tin C dL_law_32 (v := 27) ((w32_iand _ _).trans h27) (by decide) rfl 1048 (by decide) ?_
    exact law_case_27 C hR hX hbl F S.2.2.2.2.2.2.2.2.2.2.2.2.2.2.2.2.2.2.2.2.2.2.2.2.2.2.2.1 hn hI hi next
  by_cases h28 : iand (xs i.toNat).toInt 63 = 28
  · refine z_tin C dL_law_32 (v := 28) ((w32_iand _ _).trans h28) (by decide) rfl 1071 (by decide) ?_
    exact law_case_28 C hR hX hbl F S.2.2.2.2.2.2.2.2.2.2.2.2.2.2.2.2.2.2.2.2.2.2.2.2.2.2.2.2.1 hn hI hi next
  by_cases h29 : iand (xs i.toNat).toInt 63 = 29
  · refine z_tin C dL_law_32 (v := 29) ((w32_iand _ _).trans h29) (by decide) rfl 1084 (by decide) ?_
    exact law_case_29 C hR hX hbl F S.2.2.2.2.2.2.2.2.2.2.2.2.2.2.2.2.2.2.2.2.2.2.2.2.2.2.2.2.2.1 hn hI hi next
  by_cases h30 : iand (xs i.toNat).toInt 63 = 30
  · refine z_tin C dL_law_32 (v := 30) ((w32_iand _ _).trans h30) (by decide) rfl 1107 (by decide) ?_
    exact law_case_30 C hR hX hbl F S.2.2.2.2.2.2.2.2.2.2.2.2.2.2.2.2.2.2.2.2.2.2.2.2.2.2.2.2.2.2.1 hn hI hi next
  by_cases h31 : iand (xs i.toNat).toInt 63 = 31
  · refine z_tin C dL_law_32 (v := 31) ((w32_iand _ _).trans h31) (by decide) rfl 1150 (by decide) ?_
    exact law_case_31 C hR hX hbl F S.2.2.2.2.2.2.2.2.2.2.2.2.2.2.2.2.2.2.2.2.2.2.2.2.2.2.2.2.2.2.2.1 hn hI hi next
  by_cases h32 : iand (xs i.toNat).toInt 63 = 32
  · refine z_tin C dL_law_32 (v := 32) ((w32_iand _ _).trans h32) (by decide) rfl 1193 (by decide) ?_
    exact law_case_32 C hR hX hbl F S.2.2.2.2.2.2.2.2.2.2.2.2.2.2.2.2.2.2.2.2.2.2.2.2.2.2.2.2.2.2.2.2.1 hn hI hi next
  by_cases h33 : iand (xs i.toNat).toInt 63 = 33
  · refine z_tin C dL_law_32 (v := 33) ((w32_iand _ _).trans h33) (by decide) rfl 1236 (by decide) ?_
    exact law_case_33 C hR hX hbl F S.2.2.2.2.2.2.2.2.2.2.2.2.2.2.2.2.2.2.2.2.2.2.2.2.2.2.2.2.2.2.2.2.2 hn hI hi next
  refine z_tout C dL_law_32 (by rw [w32_iand]; have := iand63 (xs i.toNat).toInt; omega) 1259 (by decide) ?_
  exact next σ (hK n σ hI)
set_option maxRecDepth 100000 in
set_option maxHeartbeats 4000000 in
/-- the loop's head, with i ints read -/
theorem law_loop {X : MX} {G : GG} (C : CX X G 4 cL_law RL) (hR : mR X = room_1) {Qz : Unit → State → Prop} {b L : Nat} {xs : Nat → Int32} (hL : L ≤ 2048) (hX : va_X b L xs (mS X) G.1) (hbl : b < gb G) (F : Nat) {Inv : Nat → St → Prop} (S : Spec F Inv) (hK : ∀ n σ, Inv n σ → Inv (n + 1) σ)
    (done : ∀ (σ : St) (i : Int), ZZ X G 4 Qz (181, 21341) (some ()) (w0 σ) 1265 [(0, .ref b), (1, vr G 0), (2, vr G 143), (3, vi i)] []) : ∀ (n c : Nat) (i : Int) (σ : St), Inv c σ → i = 4 * c → i ≤ (L : Int) + 4 → (L : Int) + 8 ≤ i + n → ZZ X G 4 Qz (181, 21341) (some ()) (w0 σ) 18 [(0, .ref b), (1, vr G 0), (2, vr G 143), (3, vi i)] [] := by
  intro n
  induction n with
  | zero => intro c i σ hI h1 h2 h3; omega
  | succ n ih =>
    intro c i σ hI h1 h2 h3
    refine z_iload_n C 3 rfl 3 rfl dL_law_18 19 rfl ?_
    refine s_aload_n C 0 rfl 0 rfl dL_law_19 20 rfl ?_
    refine l_slen C hX hbl dL_law_20 21 rfl ?_
    refine z_iconst C dL_law_21 22 rfl ?_
    refine z_isub C dL_law_22 23 rfl ?_
    have e1 : w32 i = i := w32_id (by omega)
    have e2 : w32 ((L : Int) - 4) = (L : Int) - 4 := w32_id (by omega)
    by_cases hgt : i > (L : Int) - 4
    · have e : (some () : Option Unit) = if i > (L : Int) - 4 then some () else none := by rw [if_pos hgt]
      rw [e]
      refine z_icmp_gt C dL_law_23 1265 (by decide) 26 rfl e1 e2 (fun _ => ?_) (fun q => absurd hgt q)
      exact done σ i
    · have e : (some () : Option Unit) = if i > (L : Int) - 4 then none else some () := by rw [if_neg hgt]
      rw [e]
      refine z_icmp_gt C dL_law_23 1265 (by decide) 26 rfl e1 e2 (fun q => absurd q hgt) (fun _ => ?_)
      refine s_aload_n C 0 rfl 0 rfl dL_law_26 27 rfl ?_
      refine z_iload_n C 3 rfl 3 rfl dL_law_27 28 rfl ?_
      refine l_sld C hX hbl e1 (by omega) dL_law_28 29 rfl ?_
      refine z_bipush C (by decide) dL_law_29 31 rfl ?_
      refine z_iand C dL_law_31 32 rfl ?_
      refine law_switch C hR hX hbl F S hK (n := c) (by omega) hI ⟨by omega, by omega, hL⟩ (fun σ' hI' => ?_)
      refine z_iinc (lv' := [(3, vi (i + 4)), (0, .ref b), (1, vr G 0), (2, vr G 143)]) C (by decide) 3 rfl dL_law_1259 1262 rfl rfl ?_
      refine z_goto C dL_law_1262 18 (by decide) ?_
      refine z_lv (lv' := [(0, .ref b), (1, vr G 0), (2, vr G 143), (3, vi (i + 4))]) [1, 2, 3, 0] rfl ?_
      exact ih (c + 1) (i + 4) σ' hI' (by omega) (by omega) (by omega)
