-- THE WORLD: all cells that the law makes lie behind the heap's size at its entry, one behind the other; a world is how many there are, their kinds, their references and their numbers
def UW : List Cond := lw_tbl.filter goodWord
theorem uw_good : GoodIn UW UW := fun w h => ⟨h, good_of_word (List.mem_filter.mp h).2⟩
theorem uw_tbl {w : Cond} (h : w ∈ UW) : w ∈ lw_tbl := (List.mem_filter.mp h).1
theorem uw_in {i : Nat} {w : Cond} (h : tables_1[i]? = some w) (hg : goodWord w = true) : w ∈ UW := List.mem_filter.mpr ⟨List.mem_append_right _ (List.mem_of_getElem? h), hg⟩
theorem uw_sel {i : Nat} {w : Cond} (h : (k2_sels lw_privs)[i]? = some w) (hg : goodWord w = true) : w ∈ UW := List.mem_filter.mpr ⟨List.mem_append_left _ (List.mem_of_getElem? h), hg⟩
abbrev St : Type := Int → Int → Int
def i32 (a : Int) : Int32 := Int32.ofInt a
def i64 (a : Int) : Int64 := Int64.ofInt a
def w32 (a : Int) : Int := (Int32.ofInt a).toInt
def w64 (a : Int) : Int := (Int64.ofInt a).toInt
def vi (a : Int) : Value := .int (i32 a)
def vl (a : Int) : Value := .long (i64 a)
theorem i32_add (a b : Int) : i32 a + i32 b = i32 (a + b) := (Int32.ofInt_add a b).symm
theorem i32_sub (a b : Int) : i32 a - i32 b = i32 (a - b) := (Int32.ofInt_sub a b).symm
theorem i32_mul (a b : Int) : i32 a * i32 b = i32 (a * b) := (Int32.ofInt_mul a b).symm
theorem i64_add (a b : Int) : i64 a + i64 b = i64 (a + b) := (Int64.ofInt_add a b).symm
theorem i64_sub (a b : Int) : i64 a - i64 b = i64 (a - b) := (Int64.ofInt_sub a b).symm
theorem i64_mul (a b : Int) : i64 a * i64 b = i64 (a * b) := (Int64.ofInt_mul a b).symm
theorem i32_w (a : Int) : i32 (w32 a) = i32 a := Int32.ofInt_toInt _
theorem i64_w (a : Int) : i64 (w64 a) = i64 a := Int64.ofInt_toInt _
theorem i32_toInt (x : Int32) : i32 x.toInt = x := Int32.ofInt_toInt x
theorem i64_toInt (x : Int64) : i64 x.toInt = x := Int64.ofInt_toInt x
theorem i32_lt (a b : Int) : i32 a < i32 b ↔ w32 a < w32 b := Int32.lt_iff_toInt_lt
theorem i32_le (a b : Int) : i32 a ≤ i32 b ↔ w32 a ≤ w32 b := Int32.le_iff_toInt_le
theorem i64_lt (a b : Int) : i64 a < i64 b ↔ w64 a < w64 b := Int64.lt_iff_toInt_lt
theorem i32_eq (a b : Int) : i32 a = i32 b ↔ w32 a = w32 b := Int32.toInt_inj.symm
theorem i64_eq (a b : Int) : i64 a = i64 b ↔ w64 a = w64 b := Int64.toInt_inj.symm
theorem w32_bmod (a : Int) : w32 a = a.bmod (2 ^ 32) := Int32.toInt_ofInt
theorem w64_bmod (a : Int) : w64 a = a.bmod (2 ^ 64) := Int64.toInt_ofInt
theorem w32_id {a : Int} (h : -2147483648 ≤ a ∧ a ≤ 2147483647) : w32 a = a := by
  rw [w32_bmod, Int.bmod_eq_of_le] <;> omega
theorem w64_id {a : Int} (h : -9223372036854775808 ≤ a ∧ a ≤ 9223372036854775807) : w64 a = a := by
  rw [w64_bmod, Int.bmod_eq_of_le] <;> omega
theorem w32_rng (a : Int) : -2147483648 ≤ w32 a ∧ w32 a ≤ 2147483647 := by
  rw [w32_bmod]; have h1 := Int.le_bmod (x := a) (m := 2 ^ 32) (by decide); have h2 := Int.bmod_lt (x := a) (m := 2 ^ 32) (by decide); omega
theorem w64_rng (a : Int) : -9223372036854775808 ≤ w64 a ∧ w64 a ≤ 9223372036854775807 := by
  rw [w64_bmod]; have h1 := Int.le_bmod (x := a) (m := 2 ^ 64) (by decide); have h2 := Int.bmod_lt (x := a) (m := 2 ^ 64) (by decide); omega
theorem w32_w (a : Int) : w32 (w32 a) = w32 a := w32_id (w32_rng a)
theorem w64_w (a : Int) : w64 (w64 a) = w64 a := w64_id (w64_rng a)
-- the numbers that no ring map gives
def iand (a b : Int) : Int := (i32 a &&& i32 b).toInt
def ior (a b : Int) : Int := (i32 a ||| i32 b).toInt
def ishl (a b : Int) : Int := (i32 a <<< (i32 b &&& 31)).toInt
def ishr (a b : Int) : Int := (i32 a >>> (i32 b &&& 31)).toInt
def idv (a b : Int) : Int := (i32 a / i32 b).toInt
def irm (a b : Int) : Int := (i32 a - i32 a / i32 b * i32 b).toInt
def ldv (a b : Int) : Int := (i64 a / i64 b).toInt
def lrm (a b : Int) : Int := (i64 a - i64 a / i64 b * i64 b).toInt
def land_ (a b : Int) : Int := (i64 a &&& i64 b).toInt
def lor_ (a b : Int) : Int := (i64 a ||| i64 b).toInt
def lsl (a b : Int) : Int := (i64 a <<< ((i32 b).toInt64 &&& 63)).toInt
def lsr (a b : Int) : Int := (i64 a >>> ((i32 b).toInt64 &&& 63)).toInt
def lur (a b : Int) : Int := ((i64 a).toUInt64 >>> ((i32 b).toInt64.toUInt64 &&& Int64.toUInt64 63)).toInt64.toInt
def i2b_ (a : Int) : Int := (i32 a).toInt8.toInt32.toInt
def i2s_ (a : Int) : Int := (i32 a).toInt16.toInt32.toInt
def i2c_ (a : Int) : Int := (i32 a).toUInt32.toUInt16.toUInt32.toInt32.toInt
def l2i_ (a : Int) : Int := (i64 a).toInt32.toInt
def lcmp_ (a b : Int) : Int := if w64 a < w64 b then -1 else if w64 a = w64 b then 0 else 1
def b1 (a : Int) : Int := (i32 a &&& 1).toInt
def gd (c : Prop) [Decidable c] {T : Type} (o : Option T) : Option T := if c then o else none
def up (σ : St) (k j v : Int) : St := fun a b => if a = k ∧ b = j then v else σ a b
abbrev GG : Type := Heap × va_G × (Nat → ClassId)
def gb (G : GG) : Nat := G.1.size
def vr (G : GG) (k : Int) : Value := .ref (gb G + k.toNat)
def rv (G : GG) (k : Int) : Value := if k < 0 then .null else vr G k
/-- how many cells, their kinds ((0, class), (1, n) ints, (2, n) longs, (3, n) booleans, (4 .., n) references), references, numbers -/
abbrev WD : Type := Nat × (Int → Nat × Nat) × St × St
def tyOf (ci : Nat) : Nat → FieldType := match ci with
  | 0 => tyX0 | 1 => tyX1 | 2 => tyX2 | 3 => tyX3 | 4 => tyX4 | 5 => tyX5 | 6 => tyX6 | 7 => tyX7 | 8 => tyX8 | 9 => tyX9 | 10 => tyX10 | _ => tyX11
def fval (G : GG) (t : FieldType) (r f : Int) : Value := match t with
  | .long => vl f
  | .object _ => rv G r
  | .array _ => rv G r
  | _ => vi f
def holdAt (G : GG) (kd : Nat × Nat) (r f : Int → Int) (a : Nat) (H : Heap) : Prop := match kd.1 with
  | 0 => ∃ row : vw_C, vwCl[kd.2]? = some row ∧ t_OB a (G.2.1.1 kd.2) row.2.2 (G.2.1.2 kd.2) H (fun j => fval G (tyOf kd.2 j) (r j) (f j))
  | 1 => H[a]? = some (arrV (G.2.2 0) kd.2 (fun j => vi (f j)))
  | 2 => H[a]? = some (arrV (G.2.2 1) kd.2 (fun j => vl (f j)))
  | 3 => H[a]? = some (arrV (G.2.2 2) kd.2 (fun j => vi (f j)))
  | t + 4 => H[a]? = some (arrV (G.2.2 (t + 3)) kd.2 (fun j => rv G (r j)))
theorem holdAt.kept {G : GG} {kd : Nat × Nat} {r f : Int → Int} {a : Nat} {H H1 : Heap} (h : holdAt G kd r f a H) (hq : H1[a]? = H[a]?) : holdAt G kd r f a H1 := by
  obtain ⟨k1, k2⟩ := kd
  unfold holdAt at h ⊢
  match k1, h with
  | 0, ⟨row, h1, h2⟩ => exact ⟨row, h1, h2.kept hq⟩
  | 1, h => exact hq.trans h
  | 2, h => exact hq.trans h
  | 3, h => exact hq.trans h
  | t + 4, h => exact hq.trans h
def Hold (G : GG) (w : WD) (H : Heap) : Prop := H.size = gb G + w.1 ∧ (∀ q : Nat, q < gb G → H[q]? = G.1[q]?) ∧ ∀ k : Nat, k < w.1 → holdAt G (w.2.1 k) (w.2.2.1 k) (w.2.2.2 k) (gb G + k) H
abbrev tysG (G : GG) : List (ClassId × FieldType) := [(G.2.2 0, .int), (G.2.2 1, .long), (G.2.2 2, .boolean), (G.2.2 3, .object RX5), (G.2.2 4, .object RX6), (G.2.2 5, .object RX9)]
def sLen : List Nat := [60, 6]
def sByt : List (List Int32) := [[119, 111, 114, 116, 104, 32, 108, 101, 102, 116, 32, 32, 114, 111, 111, 109, 32, 32, 114, 97, 110, 107, 32, 32, 112, 97, 105, 100, 32, 32, 110, 117, 109, 98, 101, 114, 98, 121, 32, 32, 32, 32, 105, 102, 32, 32, 32, 32, 97, 110, 100, 32, 32, 32, 100, 114, 111, 112, 32, 32], [43, 45, 44, 60, 62, 59]]
/-- where the two texts lie, and their bytes -/
def gK (G : GG) (j : Nat) : Nat := G.2.2 (10 + j)
def gV (G : GG) (j : Nat) : Nat := G.2.2 (20 + j)
/-- the two String constants, the two statics that their methods read -/
def SS (G : GG) (s : State) : Prop := ∃ fm : Value, vk_S 2 sLen sByt (gK G) (gV G) (fun q => gb G ≤ q) s G.1 ∧ vk_R RX8 99 "worth left  room  rank  paid  numberby    if    and   drop  " (gK G 0) s ∧ vk_R RX8 107 "+-,<>;" (gK G 1) s ∧ va_Z "java/lang/String" "COMPACT_STRINGS" "Z" (.int 1) (fun q => gb G ≤ q) s G.1 ∧ va_Z "jdk/internal/util/Preconditions" "SIOOBE_FORMATTER" "Ljava/util/function/BiFunction;" fm (fun q => gb G ≤ q) s G.1 ∧ (fm = .null ∨ ∃ a, fm = .ref a)
/-- the calls of private constructors -/
def nestL : List (String × Nat × MethodName × String) := [(RX10, 9, yX0_init, RX10), (RX10, 36, yX3_init, RX10), (RX3, 17, yX4_init, RX10), (RX1, 17, yX4_init, RX10), (RX10, 50, yX8_init, RX10), (RX5, 32, yX2_init, RX10), (RX5, 46, yX9_init, RX10), (RX10, 75, yX6_init, RX10)]
def NW (s : State) : Prop := ∀ q ∈ nestL, va_Nw (.methodLinkNest q.1 q.2.1 q.2.2.1 q.2.2.2) s
def KK (G : GG) (s : State) : Prop := va_K G.2.1 vwCl (tysG G) s ∧ SS G s ∧ NW s ∧ va_AO RX5 s ∧ va_AO RX6 s ∧ va_AO RX9 s
theorem SS.moved {G : GG} {u U : State} (hW : u.WarmedH U.vm) (h : SS G u) : SS G U := by
  obtain ⟨fm, h1, h2, h3, h4, h5, h6⟩ := h
  exact ⟨fm, h1.moved hW.alike, h2.warm hW, h3.warm hW, h4.moved hW.alike, h5.moved hW.alike, h6⟩
theorem KK.moved {G : GG} {u U : State} (hW : u.WarmedH U.vm) (h : KK G u) : KK G U := ⟨va_K.moved hW.alike h.1, h.2.1.moved hW, fun q hq => va_Nw.warmM hW (h.2.2.1 q hq), h.2.2.2.1.moved hW.alike, h.2.2.2.2.1.moved hW.alike, h.2.2.2.2.2.moved hW.alike⟩
theorem KK.same {G : GG} {u U : State} (hv : u.vm = U.vm) (h : KK G u) : KK G U := KK.moved (by rw [← hv]; exact State.WarmedH.refl u) h
theorem Hold.at {G : GG} {w : WD} {H : Heap} (h : Hold G w H) {k : Int} {kd : Nat × Nat} (hk : w.2.1 k = kd ∧ 0 ≤ k ∧ k < w.1) : holdAt G kd (w.2.2.1 k) (w.2.2.2 k) (gb G + k.toNat) H := by
  obtain ⟨rfl, h1, h2⟩ := hk
  have h3 := h.2.2 k.toNat (by omega)
  rwa [Int.toNat_of_nonneg h1] at h3
/-- one cell of the world is another now -/
theorem Hold.set {G : GG} {w w' : WD} {H H1 : Heap} (h : Hold G w H) {k : Int} (hk : 0 ≤ k ∧ k < w.1) (hN : w'.1 = w.1) (hz : H1.size = H.size) (ho : ∀ q : Nat, q ≠ gb G + k.toNat → H1[q]? = H[q]?)
    (hw : ∀ j : Int, j ≠ k → w'.2.1 j = w.2.1 j ∧ w'.2.2.1 j = w.2.2.1 j ∧ w'.2.2.2 j = w.2.2.2 j) (ha : holdAt G (w'.2.1 k) (w'.2.2.1 k) (w'.2.2.2 k) (gb G + k.toNat) H1) : Hold G w' H1 := by
  refine ⟨by rw [hz, hN]; exact h.1, fun q hq => by rw [ho q (by omega)]; exact h.2.1 q hq, fun j hj => ?_⟩
  by_cases hjk : (j : Int) = k
  · subst hjk
    rw [Int.toNat_natCast] at ha
    exact ha
  · obtain ⟨e1, e2, e3⟩ := hw j hjk
    rw [e1, e2, e3]
    exact (h.2.2 j (by omega)).kept (ho _ (by omega))
