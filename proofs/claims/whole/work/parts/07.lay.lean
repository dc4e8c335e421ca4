-- THE LAYOUT, by program (wip/gen/lay.py): cells in the order in which the two constructors make them
def N0 : Nat := 181
def kL : List (Nat × Nat) := [(0, 10), (0, 0), (1, 6), (1, 6), (1, 6), (1, 9), (1, 54), (0, 7), (1, 6), (1, 6), (1, 9), (1, 9), (1, 18), (1, 18), (1, 18), (1, 18), (3, 18), (0, 7), (1, 6), (1, 6), (1, 9), (1, 9), (1, 18), (1, 18), (1, 18), (1, 18), (3, 18), (0, 0), (1, 6), (1, 6), (1, 6), (1, 9), (1, 54), (0, 7), (1, 6), (1, 6), (1, 9), (1, 9), (1, 18), (1, 18), (1, 18), (1, 18), (3, 18), (0, 3), (1, 9), (0, 4), (1, 6), (1, 486), (1, 486), (1, 4860), (0, 1), (2, 7), (0, 4), (1, 6), (1, 486), (1, 486), (2, 2268), (0, 8), (1, 160), (4, 6), (5, 4), (1, 9), (1, 6), (0, 5), (1, 6), (3, 6), (1, 4), (3, 4), (1, 4), (0, 2), (0, 2), (6, 3), (0, 9), (0, 9), (0, 9), (0, 5), (1, 6), (3, 6), (1, 4), (3, 4), (1, 4), (0, 2), (0, 2), (6, 3), (0, 9), (0, 9), (0, 9), (0, 5), (1, 6), (3, 6), (1, 4), (3, 4), (1, 4), (0, 2), (0, 2), (6, 3), (0, 9), (0, 9), (0, 9), (0, 5), (1, 6), (3, 6), (1, 4), (3, 4), (1, 4), (0, 2), (0, 2), (6, 3), (0, 9), (0, 9), (0, 9), (0, 5), (1, 6), (3, 6), (1, 4), (3, 4), (1, 4), (0, 2), (0, 2), (6, 3), (0, 9), (0, 9), (0, 9), (0, 5), (1, 6), (3, 6), (1, 4), (3, 4), (1, 4), (0, 2), (0, 2), (6, 3), (0, 9), (0, 9), (0, 9), (0, 6), (1, 64), (0, 6), (1, 64), (0, 6), (1, 64), (0, 6), (1, 64), (0, 11), (1, 6), (1, 6), (1, 6), (1, 9), (1, 54), (1, 160), (1, 6), (1, 36), (1, 6), (1, 24), (1, 24), (1, 24), (1, 6), (1, 11), (1, 38), (1, 6), (1, 6), (1, 6), (1, 54), (1, 6), (1, 9), (1, 9), (1, 9), (1, 6), (1, 6), (1, 5120), (1, 9), (2, 3584), (2, 7), (1, 9), (1, 9), (1, 9), (1, 6), (1, 1200), (1, 4), (1, 4), (1, 256)]
def rL : List (List Int) := [[1, 7, 17, 27, 33, 43, 50, 57, 59, 60, 61, 62, -1, -1], [2, 3, 4, 5, 6], [], [], [], [], [], [1, 8, 9, 10, 11, 12, 13, 14, 15, 16, -1, -1, -1], [], [], [], [], [], [], [], [], [], [1, 18, 19, 20, 21, 22, 23, 24, 25, 26, -1, -1, -1], [], [], [], [], [], [], [], [], [], [28, 29, 30, 31, 32], [], [], [], [], [], [27, 34, 35, 36, 37, 38, 39, 40, 41, 42, -1, -1, -1], [], [], [], [], [], [], [], [], [], [44, -1, 45, 49, -1, -1], [], [46, 47, 48], [], [], [], [], [51, -1, 1, 52, 56, -1], [], [53, 54, 55], [], [], [], [], [-1, -1, -1, 58, -1, -1, -1, -1], [], [63, 75, 87, 99, 111, 123], [135, 137, 139, 141], [], [], [64, 65, 66, 67, 68, 69, 70, 71, -1, -1, -1], [], [], [], [], [], [], [], [72, 73, 74], [], [], [], [76, 77, 78, 79, 80, 81, 82, 83, -1, -1, -1], [], [], [], [], [], [], [], [84, 85, 86], [], [], [], [88, 89, 90, 91, 92, 93, 94, 95, -1, -1, -1], [], [], [], [], [], [], [], [96, 97, 98], [], [], [], [100, 101, 102, 103, 104, 105, 106, 107, -1, -1, -1], [], [], [], [], [], [], [], [108, 109, 110], [], [], [], [112, 113, 114, 115, 116, 117, 118, 119, -1, -1, -1], [], [], [], [], [], [], [], [120, 121, 122], [], [], [], [124, 125, 126, 127, 128, 129, 130, 131, -1, -1, -1], [], [], [], [], [], [], [], [132, 133, 134], [], [], [], [136, -1, -1], [], [138, -1, -1], [], [140, -1, -1], [], [142, -1, -1], [], [-1, 144, 145, 146, -1, 147, 148, 149, -1, -1, -1, -1, -1, -1, -1, -1, -1, 150, 151, 152, 153, 154, 155, 156, 157, 158, -1, -1, 159, 160, 161, 162, 163, 164, 165, -1, -1, 166, 167, 168, -1, 169, 170, -1, -1, -1, -1, 171, 172, 173, 174, 175, 176, -1, -1, 177, 178, 179, 180], [], [], [], [], [], [], [], [], [], [], [], [], [], [], [], [], [], [], [], [], [], [], [], [], [], [], [], [], [], [], [], [], [], [], [], [], []]
def κ0 (k : Int) : Nat × Nat := kL.getD k.toNat (99, 0)
def ρ0 (k j : Int) : Int := (rL.getD k.toNat []).getD j.toNat (-1)
def w0 (σ : St) : WD := (N0, κ0, ρ0, σ)
def isK (k : Int) (kd : Nat × Nat) : Prop := κ0 k = kd ∧ 0 ≤ k ∧ k < (N0 : Int)
theorem isK_lit (n : Nat) {kd : Nat × Nat} (h : (kL.getD n (99, 0) = kd ∧ n < N0)) : isK (n : Int) kd := ⟨h.1, Int.natCast_nonneg n, Int.ofNat_lt.mpr h.2⟩
theorem fin_of {P : Int → Prop} (h : ∀ n : Nat, n < N0 → P (n : Int)) {k : Int} (h1 : 0 ≤ k) (h2 : k < (N0 : Int)) : P k := by
  have h3 := h k.toNat (by omega)
  rwa [Int.toNat_of_nonneg h1] at h3
def layChk (ci j d t n : Nat) : Bool := (List.range N0).all fun k => kL.getD k (99, 0) != (0, ci) || ((rL.getD k []).getD j (-1) == (k + d : Nat) && kL.getD (k + d) (99, 0) == (t, n) && decide (k + d < N0))
theorem lay_of {ci j d t n : Nat} (h : layChk ci j d t n = true) {k : Int} (hk : isK k (0, ci)) : ρ0 k (j : Int) = k + (d : Int) ∧ isK (k + (d : Int)) (t, n) := by
  obtain ⟨h1, h2, h3⟩ := hk
  obtain ⟨m, rfl⟩ := Int.eq_ofNat_of_zero_le h2
  have hm : m < N0 := Int.ofNat_lt.mp h3
  have h4 := List.all_eq_true.mp h m (List.mem_range.mpr hm)
  have h5 : kL.getD m (99, 0) = (0, ci) := h1
  simp only [h5, bne_self_eq_false, Bool.false_or, Bool.and_eq_true, beq_iff_eq, decide_eq_true_eq] at h4
  refine ⟨?_, ?_⟩
  · show (rL.getD m []).getD j (-1) = _
    rw [h4.1.1]; omega
  · have := isK_lit (m + d) ⟨h4.1.2, h4.2⟩
    rwa [Int.natCast_add] at this
def bd (k : Int) : Int := if k = 33 then 27 else 1
theorem uw_list {ws : List Cond} (is : List Nat) (h : ws.map some = is.map (fun i => tables_1[i]?)) (hg : ws.all goodWord = true) : ∀ w ∈ ws, w ∈ UW := by
  intro w hw
  have h1 : some w ∈ ws.map some := List.mem_map.mpr ⟨w, hw, rfl⟩
  rw [h] at h1
  obtain ⟨i, -, hi⟩ := List.mem_map.mp h1
  exact uw_in hi (List.all_eq_true.mp hg w hw)
theorem cf0 : CF 0 RX0 TX0 8 := ⟨rfl, tyX0_ok, nmX0, uw_list [65, 67, 69, 71, 73, 75, 77, 79] (by decide +kernel) (by decide +kernel)⟩
theorem cf1 : CF 1 RX1 TX1 6 := ⟨rfl, tyX1_ok, nmX1, uw_list [206, 208, 210, 212, 214, 216] (by decide +kernel) (by decide +kernel)⟩
theorem cf2 : CF 2 RX2 TX2 5 := ⟨rfl, tyX2_ok, nmX2, uw_list [278, 280, 282, 284, 286] (by decide +kernel) (by decide +kernel)⟩
theorem cf3 : CF 3 RX3 TX3 6 := ⟨rfl, tyX3_ok, nmX3, uw_list [177, 179, 181, 183, 185, 187] (by decide +kernel) (by decide +kernel)⟩
theorem cf4 : CF 4 RX4 TX4 4 := ⟨rfl, tyX4_ok, nmX4, uw_list [160, 162, 164, 166] (by decide +kernel) (by decide +kernel)⟩
theorem cf5 : CF 5 RX5 TX5 11 := ⟨rfl, tyX5_ok, nmX5, uw_list [342, 344, 346, 348, 350, 352, 354, 356, 358, 360, 362] (by decide +kernel) (by decide +kernel)⟩
theorem cf6 : CF 6 RX6 TX6 3 := ⟨rfl, tyX6_ok, nmX6, uw_list [376, 378, 380] (by decide +kernel) (by decide +kernel)⟩
theorem cf7 : CF 7 RX7 TX7 13 := ⟨rfl, tyX7_ok, nmX7, uw_list [111, 113, 115, 117, 119, 121, 123, 125, 127, 129, 131, 133, 135] (by decide +kernel) (by decide +kernel)⟩
theorem cf8 : CF 8 RX8 TX8 8 := ⟨rfl, tyX8_ok, nmX8, uw_list [237, 239, 241, 243, 245, 247, 249, 251] (by decide +kernel) (by decide +kernel)⟩
theorem cf9 : CF 9 RX9 TX9 4 := ⟨rfl, tyX9_ok, nmX9, uw_list [304, 306, 308, 310] (by decide +kernel) (by decide +kernel)⟩
theorem cf10 : CF 10 RX10 TX10 14 := ⟨rfl, tyX10_ok, nmX10, uw_list [397, 399, 401, 403, 405, 407, 409, 411, 413, 415, 417, 419, 421, 423] (by decide +kernel) (by decide +kernel)⟩
theorem cf11 : CF 11 RX11 TX11 59 := ⟨rfl, tyX11_ok, nmX11, uw_list [1140, 1142, 1144, 1146, 1148, 1150, 1152, 1154, 1156, 1158, 1160, 1162, 1164, 1166, 1168, 1170, 1172, 1174, 1176, 1178, 1180, 1182, 1184, 1186, 1188, 1190, 1192, 1194, 1196, 1198, 1200, 1202, 1204, 1206, 1208, 1210, 1212, 1214, 1216, 1218, 1220, 1222, 1224, 1226, 1228, 1230, 1232, 1234, 1236, 1238, 1240, 1242, 1244, 1246, 1248, 1250, 1252, 1254, 1256] (by decide +kernel) (by decide +kernel)⟩
theorem lay_0_0 {k : Int} (hk : isK k (0, 0)) : ρ0 k 0 = k + 1 ∧ isK (k + 1) (1, 6) := lay_of (ci := 0) (j := 0) (d := 1) (by decide +kernel) hk
theorem lay_0_1 {k : Int} (hk : isK k (0, 0)) : ρ0 k 1 = k + 2 ∧ isK (k + 2) (1, 6) := lay_of (ci := 0) (j := 1) (d := 2) (by decide +kernel) hk
theorem lay_0_2 {k : Int} (hk : isK k (0, 0)) : ρ0 k 2 = k + 3 ∧ isK (k + 3) (1, 6) := lay_of (ci := 0) (j := 2) (d := 3) (by decide +kernel) hk
theorem lay_0_3 {k : Int} (hk : isK k (0, 0)) : ρ0 k 3 = k + 4 ∧ isK (k + 4) (1, 9) := lay_of (ci := 0) (j := 3) (d := 4) (by decide +kernel) hk
theorem lay_0_4 {k : Int} (hk : isK k (0, 0)) : ρ0 k 4 = k + 5 ∧ isK (k + 5) (1, 54) := lay_of (ci := 0) (j := 4) (d := 5) (by decide +kernel) hk
theorem lay_1_0 : ρ0 50 0 = 51 ∧ isK 51 (2, 7) := ⟨by decide +kernel, isK_lit 51 (by decide +kernel)⟩
theorem lay_1_2 : ρ0 50 2 = 1 ∧ isK 1 (0, 0) := ⟨by decide +kernel, isK_lit 1 (by decide +kernel)⟩
theorem lay_1_3 : ρ0 50 3 = 52 ∧ isK 52 (0, 4) := ⟨by decide +kernel, isK_lit 52 (by decide +kernel)⟩
theorem lay_1_4 : ρ0 50 4 = 56 ∧ isK 56 (2, 2268) := ⟨by decide +kernel, isK_lit 56 (by decide +kernel)⟩
theorem lay_3_0 : ρ0 43 0 = 44 ∧ isK 44 (1, 9) := ⟨by decide +kernel, isK_lit 44 (by decide +kernel)⟩
theorem lay_3_2 : ρ0 43 2 = 45 ∧ isK 45 (0, 4) := ⟨by decide +kernel, isK_lit 45 (by decide +kernel)⟩
theorem lay_3_3 : ρ0 43 3 = 49 ∧ isK 49 (1, 4860) := ⟨by decide +kernel, isK_lit 49 (by decide +kernel)⟩
theorem lay_4_0 {k : Int} (hk : isK k (0, 4)) : ρ0 k 0 = k + 1 ∧ isK (k + 1) (1, 6) := lay_of (ci := 4) (j := 0) (d := 1) (by decide +kernel) hk
theorem lay_4_1 {k : Int} (hk : isK k (0, 4)) : ρ0 k 1 = k + 2 ∧ isK (k + 2) (1, 486) := lay_of (ci := 4) (j := 1) (d := 2) (by decide +kernel) hk
theorem lay_4_2 {k : Int} (hk : isK k (0, 4)) : ρ0 k 2 = k + 3 ∧ isK (k + 3) (1, 486) := lay_of (ci := 4) (j := 2) (d := 3) (by decide +kernel) hk
theorem lay_5_0 {k : Int} (hk : isK k (0, 5)) : ρ0 k 0 = k + 1 ∧ isK (k + 1) (1, 6) := lay_of (ci := 5) (j := 0) (d := 1) (by decide +kernel) hk
theorem lay_5_1 {k : Int} (hk : isK k (0, 5)) : ρ0 k 1 = k + 2 ∧ isK (k + 2) (3, 6) := lay_of (ci := 5) (j := 1) (d := 2) (by decide +kernel) hk
theorem lay_5_2 {k : Int} (hk : isK k (0, 5)) : ρ0 k 2 = k + 3 ∧ isK (k + 3) (1, 4) := lay_of (ci := 5) (j := 2) (d := 3) (by decide +kernel) hk
theorem lay_5_3 {k : Int} (hk : isK k (0, 5)) : ρ0 k 3 = k + 4 ∧ isK (k + 4) (3, 4) := lay_of (ci := 5) (j := 3) (d := 4) (by decide +kernel) hk
theorem lay_5_4 {k : Int} (hk : isK k (0, 5)) : ρ0 k 4 = k + 5 ∧ isK (k + 5) (1, 4) := lay_of (ci := 5) (j := 4) (d := 5) (by decide +kernel) hk
theorem lay_5_5 {k : Int} (hk : isK k (0, 5)) : ρ0 k 5 = k + 6 ∧ isK (k + 6) (0, 2) := lay_of (ci := 5) (j := 5) (d := 6) (by decide +kernel) hk
theorem lay_5_6 {k : Int} (hk : isK k (0, 5)) : ρ0 k 6 = k + 7 ∧ isK (k + 7) (0, 2) := lay_of (ci := 5) (j := 6) (d := 7) (by decide +kernel) hk
theorem lay_5_7 {k : Int} (hk : isK k (0, 5)) : ρ0 k 7 = k + 8 ∧ isK (k + 8) (6, 3) := lay_of (ci := 5) (j := 7) (d := 8) (by decide +kernel) hk
theorem lay_6_0 {k : Int} (hk : isK k (0, 6)) : ρ0 k 0 = k + 1 ∧ isK (k + 1) (1, 64) := lay_of (ci := 6) (j := 0) (d := 1) (by decide +kernel) hk
def bdChk : Bool := (List.range N0).all fun k => kL.getD k (99, 0) != (0, 7) || decide ((rL.getD k []).getD 0 (-1) = bd (k : Int) ∧ kL.getD (bd (k : Int)).toNat (99, 0) = (0, 0))
theorem lay_7_0 {k : Int} (hk : isK k (0, 7)) : ρ0 k 0 = bd k ∧ isK (bd k) (0, 0) := by
  obtain ⟨h1, h2, h3⟩ := hk
  obtain ⟨m, rfl⟩ := Int.eq_ofNat_of_zero_le h2
  have hm : m < N0 := Int.ofNat_lt.mp h3
  have h4 := List.all_eq_true.mp (by decide +kernel : bdChk = true) m (List.mem_range.mpr hm)
  have h5 : kL.getD m (99, 0) = (0, 7) := h1
  simp only [h5, bne_self_eq_false, Bool.false_or, decide_eq_true_eq] at h4
  refine ⟨h4.1, h4.2, ?_, ?_⟩
  · unfold bd; split <;> omega
  · unfold bd N0; split <;> omega
theorem lay_7_1 {k : Int} (hk : isK k (0, 7)) : ρ0 k 1 = k + 1 ∧ isK (k + 1) (1, 6) := lay_of (ci := 7) (j := 1) (d := 1) (by decide +kernel) hk
theorem lay_7_2 {k : Int} (hk : isK k (0, 7)) : ρ0 k 2 = k + 2 ∧ isK (k + 2) (1, 6) := lay_of (ci := 7) (j := 2) (d := 2) (by decide +kernel) hk
theorem lay_7_3 {k : Int} (hk : isK k (0, 7)) : ρ0 k 3 = k + 3 ∧ isK (k + 3) (1, 9) := lay_of (ci := 7) (j := 3) (d := 3) (by decide +kernel) hk
theorem lay_7_4 {k : Int} (hk : isK k (0, 7)) : ρ0 k 4 = k + 4 ∧ isK (k + 4) (1, 9) := lay_of (ci := 7) (j := 4) (d := 4) (by decide +kernel) hk
theorem lay_7_5 {k : Int} (hk : isK k (0, 7)) : ρ0 k 5 = k + 5 ∧ isK (k + 5) (1, 18) := lay_of (ci := 7) (j := 5) (d := 5) (by decide +kernel) hk
theorem lay_7_6 {k : Int} (hk : isK k (0, 7)) : ρ0 k 6 = k + 6 ∧ isK (k + 6) (1, 18) := lay_of (ci := 7) (j := 6) (d := 6) (by decide +kernel) hk
theorem lay_7_7 {k : Int} (hk : isK k (0, 7)) : ρ0 k 7 = k + 7 ∧ isK (k + 7) (1, 18) := lay_of (ci := 7) (j := 7) (d := 7) (by decide +kernel) hk
theorem lay_7_8 {k : Int} (hk : isK k (0, 7)) : ρ0 k 8 = k + 8 ∧ isK (k + 8) (1, 18) := lay_of (ci := 7) (j := 8) (d := 8) (by decide +kernel) hk
theorem lay_7_9 {k : Int} (hk : isK k (0, 7)) : ρ0 k 9 = k + 9 ∧ isK (k + 9) (3, 18) := lay_of (ci := 7) (j := 9) (d := 9) (by decide +kernel) hk
theorem lay_8_3 : ρ0 57 3 = 58 ∧ isK 58 (1, 160) := ⟨by decide +kernel, isK_lit 58 (by decide +kernel)⟩
theorem lay_10_0 : ρ0 0 0 = 1 ∧ isK 1 (0, 0) := ⟨by decide +kernel, isK_lit 1 (by decide +kernel)⟩
theorem lay_10_1 : ρ0 0 1 = 7 ∧ isK 7 (0, 7) := ⟨by decide +kernel, isK_lit 7 (by decide +kernel)⟩
theorem lay_10_2 : ρ0 0 2 = 17 ∧ isK 17 (0, 7) := ⟨by decide +kernel, isK_lit 17 (by decide +kernel)⟩
theorem lay_10_3 : ρ0 0 3 = 27 ∧ isK 27 (0, 0) := ⟨by decide +kernel, isK_lit 27 (by decide +kernel)⟩
theorem lay_10_4 : ρ0 0 4 = 33 ∧ isK 33 (0, 7) := ⟨by decide +kernel, isK_lit 33 (by decide +kernel)⟩
theorem lay_10_5 : ρ0 0 5 = 43 ∧ isK 43 (0, 3) := ⟨by decide +kernel, isK_lit 43 (by decide +kernel)⟩
theorem lay_10_6 : ρ0 0 6 = 50 ∧ isK 50 (0, 1) := ⟨by decide +kernel, isK_lit 50 (by decide +kernel)⟩
theorem lay_10_7 : ρ0 0 7 = 57 ∧ isK 57 (0, 8) := ⟨by decide +kernel, isK_lit 57 (by decide +kernel)⟩
theorem lay_10_8 : ρ0 0 8 = 59 ∧ isK 59 (4, 6) := ⟨by decide +kernel, isK_lit 59 (by decide +kernel)⟩
theorem lay_10_9 : ρ0 0 9 = 60 ∧ isK 60 (5, 4) := ⟨by decide +kernel, isK_lit 60 (by decide +kernel)⟩
theorem lay_10_10 : ρ0 0 10 = 61 ∧ isK 61 (1, 9) := ⟨by decide +kernel, isK_lit 61 (by decide +kernel)⟩
theorem lay_10_11 : ρ0 0 11 = 62 ∧ isK 62 (1, 6) := ⟨by decide +kernel, isK_lit 62 (by decide +kernel)⟩
theorem lay_11_1 : ρ0 143 1 = 144 ∧ isK 144 (1, 6) := ⟨by decide +kernel, isK_lit 144 (by decide +kernel)⟩
theorem lay_11_2 : ρ0 143 2 = 145 ∧ isK 145 (1, 6) := ⟨by decide +kernel, isK_lit 145 (by decide +kernel)⟩
theorem lay_11_3 : ρ0 143 3 = 146 ∧ isK 146 (1, 6) := ⟨by decide +kernel, isK_lit 146 (by decide +kernel)⟩
theorem lay_11_5 : ρ0 143 5 = 147 ∧ isK 147 (1, 9) := ⟨by decide +kernel, isK_lit 147 (by decide +kernel)⟩
theorem lay_11_6 : ρ0 143 6 = 148 ∧ isK 148 (1, 54) := ⟨by decide +kernel, isK_lit 148 (by decide +kernel)⟩
theorem lay_11_7 : ρ0 143 7 = 149 ∧ isK 149 (1, 160) := ⟨by decide +kernel, isK_lit 149 (by decide +kernel)⟩
theorem lay_11_17 : ρ0 143 17 = 150 ∧ isK 150 (1, 6) := ⟨by decide +kernel, isK_lit 150 (by decide +kernel)⟩
theorem lay_11_18 : ρ0 143 18 = 151 ∧ isK 151 (1, 36) := ⟨by decide +kernel, isK_lit 151 (by decide +kernel)⟩
theorem lay_11_19 : ρ0 143 19 = 152 ∧ isK 152 (1, 6) := ⟨by decide +kernel, isK_lit 152 (by decide +kernel)⟩
theorem lay_11_20 : ρ0 143 20 = 153 ∧ isK 153 (1, 24) := ⟨by decide +kernel, isK_lit 153 (by decide +kernel)⟩
theorem lay_11_21 : ρ0 143 21 = 154 ∧ isK 154 (1, 24) := ⟨by decide +kernel, isK_lit 154 (by decide +kernel)⟩
theorem lay_11_22 : ρ0 143 22 = 155 ∧ isK 155 (1, 24) := ⟨by decide +kernel, isK_lit 155 (by decide +kernel)⟩
theorem lay_11_23 : ρ0 143 23 = 156 ∧ isK 156 (1, 6) := ⟨by decide +kernel, isK_lit 156 (by decide +kernel)⟩
theorem lay_11_24 : ρ0 143 24 = 157 ∧ isK 157 (1, 11) := ⟨by decide +kernel, isK_lit 157 (by decide +kernel)⟩
theorem lay_11_25 : ρ0 143 25 = 158 ∧ isK 158 (1, 38) := ⟨by decide +kernel, isK_lit 158 (by decide +kernel)⟩
theorem lay_11_28 : ρ0 143 28 = 159 ∧ isK 159 (1, 6) := ⟨by decide +kernel, isK_lit 159 (by decide +kernel)⟩
theorem lay_11_29 : ρ0 143 29 = 160 ∧ isK 160 (1, 6) := ⟨by decide +kernel, isK_lit 160 (by decide +kernel)⟩
theorem lay_11_30 : ρ0 143 30 = 161 ∧ isK 161 (1, 6) := ⟨by decide +kernel, isK_lit 161 (by decide +kernel)⟩
theorem lay_11_31 : ρ0 143 31 = 162 ∧ isK 162 (1, 54) := ⟨by decide +kernel, isK_lit 162 (by decide +kernel)⟩
theorem lay_11_32 : ρ0 143 32 = 163 ∧ isK 163 (1, 6) := ⟨by decide +kernel, isK_lit 163 (by decide +kernel)⟩
theorem lay_11_33 : ρ0 143 33 = 164 ∧ isK 164 (1, 9) := ⟨by decide +kernel, isK_lit 164 (by decide +kernel)⟩
theorem lay_11_34 : ρ0 143 34 = 165 ∧ isK 165 (1, 9) := ⟨by decide +kernel, isK_lit 165 (by decide +kernel)⟩
theorem lay_11_37 : ρ0 143 37 = 166 ∧ isK 166 (1, 9) := ⟨by decide +kernel, isK_lit 166 (by decide +kernel)⟩
theorem lay_11_38 : ρ0 143 38 = 167 ∧ isK 167 (1, 6) := ⟨by decide +kernel, isK_lit 167 (by decide +kernel)⟩
theorem lay_11_39 : ρ0 143 39 = 168 ∧ isK 168 (1, 6) := ⟨by decide +kernel, isK_lit 168 (by decide +kernel)⟩
theorem lay_11_41 : ρ0 143 41 = 169 ∧ isK 169 (1, 5120) := ⟨by decide +kernel, isK_lit 169 (by decide +kernel)⟩
theorem lay_11_42 : ρ0 143 42 = 170 ∧ isK 170 (1, 9) := ⟨by decide +kernel, isK_lit 170 (by decide +kernel)⟩
theorem lay_11_47 : ρ0 143 47 = 171 ∧ isK 171 (2, 3584) := ⟨by decide +kernel, isK_lit 171 (by decide +kernel)⟩
theorem lay_11_48 : ρ0 143 48 = 172 ∧ isK 172 (2, 7) := ⟨by decide +kernel, isK_lit 172 (by decide +kernel)⟩
theorem lay_11_49 : ρ0 143 49 = 173 ∧ isK 173 (1, 9) := ⟨by decide +kernel, isK_lit 173 (by decide +kernel)⟩
theorem lay_11_50 : ρ0 143 50 = 174 ∧ isK 174 (1, 9) := ⟨by decide +kernel, isK_lit 174 (by decide +kernel)⟩
theorem lay_11_51 : ρ0 143 51 = 175 ∧ isK 175 (1, 9) := ⟨by decide +kernel, isK_lit 175 (by decide +kernel)⟩
theorem lay_11_52 : ρ0 143 52 = 176 ∧ isK 176 (1, 6) := ⟨by decide +kernel, isK_lit 176 (by decide +kernel)⟩
theorem lay_11_55 : ρ0 143 55 = 177 ∧ isK 177 (1, 1200) := ⟨by decide +kernel, isK_lit 177 (by decide +kernel)⟩
theorem lay_11_56 : ρ0 143 56 = 178 ∧ isK 178 (1, 4) := ⟨by decide +kernel, isK_lit 178 (by decide +kernel)⟩
theorem lay_11_57 : ρ0 143 57 = 179 ∧ isK 179 (1, 4) := ⟨by decide +kernel, isK_lit 179 (by decide +kernel)⟩
theorem lay_11_58 : ρ0 143 58 = 180 ∧ isK 180 (1, 256) := ⟨by decide +kernel, isK_lit 180 (by decide +kernel)⟩
theorem one_10 : isK 0 (0, 10) := isK_lit 0 (by decide +kernel)
theorem one_3 : isK 43 (0, 3) := isK_lit 43 (by decide +kernel)
theorem one_1 : isK 50 (0, 1) := isK_lit 50 (by decide +kernel)
theorem one_8 : isK 57 (0, 8) := isK_lit 57 (by decide +kernel)
theorem one_11 : isK 143 (0, 11) := isK_lit 143 (by decide +kernel)
theorem lay_rules {r : Int} (h : 0 ≤ r ∧ r < 6) : ρ0 59 r = 63 + 12 * r ∧ isK (63 + 12 * r) (0, 5) := by
  obtain ⟨m, rfl⟩ := Int.eq_ofNat_of_zero_le h.1
  have hm : m < 6 := by omega
  match m, hm with
  | 0, _ => exact ⟨by decide +kernel, isK_lit 63 (by decide +kernel)⟩
  | 1, _ => exact ⟨by decide +kernel, isK_lit 75 (by decide +kernel)⟩
  | 2, _ => exact ⟨by decide +kernel, isK_lit 87 (by decide +kernel)⟩
  | 3, _ => exact ⟨by decide +kernel, isK_lit 99 (by decide +kernel)⟩
  | 4, _ => exact ⟨by decide +kernel, isK_lit 111 (by decide +kernel)⟩
  | 5, _ => exact ⟨by decide +kernel, isK_lit 123 (by decide +kernel)⟩
theorem lay_sheets {r : Int} (h : 0 ≤ r ∧ r < 4) : ρ0 60 r = 135 + 2 * r ∧ isK (135 + 2 * r) (0, 6) := by
  obtain ⟨m, rfl⟩ := Int.eq_ofNat_of_zero_le h.1
  have hm : m < 4 := by omega
  match m, hm with
  | 0, _ => exact ⟨by decide +kernel, isK_lit 135 (by decide +kernel)⟩
  | 1, _ => exact ⟨by decide +kernel, isK_lit 137 (by decide +kernel)⟩
  | 2, _ => exact ⟨by decide +kernel, isK_lit 139 (by decide +kernel)⟩
  | 3, _ => exact ⟨by decide +kernel, isK_lit 141 (by decide +kernel)⟩
def wstChk : Bool := (List.range N0).all fun k => kL.getD k (99, 0) != (6, 3) || ((List.range 3).all fun r => ((rL.getD k []).getD r (-1) == (k + 1 + r : Nat) && kL.getD (k + 1 + r) (99, 0) == (0, 9) && decide (k + 1 + r < N0)))
theorem lay_worst {k r : Int} (hk : isK k (6, 3)) (h : 0 ≤ r ∧ r < 3) : ρ0 k r = k + 1 + r ∧ isK (k + 1 + r) (0, 9) := by
  obtain ⟨h1, h2, h3⟩ := hk
  obtain ⟨m, rfl⟩ := Int.eq_ofNat_of_zero_le h2
  obtain ⟨q, rfl⟩ := Int.eq_ofNat_of_zero_le h.1
  have hm : m < N0 := Int.ofNat_lt.mp h3
  have hq : q < 3 := by omega
  have h4 := List.all_eq_true.mp (by decide +kernel : wstChk = true) m (List.mem_range.mpr hm)
  have h5 : kL.getD m (99, 0) = (6, 3) := h1
  simp only [h5, bne_self_eq_false, Bool.false_or] at h4
  have h6 := List.all_eq_true.mp h4 q (List.mem_range.mpr hq)
  simp only [Bool.and_eq_true, beq_iff_eq, decide_eq_true_eq] at h6
  refine ⟨?_, ?_⟩
  · show (rL.getD m []).getD q (-1) = _
    rw [h6.1.1]; omega
  · have := isK_lit (m + 1 + q) ⟨h6.1.2, h6.2⟩
    rwa [Int.natCast_add, Int.natCast_add] at this
def FLI (own : String) (idx ci j : Nat) (j' : Int) : Prop := FL own idx ci j ∧ tyOf ci j = .int ∧ (j : Int) = j'
def FLZ (own : String) (idx ci j : Nat) (j' : Int) : Prop := FL own idx ci j ∧ tyOf ci j = .boolean ∧ (j : Int) = j'
def FLJ (own : String) (idx ci j : Nat) (j' : Int) : Prop := FL own idx ci j ∧ tyOf ci j = .long ∧ (j : Int) = j'
def isRefTy (t : FieldType) : Bool := match t with | .object _ => true | .array _ => true | _ => false
def FLR (own : String) (idx ci j : Nat) (j' : Int) : Prop := FLg own idx ci j ∧ isRefTy (tyOf ci j) = true ∧ (j : Int) = j'
theorem fX0_9 : FLR RX0 9 0 0 0 := ⟨⟨RX0, TX0, 8, cf0, by decide, uw_in tb_35 rfl⟩, rfl, rfl⟩
theorem fX4_30 : FLR RX4 30 0 0 0 := ⟨⟨RX0, TX0, 8, cf0, by decide, uw_in tb_36 rfl⟩, rfl, rfl⟩
theorem fX7_72 : FLR RX7 72 0 0 0 := ⟨⟨RX0, TX0, 8, cf0, by decide, uw_in tb_37 rfl⟩, rfl, rfl⟩
theorem fX10_132 : FLR RX10 132 0 0 0 := ⟨⟨RX0, TX0, 8, cf0, by decide, uw_in tb_38 rfl⟩, rfl, rfl⟩
theorem fX0_15 : FLR RX0 15 0 1 1 := ⟨⟨RX0, TX0, 8, cf0, by decide, uw_in tb_39 rfl⟩, rfl, rfl⟩
theorem fX10_126 : FLR RX10 126 0 1 1 := ⟨⟨RX0, TX0, 8, cf0, by decide, uw_in tb_40 rfl⟩, rfl, rfl⟩
theorem fX7_144 : FLR RX7 144 0 1 1 := ⟨⟨RX0, TX0, 8, cf0, by decide, uw_in tb_41 rfl⟩, rfl, rfl⟩
theorem fX0_18 : FLR RX0 18 0 2 2 := ⟨⟨RX0, TX0, 8, cf0, by decide, uw_in tb_42 rfl⟩, rfl, rfl⟩
theorem fX10_135 : FLR RX10 135 0 2 2 := ⟨⟨RX0, TX0, 8, cf0, by decide, uw_in tb_43 rfl⟩, rfl, rfl⟩
theorem fX7_86 : FLR RX7 86 0 2 2 := ⟨⟨RX0, TX0, 8, cf0, by decide, uw_in tb_44 rfl⟩, rfl, rfl⟩
theorem fX0_21 : FLR RX0 21 0 3 3 := ⟨⟨RX0, TX0, 8, cf0, by decide, uw_in tb_45 rfl⟩, rfl, rfl⟩
theorem fX1_46 : FLR RX1 46 0 3 3 := ⟨⟨RX0, TX0, 8, cf0, by decide, uw_in tb_46 rfl⟩, rfl, rfl⟩
theorem fX10_119 : FLR RX10 119 0 3 3 := ⟨⟨RX0, TX0, 8, cf0, by decide, uw_in tb_47 rfl⟩, rfl, rfl⟩
theorem fX0_24 : FLR RX0 24 0 4 4 := ⟨⟨RX0, TX0, 8, cf0, by decide, uw_in tb_48 rfl⟩, rfl, rfl⟩
theorem fX3_76 : FLR RX3 76 0 4 4 := ⟨⟨RX0, TX0, 8, cf0, by decide, uw_in tb_49 rfl⟩, rfl, rfl⟩
theorem fX0_27 : FLI RX0 27 0 5 5 := ⟨⟨RX0, TX0, 8, cf0, by decide, uw_in tb_50 rfl, rfl⟩, rfl, rfl⟩
theorem fX4_25 : FLI RX4 25 0 5 5 := ⟨⟨RX0, TX0, 8, cf0, by decide, uw_in tb_51 rfl, rfl⟩, rfl, rfl⟩
theorem fX10_84 : FLI RX10 84 0 5 5 := ⟨⟨RX0, TX0, 8, cf0, by decide, uw_in tb_52 rfl, rfl⟩, rfl, rfl⟩
theorem fX1_68 : FLI RX1 68 0 5 5 := ⟨⟨RX0, TX0, 8, cf0, by decide, uw_in tb_53 rfl, rfl⟩, rfl, rfl⟩
theorem fX3_73 : FLI RX3 73 0 5 5 := ⟨⟨RX0, TX0, 8, cf0, by decide, uw_in tb_54 rfl, rfl⟩, rfl, rfl⟩
theorem fX7_75 : FLI RX7 75 0 5 5 := ⟨⟨RX0, TX0, 8, cf0, by decide, uw_in tb_55 rfl, rfl⟩, rfl, rfl⟩
theorem fX1_43 : FLI RX1 43 0 6 6 := ⟨⟨RX0, TX0, 8, cf0, by decide, uw_in tb_56 rfl, rfl⟩, rfl, rfl⟩
theorem fX10_95 : FLI RX10 95 0 6 6 := ⟨⟨RX0, TX0, 8, cf0, by decide, uw_in tb_57 rfl, rfl⟩, rfl, rfl⟩
theorem fX0_34 : FLI RX0 34 0 6 6 := ⟨⟨RX0, TX0, 8, cf0, by decide, uw_in tb_58 rfl, rfl⟩, rfl, rfl⟩
theorem fX7_63 : FLI RX7 63 0 6 6 := ⟨⟨RX0, TX0, 8, cf0, by decide, uw_in tb_59 rfl, rfl⟩, rfl, rfl⟩
theorem fX3_49 : FLI RX3 49 0 6 6 := ⟨⟨RX0, TX0, 8, cf0, by decide, uw_in tb_60 rfl, rfl⟩, rfl, rfl⟩
theorem fX1_33 : FLI RX1 33 0 7 7 := ⟨⟨RX0, TX0, 8, cf0, by decide, uw_in tb_61 rfl, rfl⟩, rfl, rfl⟩
theorem fX0_31 : FLI RX0 31 0 7 7 := ⟨⟨RX0, TX0, 8, cf0, by decide, uw_in tb_62 rfl, rfl⟩, rfl, rfl⟩
theorem fX3_33 : FLI RX3 33 0 7 7 := ⟨⟨RX0, TX0, 8, cf0, by decide, uw_in tb_63 rfl, rfl⟩, rfl, rfl⟩
theorem fX10_276 : FLI RX10 276 0 7 7 := ⟨⟨RX0, TX0, 8, cf0, by decide, uw_in tb_64 rfl, rfl⟩, rfl, rfl⟩
theorem fX7_40 : FLR RX7 40 7 0 0 := ⟨⟨RX7, TX7, 13, cf7, by decide, uw_in tb_92 rfl⟩, rfl, rfl⟩
theorem fX10_396 : FLR RX10 396 7 0 0 := ⟨⟨RX7, TX7, 13, cf7, by decide, uw_in tb_93 rfl⟩, rfl, rfl⟩
theorem fX7_9 : FLR RX7 9 7 1 1 := ⟨⟨RX7, TX7, 13, cf7, by decide, uw_in tb_94 rfl⟩, rfl, rfl⟩
theorem fX7_15 : FLR RX7 15 7 2 2 := ⟨⟨RX7, TX7, 13, cf7, by decide, uw_in tb_95 rfl⟩, rfl, rfl⟩
theorem fX10_142 : FLR RX10 142 7 2 2 := ⟨⟨RX7, TX7, 13, cf7, by decide, uw_in tb_96 rfl⟩, rfl, rfl⟩
theorem fX7_18 : FLR RX7 18 7 3 3 := ⟨⟨RX7, TX7, 13, cf7, by decide, uw_in tb_97 rfl⟩, rfl, rfl⟩
theorem fX10_213 : FLR RX10 213 7 3 3 := ⟨⟨RX7, TX7, 13, cf7, by decide, uw_in tb_98 rfl⟩, rfl, rfl⟩
theorem fX7_21 : FLR RX7 21 7 4 4 := ⟨⟨RX7, TX7, 13, cf7, by decide, uw_in tb_99 rfl⟩, rfl, rfl⟩
theorem fX7_24 : FLR RX7 24 7 5 5 := ⟨⟨RX7, TX7, 13, cf7, by decide, uw_in tb_100 rfl⟩, rfl, rfl⟩
theorem fX7_27 : FLR RX7 27 7 6 6 := ⟨⟨RX7, TX7, 13, cf7, by decide, uw_in tb_101 rfl⟩, rfl, rfl⟩
theorem fX7_30 : FLR RX7 30 7 7 7 := ⟨⟨RX7, TX7, 13, cf7, by decide, uw_in tb_102 rfl⟩, rfl, rfl⟩
theorem fX7_33 : FLR RX7 33 7 8 8 := ⟨⟨RX7, TX7, 13, cf7, by decide, uw_in tb_103 rfl⟩, rfl, rfl⟩
theorem fX7_36 : FLR RX7 36 7 9 9 := ⟨⟨RX7, TX7, 13, cf7, by decide, uw_in tb_104 rfl⟩, rfl, rfl⟩
theorem fX7_50 : FLI RX7 50 7 10 10 := ⟨⟨RX7, TX7, 13, cf7, by decide, uw_in tb_105 rfl, rfl⟩, rfl, rfl⟩
theorem fX10_80 : FLI RX10 80 7 10 10 := ⟨⟨RX7, TX7, 13, cf7, by decide, uw_in tb_106 rfl, rfl⟩, rfl, rfl⟩
theorem fX7_54 : FLI RX7 54 7 11 11 := ⟨⟨RX7, TX7, 13, cf7, by decide, uw_in tb_107 rfl, rfl⟩, rfl, rfl⟩
theorem fX10_210 : FLI RX10 210 7 11 11 := ⟨⟨RX7, TX7, 13, cf7, by decide, uw_in tb_108 rfl, rfl⟩, rfl, rfl⟩
theorem fX7_57 : FLI RX7 57 7 12 12 := ⟨⟨RX7, TX7, 13, cf7, by decide, uw_in tb_109 rfl, rfl⟩, rfl, rfl⟩
theorem fX10_351 : FLI RX10 351 7 12 12 := ⟨⟨RX7, TX7, 13, cf7, by decide, uw_in tb_110 rfl, rfl⟩, rfl, rfl⟩
theorem fX4_9 : FLR RX4 9 4 0 0 := ⟨⟨RX4, TX4, 4, cf4, by decide, uw_in tb_151 rfl⟩, rfl, rfl⟩
theorem fX1_89 : FLR RX1 89 4 0 0 := ⟨⟨RX4, TX4, 4, cf4, by decide, uw_in tb_152 rfl⟩, rfl, rfl⟩
theorem fX3_83 : FLR RX3 83 4 0 0 := ⟨⟨RX4, TX4, 4, cf4, by decide, uw_in tb_153 rfl⟩, rfl, rfl⟩
theorem fX4_15 : FLR RX4 15 4 1 1 := ⟨⟨RX4, TX4, 4, cf4, by decide, uw_in tb_154 rfl⟩, rfl, rfl⟩
theorem fX4_18 : FLR RX4 18 4 2 2 := ⟨⟨RX4, TX4, 4, cf4, by decide, uw_in tb_155 rfl⟩, rfl, rfl⟩
theorem fX1_54 : FLR RX1 54 4 2 2 := ⟨⟨RX4, TX4, 4, cf4, by decide, uw_in tb_156 rfl⟩, rfl, rfl⟩
theorem fX4_21 : FLI RX4 21 4 3 3 := ⟨⟨RX4, TX4, 4, cf4, by decide, uw_in tb_157 rfl, rfl⟩, rfl, rfl⟩
theorem fX1_61 : FLI RX1 61 4 3 3 := ⟨⟨RX4, TX4, 4, cf4, by decide, uw_in tb_158 rfl, rfl⟩, rfl, rfl⟩
theorem fX3_66 : FLI RX3 66 4 3 3 := ⟨⟨RX4, TX4, 4, cf4, by decide, uw_in tb_159 rfl, rfl⟩, rfl, rfl⟩
theorem fX3_9 : FLR RX3 9 3 0 0 := ⟨⟨RX3, TX3, 6, cf3, by decide, uw_in tb_169 rfl⟩, rfl, rfl⟩
theorem fX10_232 : FLR RX10 232 3 0 0 := ⟨⟨RX3, TX3, 6, cf3, by decide, uw_in tb_170 rfl⟩, rfl, rfl⟩
theorem fX3_39 : FLI RX3 39 3 1 1 := ⟨⟨RX3, TX3, 6, cf3, by decide, uw_in tb_171 rfl, rfl⟩, rfl, rfl⟩
theorem fX10_229 : FLI RX10 229 3 1 1 := ⟨⟨RX3, TX3, 6, cf3, by decide, uw_in tb_172 rfl, rfl⟩, rfl, rfl⟩
theorem fX3_18 : FLR RX3 18 3 2 2 := ⟨⟨RX3, TX3, 6, cf3, by decide, uw_in tb_173 rfl⟩, rfl, rfl⟩
theorem fX3_22 : FLR RX3 22 3 3 3 := ⟨⟨RX3, TX3, 6, cf3, by decide, uw_in tb_174 rfl⟩, rfl, rfl⟩
theorem fX3_25 : FLI RX3 25 3 4 4 := ⟨⟨RX3, TX3, 6, cf3, by decide, uw_in tb_175 rfl, rfl⟩, rfl, rfl⟩
theorem fX3_36 : FLI RX3 36 3 5 5 := ⟨⟨RX3, TX3, 6, cf3, by decide, uw_in tb_176 rfl, rfl⟩, rfl, rfl⟩
theorem fX1_9 : FLR RX1 9 1 0 0 := ⟨⟨RX1, TX1, 6, cf1, by decide, uw_in tb_198 rfl⟩, rfl, rfl⟩
theorem fX10_307 : FLR RX10 307 1 0 0 := ⟨⟨RX1, TX1, 6, cf1, by decide, uw_in tb_199 rfl⟩, rfl, rfl⟩
theorem fX1_40 : FLI RX1 40 1 1 1 := ⟨⟨RX1, TX1, 6, cf1, by decide, uw_in tb_200 rfl, rfl⟩, rfl, rfl⟩
theorem fX10_300 : FLI RX10 300 1 1 1 := ⟨⟨RX1, TX1, 6, cf1, by decide, uw_in tb_201 rfl, rfl⟩, rfl, rfl⟩
theorem fX1_29 : FLR RX1 29 1 2 2 := ⟨⟨RX1, TX1, 6, cf1, by decide, uw_in tb_202 rfl⟩, rfl, rfl⟩
theorem fX1_18 : FLR RX1 18 1 3 3 := ⟨⟨RX1, TX1, 6, cf1, by decide, uw_in tb_203 rfl⟩, rfl, rfl⟩
theorem fX1_22 : FLR RX1 22 1 4 4 := ⟨⟨RX1, TX1, 6, cf1, by decide, uw_in tb_204 rfl⟩, rfl, rfl⟩
theorem fX1_25 : FLI RX1 25 1 5 5 := ⟨⟨RX1, TX1, 6, cf1, by decide, uw_in tb_205 rfl, rfl⟩, rfl, rfl⟩
theorem fX8_15 : FLI RX8 15 8 0 0 := ⟨⟨RX8, TX8, 8, cf8, by decide, uw_in tb_226 rfl, rfl⟩, rfl, rfl⟩
theorem fX10_151 : FLI RX10 151 8 0 0 := ⟨⟨RX8, TX8, 8, cf8, by decide, uw_in tb_227 rfl, rfl⟩, rfl, rfl⟩
theorem fX8_22 : FLI RX8 22 8 1 1 := ⟨⟨RX8, TX8, 8, cf8, by decide, uw_in tb_228 rfl, rfl⟩, rfl, rfl⟩
theorem fX10_165 : FLI RX10 165 8 1 1 := ⟨⟨RX8, TX8, 8, cf8, by decide, uw_in tb_229 rfl, rfl⟩, rfl, rfl⟩
theorem fX8_25 : FLI RX8 25 8 2 2 := ⟨⟨RX8, TX8, 8, cf8, by decide, uw_in tb_230 rfl, rfl⟩, rfl, rfl⟩
theorem fX10_171 : FLI RX10 171 8 2 2 := ⟨⟨RX8, TX8, 8, cf8, by decide, uw_in tb_231 rfl, rfl⟩, rfl, rfl⟩
theorem fX8_9 : FLR RX8 9 8 3 3 := ⟨⟨RX8, TX8, 8, cf8, by decide, uw_in tb_232 rfl⟩, rfl, rfl⟩
theorem fX8_19 : FLI RX8 19 8 4 4 := ⟨⟨RX8, TX8, 8, cf8, by decide, uw_in tb_233 rfl, rfl⟩, rfl, rfl⟩
theorem fX8_44 : FLI RX8 44 8 5 5 := ⟨⟨RX8, TX8, 8, cf8, by decide, uw_in tb_234 rfl, rfl⟩, rfl, rfl⟩
theorem fX8_78 : FLI RX8 78 8 6 6 := ⟨⟨RX8, TX8, 8, cf8, by decide, uw_in tb_235 rfl, rfl⟩, rfl, rfl⟩
theorem fX8_71 : FLI RX8 71 8 7 7 := ⟨⟨RX8, TX8, 8, cf8, by decide, uw_in tb_236 rfl, rfl⟩, rfl, rfl⟩
theorem fX2_9 : FLI RX2 9 2 0 0 := ⟨⟨RX2, TX2, 5, cf2, by decide, uw_in tb_269 rfl, rfl⟩, rfl, rfl⟩
theorem fX2_13 : FLJ RX2 13 2 1 1 := ⟨⟨RX2, TX2, 5, cf2, by decide, uw_in tb_270 rfl, rfl⟩, rfl, rfl⟩
theorem fX10_255 : FLJ RX10 255 2 1 1 := ⟨⟨RX2, TX2, 5, cf2, by decide, uw_in tb_271 rfl, rfl⟩, rfl, rfl⟩
theorem fX2_17 : FLJ RX2 17 2 2 2 := ⟨⟨RX2, TX2, 5, cf2, by decide, uw_in tb_272 rfl, rfl⟩, rfl, rfl⟩
theorem fX10_260 : FLJ RX10 260 2 2 2 := ⟨⟨RX2, TX2, 5, cf2, by decide, uw_in tb_273 rfl, rfl⟩, rfl, rfl⟩
theorem fX2_20 : FLI RX2 20 2 3 3 := ⟨⟨RX2, TX2, 5, cf2, by decide, uw_in tb_274 rfl, rfl⟩, rfl, rfl⟩
theorem fX10_267 : FLI RX10 267 2 3 3 := ⟨⟨RX2, TX2, 5, cf2, by decide, uw_in tb_275 rfl, rfl⟩, rfl, rfl⟩
theorem fX2_23 : FLI RX2 23 2 4 4 := ⟨⟨RX2, TX2, 5, cf2, by decide, uw_in tb_276 rfl, rfl⟩, rfl, rfl⟩
theorem fX10_270 : FLI RX10 270 2 4 4 := ⟨⟨RX2, TX2, 5, cf2, by decide, uw_in tb_277 rfl, rfl⟩, rfl, rfl⟩
theorem fX9_16 : FLI RX9 16 9 0 0 := ⟨⟨RX9, TX9, 4, cf9, by decide, uw_in tb_296 rfl, rfl⟩, rfl, rfl⟩
theorem fX10_331 : FLI RX10 331 9 0 0 := ⟨⟨RX9, TX9, 4, cf9, by decide, uw_in tb_297 rfl, rfl⟩, rfl, rfl⟩
theorem fX9_7 : FLI RX9 7 9 1 1 := ⟨⟨RX9, TX9, 4, cf9, by decide, uw_in tb_298 rfl, rfl⟩, rfl, rfl⟩
theorem fX10_333 : FLI RX10 333 9 1 1 := ⟨⟨RX9, TX9, 4, cf9, by decide, uw_in tb_299 rfl, rfl⟩, rfl, rfl⟩
theorem fX9_19 : FLI RX9 19 9 2 2 := ⟨⟨RX9, TX9, 4, cf9, by decide, uw_in tb_300 rfl, rfl⟩, rfl, rfl⟩
theorem fX10_336 : FLI RX10 336 9 2 2 := ⟨⟨RX9, TX9, 4, cf9, by decide, uw_in tb_301 rfl, rfl⟩, rfl, rfl⟩
theorem fX9_13 : FLI RX9 13 9 3 3 := ⟨⟨RX9, TX9, 4, cf9, by decide, uw_in tb_302 rfl, rfl⟩, rfl, rfl⟩
theorem fX10_339 : FLI RX10 339 9 3 3 := ⟨⟨RX9, TX9, 4, cf9, by decide, uw_in tb_303 rfl, rfl⟩, rfl, rfl⟩
theorem fX5_11 : FLR RX5 11 5 0 0 := ⟨⟨RX5, TX5, 11, cf5, by decide, uw_in tb_313 rfl⟩, rfl, rfl⟩
theorem fX10_184 : FLR RX10 184 5 0 0 := ⟨⟨RX5, TX5, 11, cf5, by decide, uw_in tb_314 rfl⟩, rfl, rfl⟩
theorem fX7_138 : FLR RX7 138 5 0 0 := ⟨⟨RX5, TX5, 11, cf5, by decide, uw_in tb_315 rfl⟩, rfl, rfl⟩
theorem fX5_17 : FLR RX5 17 5 1 1 := ⟨⟨RX5, TX5, 11, cf5, by decide, uw_in tb_316 rfl⟩, rfl, rfl⟩
theorem fX10_187 : FLR RX10 187 5 1 1 := ⟨⟨RX5, TX5, 11, cf5, by decide, uw_in tb_317 rfl⟩, rfl, rfl⟩
theorem fX7_141 : FLR RX7 141 5 1 1 := ⟨⟨RX5, TX5, 11, cf5, by decide, uw_in tb_318 rfl⟩, rfl, rfl⟩
theorem fX5_21 : FLR RX5 21 5 2 2 := ⟨⟨RX5, TX5, 11, cf5, by decide, uw_in tb_319 rfl⟩, rfl, rfl⟩
theorem fX7_122 : FLR RX7 122 5 2 2 := ⟨⟨RX5, TX5, 11, cf5, by decide, uw_in tb_320 rfl⟩, rfl, rfl⟩
theorem fX5_24 : FLR RX5 24 5 3 3 := ⟨⟨RX5, TX5, 11, cf5, by decide, uw_in tb_321 rfl⟩, rfl, rfl⟩
theorem fX7_132 : FLR RX7 132 5 3 3 := ⟨⟨RX5, TX5, 11, cf5, by decide, uw_in tb_322 rfl⟩, rfl, rfl⟩
theorem fX5_27 : FLR RX5 27 5 4 4 := ⟨⟨RX5, TX5, 11, cf5, by decide, uw_in tb_323 rfl⟩, rfl, rfl⟩
theorem fX7_129 : FLR RX7 129 5 4 4 := ⟨⟨RX5, TX5, 11, cf5, by decide, uw_in tb_324 rfl⟩, rfl, rfl⟩
theorem fX5_33 : FLR RX5 33 5 5 5 := ⟨⟨RX5, TX5, 11, cf5, by decide, uw_in tb_325 rfl⟩, rfl, rfl⟩
theorem fX10_390 : FLR RX10 390 5 5 5 := ⟨⟨RX5, TX5, 11, cf5, by decide, uw_in tb_326 rfl⟩, rfl, rfl⟩
theorem fX5_37 : FLR RX5 37 5 6 6 := ⟨⟨RX5, TX5, 11, cf5, by decide, uw_in tb_327 rfl⟩, rfl, rfl⟩
theorem fX10_272 : FLR RX10 272 5 6 6 := ⟨⟨RX5, TX5, 11, cf5, by decide, uw_in tb_328 rfl⟩, rfl, rfl⟩
theorem fX5_42 : FLR RX5 42 5 7 7 := ⟨⟨RX5, TX5, 11, cf5, by decide, uw_in tb_329 rfl⟩, rfl, rfl⟩
theorem fX10_318 : FLR RX10 318 5 7 7 := ⟨⟨RX5, TX5, 11, cf5, by decide, uw_in tb_330 rfl⟩, rfl, rfl⟩
theorem fX5_47 : FLI RX5 47 5 8 8 := ⟨⟨RX5, TX5, 11, cf5, by decide, uw_in tb_331 rfl, rfl⟩, rfl, rfl⟩
theorem fX10_177 : FLI RX10 177 5 8 8 := ⟨⟨RX5, TX5, 11, cf5, by decide, uw_in tb_332 rfl, rfl⟩, rfl, rfl⟩
theorem fX7_135 : FLI RX7 135 5 8 8 := ⟨⟨RX5, TX5, 11, cf5, by decide, uw_in tb_333 rfl, rfl⟩, rfl, rfl⟩
theorem fX5_51 : FLI RX5 51 5 9 9 := ⟨⟨RX5, TX5, 11, cf5, by decide, uw_in tb_334 rfl, rfl⟩, rfl, rfl⟩
theorem fX8_68 : FLI RX8 68 5 9 9 := ⟨⟨RX5, TX5, 11, cf5, by decide, uw_in tb_335 rfl, rfl⟩, rfl, rfl⟩
theorem fX10_191 : FLI RX10 191 5 9 9 := ⟨⟨RX5, TX5, 11, cf5, by decide, uw_in tb_336 rfl, rfl⟩, rfl, rfl⟩
theorem fX7_119 : FLI RX7 119 5 9 9 := ⟨⟨RX5, TX5, 11, cf5, by decide, uw_in tb_337 rfl, rfl⟩, rfl, rfl⟩
theorem fX5_54 : FLZ RX5 54 5 10 10 := ⟨⟨RX5, TX5, 11, cf5, by decide, uw_in tb_338 rfl, rfl⟩, rfl, rfl⟩
theorem fX8_50 : FLZ RX8 50 5 10 10 := ⟨⟨RX5, TX5, 11, cf5, by decide, uw_in tb_339 rfl, rfl⟩, rfl, rfl⟩
theorem fX7_99 : FLZ RX7 99 5 10 10 := ⟨⟨RX5, TX5, 11, cf5, by decide, uw_in tb_340 rfl, rfl⟩, rfl, rfl⟩
theorem fX10_194 : FLZ RX10 194 5 10 10 := ⟨⟨RX5, TX5, 11, cf5, by decide, uw_in tb_341 rfl, rfl⟩, rfl, rfl⟩
theorem fX6_9 : FLR RX6 9 6 0 0 := ⟨⟨RX6, TX6, 3, cf6, by decide, uw_in tb_370 rfl⟩, rfl, rfl⟩
theorem fX10_375 : FLR RX10 375 6 0 0 := ⟨⟨RX6, TX6, 3, cf6, by decide, uw_in tb_371 rfl⟩, rfl, rfl⟩
theorem fX6_15 : FLI RX6 15 6 1 1 := ⟨⟨RX6, TX6, 3, cf6, by decide, uw_in tb_372 rfl, rfl⟩, rfl, rfl⟩
theorem fX10_372 : FLI RX10 372 6 1 1 := ⟨⟨RX6, TX6, 3, cf6, by decide, uw_in tb_373 rfl, rfl⟩, rfl, rfl⟩
theorem fX6_19 : FLI RX6 19 6 2 2 := ⟨⟨RX6, TX6, 3, cf6, by decide, uw_in tb_374 rfl, rfl⟩, rfl, rfl⟩
theorem fX10_385 : FLI RX10 385 6 2 2 := ⟨⟨RX6, TX6, 3, cf6, by decide, uw_in tb_375 rfl, rfl⟩, rfl, rfl⟩
theorem fX10_10 : FLR RX10 10 10 0 0 := ⟨⟨RX10, TX10, 14, cf10, by decide, uw_in tb_383 rfl⟩, rfl, rfl⟩
theorem fX10_21 : FLR RX10 21 10 1 1 := ⟨⟨RX10, TX10, 14, cf10, by decide, uw_in tb_384 rfl⟩, rfl, rfl⟩
theorem fX10_25 : FLR RX10 25 10 2 2 := ⟨⟨RX10, TX10, 14, cf10, by decide, uw_in tb_385 rfl⟩, rfl, rfl⟩
theorem fX10_28 : FLR RX10 28 10 3 3 := ⟨⟨RX10, TX10, 14, cf10, by decide, uw_in tb_386 rfl⟩, rfl, rfl⟩
theorem fX10_31 : FLR RX10 31 10 4 4 := ⟨⟨RX10, TX10, 14, cf10, by decide, uw_in tb_387 rfl⟩, rfl, rfl⟩
theorem fX10_37 : FLR RX10 37 10 5 5 := ⟨⟨RX10, TX10, 14, cf10, by decide, uw_in tb_388 rfl⟩, rfl, rfl⟩
theorem fX10_44 : FLR RX10 44 10 6 6 := ⟨⟨RX10, TX10, 14, cf10, by decide, uw_in tb_389 rfl⟩, rfl, rfl⟩
theorem fX10_51 : FLR RX10 51 10 7 7 := ⟨⟨RX10, TX10, 14, cf10, by decide, uw_in tb_390 rfl⟩, rfl, rfl⟩
theorem fX10_57 : FLR RX10 57 10 8 8 := ⟨⟨RX10, TX10, 14, cf10, by decide, uw_in tb_391 rfl⟩, rfl, rfl⟩
theorem fX10_63 : FLR RX10 63 10 9 9 := ⟨⟨RX10, TX10, 14, cf10, by decide, uw_in tb_392 rfl⟩, rfl, rfl⟩
theorem fX10_67 : FLR RX10 67 10 10 10 := ⟨⟨RX10, TX10, 14, cf10, by decide, uw_in tb_393 rfl⟩, rfl, rfl⟩
theorem fX10_71 : FLR RX10 71 10 11 11 := ⟨⟨RX10, TX10, 14, cf10, by decide, uw_in tb_394 rfl⟩, rfl, rfl⟩
theorem fX10_158 : FLI RX10 158 10 12 12 := ⟨⟨RX10, TX10, 14, cf10, by decide, uw_in tb_395 rfl, rfl⟩, rfl, rfl⟩
theorem fX10_168 : FLI RX10 168 10 13 13 := ⟨⟨RX10, TX10, 14, cf10, by decide, uw_in tb_396 rfl, rfl⟩, rfl, rfl⟩
theorem fX11_122 : FLI RX11 122 11 0 0 := ⟨⟨RX11, TX11, 59, cf11, by decide, uw_in tb_1081 rfl, rfl⟩, rfl, rfl⟩
theorem fX11_7 : FLR RX11 7 11 1 1 := ⟨⟨RX11, TX11, 59, cf11, by decide, uw_in tb_1082 rfl⟩, rfl, rfl⟩
theorem fX11_13 : FLR RX11 13 11 2 2 := ⟨⟨RX11, TX11, 59, cf11, by decide, uw_in tb_1083 rfl⟩, rfl, rfl⟩
theorem fX11_16 : FLR RX11 16 11 3 3 := ⟨⟨RX11, TX11, 59, cf11, by decide, uw_in tb_1084 rfl⟩, rfl, rfl⟩
theorem fX11_130 : FLI RX11 130 11 4 4 := ⟨⟨RX11, TX11, 59, cf11, by decide, uw_in tb_1085 rfl, rfl⟩, rfl, rfl⟩
theorem fX11_19 : FLR RX11 19 11 5 5 := ⟨⟨RX11, TX11, 59, cf11, by decide, uw_in tb_1086 rfl⟩, rfl, rfl⟩
theorem fX11_22 : FLR RX11 22 11 6 6 := ⟨⟨RX11, TX11, 59, cf11, by decide, uw_in tb_1087 rfl⟩, rfl, rfl⟩
theorem fX11_25 : FLR RX11 25 11 7 7 := ⟨⟨RX11, TX11, 59, cf11, by decide, uw_in tb_1088 rfl⟩, rfl, rfl⟩
theorem fX11_161 : FLI RX11 161 11 8 8 := ⟨⟨RX11, TX11, 59, cf11, by decide, uw_in tb_1089 rfl, rfl⟩, rfl, rfl⟩
theorem fX11_226 : FLI RX11 226 11 9 9 := ⟨⟨RX11, TX11, 59, cf11, by decide, uw_in tb_1090 rfl, rfl⟩, rfl, rfl⟩
theorem fX11_164 : FLI RX11 164 11 10 10 := ⟨⟨RX11, TX11, 59, cf11, by decide, uw_in tb_1091 rfl, rfl⟩, rfl, rfl⟩
theorem fX11_170 : FLI RX11 170 11 11 11 := ⟨⟨RX11, TX11, 59, cf11, by decide, uw_in tb_1092 rfl, rfl⟩, rfl, rfl⟩
theorem fX11_176 : FLI RX11 176 11 12 12 := ⟨⟨RX11, TX11, 59, cf11, by decide, uw_in tb_1093 rfl, rfl⟩, rfl, rfl⟩
theorem fX11_167 : FLI RX11 167 11 13 13 := ⟨⟨RX11, TX11, 59, cf11, by decide, uw_in tb_1094 rfl, rfl⟩, rfl, rfl⟩
theorem fX11_182 : FLI RX11 182 11 14 14 := ⟨⟨RX11, TX11, 59, cf11, by decide, uw_in tb_1095 rfl, rfl⟩, rfl, rfl⟩
theorem fX11_179 : FLI RX11 179 11 15 15 := ⟨⟨RX11, TX11, 59, cf11, by decide, uw_in tb_1096 rfl, rfl⟩, rfl, rfl⟩
theorem fX11_211 : FLI RX11 211 11 16 16 := ⟨⟨RX11, TX11, 59, cf11, by decide, uw_in tb_1097 rfl, rfl⟩, rfl, rfl⟩
theorem fX11_28 : FLR RX11 28 11 17 17 := ⟨⟨RX11, TX11, 59, cf11, by decide, uw_in tb_1098 rfl⟩, rfl, rfl⟩
theorem fX11_31 : FLR RX11 31 11 18 18 := ⟨⟨RX11, TX11, 59, cf11, by decide, uw_in tb_1099 rfl⟩, rfl, rfl⟩
theorem fX11_34 : FLR RX11 34 11 19 19 := ⟨⟨RX11, TX11, 59, cf11, by decide, uw_in tb_1100 rfl⟩, rfl, rfl⟩
theorem fX11_37 : FLR RX11 37 11 20 20 := ⟨⟨RX11, TX11, 59, cf11, by decide, uw_in tb_1101 rfl⟩, rfl, rfl⟩
theorem fX11_40 : FLR RX11 40 11 21 21 := ⟨⟨RX11, TX11, 59, cf11, by decide, uw_in tb_1102 rfl⟩, rfl, rfl⟩
theorem fX11_43 : FLR RX11 43 11 22 22 := ⟨⟨RX11, TX11, 59, cf11, by decide, uw_in tb_1103 rfl⟩, rfl, rfl⟩
theorem fX11_46 : FLR RX11 46 11 23 23 := ⟨⟨RX11, TX11, 59, cf11, by decide, uw_in tb_1104 rfl⟩, rfl, rfl⟩
theorem fX11_49 : FLR RX11 49 11 24 24 := ⟨⟨RX11, TX11, 59, cf11, by decide, uw_in tb_1105 rfl⟩, rfl, rfl⟩
theorem fX11_52 : FLR RX11 52 11 25 25 := ⟨⟨RX11, TX11, 59, cf11, by decide, uw_in tb_1106 rfl⟩, rfl, rfl⟩
theorem fX11_240 : FLI RX11 240 11 26 26 := ⟨⟨RX11, TX11, 59, cf11, by decide, uw_in tb_1107 rfl, rfl⟩, rfl, rfl⟩
theorem fX11_243 : FLI RX11 243 11 27 27 := ⟨⟨RX11, TX11, 59, cf11, by decide, uw_in tb_1108 rfl, rfl⟩, rfl, rfl⟩
theorem fX11_55 : FLR RX11 55 11 28 28 := ⟨⟨RX11, TX11, 59, cf11, by decide, uw_in tb_1109 rfl⟩, rfl, rfl⟩
theorem fX11_58 : FLR RX11 58 11 29 29 := ⟨⟨RX11, TX11, 59, cf11, by decide, uw_in tb_1110 rfl⟩, rfl, rfl⟩
theorem fX11_61 : FLR RX11 61 11 30 30 := ⟨⟨RX11, TX11, 59, cf11, by decide, uw_in tb_1111 rfl⟩, rfl, rfl⟩
theorem fX11_64 : FLR RX11 64 11 31 31 := ⟨⟨RX11, TX11, 59, cf11, by decide, uw_in tb_1112 rfl⟩, rfl, rfl⟩
theorem fX11_67 : FLR RX11 67 11 32 32 := ⟨⟨RX11, TX11, 59, cf11, by decide, uw_in tb_1113 rfl⟩, rfl, rfl⟩
theorem fX11_70 : FLR RX11 70 11 33 33 := ⟨⟨RX11, TX11, 59, cf11, by decide, uw_in tb_1114 rfl⟩, rfl, rfl⟩
theorem fX11_73 : FLR RX11 73 11 34 34 := ⟨⟨RX11, TX11, 59, cf11, by decide, uw_in tb_1115 rfl⟩, rfl, rfl⟩
theorem fX11_234 : FLI RX11 234 11 35 35 := ⟨⟨RX11, TX11, 59, cf11, by decide, uw_in tb_1116 rfl, rfl⟩, rfl, rfl⟩
theorem fX11_237 : FLI RX11 237 11 36 36 := ⟨⟨RX11, TX11, 59, cf11, by decide, uw_in tb_1117 rfl, rfl⟩, rfl, rfl⟩
theorem fX11_76 : FLR RX11 76 11 37 37 := ⟨⟨RX11, TX11, 59, cf11, by decide, uw_in tb_1118 rfl⟩, rfl, rfl⟩
theorem fX11_79 : FLR RX11 79 11 38 38 := ⟨⟨RX11, TX11, 59, cf11, by decide, uw_in tb_1119 rfl⟩, rfl, rfl⟩
theorem fX11_82 : FLR RX11 82 11 39 39 := ⟨⟨RX11, TX11, 59, cf11, by decide, uw_in tb_1120 rfl⟩, rfl, rfl⟩
theorem fX11_288 : FLI RX11 288 11 40 40 := ⟨⟨RX11, TX11, 59, cf11, by decide, uw_in tb_1121 rfl, rfl⟩, rfl, rfl⟩
theorem fX11_85 : FLR RX11 85 11 41 41 := ⟨⟨RX11, TX11, 59, cf11, by decide, uw_in tb_1122 rfl⟩, rfl, rfl⟩
theorem fX11_88 : FLR RX11 88 11 42 42 := ⟨⟨RX11, TX11, 59, cf11, by decide, uw_in tb_1123 rfl⟩, rfl, rfl⟩
theorem fX11_324 : FLJ RX11 324 11 43 43 := ⟨⟨RX11, TX11, 59, cf11, by decide, uw_in tb_1124 rfl, rfl⟩, rfl, rfl⟩
theorem fX11_328 : FLJ RX11 328 11 44 44 := ⟨⟨RX11, TX11, 59, cf11, by decide, uw_in tb_1125 rfl, rfl⟩, rfl, rfl⟩
theorem fX11_331 : FLI RX11 331 11 45 45 := ⟨⟨RX11, TX11, 59, cf11, by decide, uw_in tb_1126 rfl, rfl⟩, rfl, rfl⟩
theorem fX11_334 : FLI RX11 334 11 46 46 := ⟨⟨RX11, TX11, 59, cf11, by decide, uw_in tb_1127 rfl, rfl⟩, rfl, rfl⟩
theorem fX11_91 : FLR RX11 91 11 47 47 := ⟨⟨RX11, TX11, 59, cf11, by decide, uw_in tb_1128 rfl⟩, rfl, rfl⟩
theorem fX11_95 : FLR RX11 95 11 48 48 := ⟨⟨RX11, TX11, 59, cf11, by decide, uw_in tb_1129 rfl⟩, rfl, rfl⟩
theorem fX11_98 : FLR RX11 98 11 49 49 := ⟨⟨RX11, TX11, 59, cf11, by decide, uw_in tb_1130 rfl⟩, rfl, rfl⟩
theorem fX11_101 : FLR RX11 101 11 50 50 := ⟨⟨RX11, TX11, 59, cf11, by decide, uw_in tb_1131 rfl⟩, rfl, rfl⟩
theorem fX11_104 : FLR RX11 104 11 51 51 := ⟨⟨RX11, TX11, 59, cf11, by decide, uw_in tb_1132 rfl⟩, rfl, rfl⟩
theorem fX11_107 : FLR RX11 107 11 52 52 := ⟨⟨RX11, TX11, 59, cf11, by decide, uw_in tb_1133 rfl⟩, rfl, rfl⟩
theorem fX11_370 : FLI RX11 370 11 53 53 := ⟨⟨RX11, TX11, 59, cf11, by decide, uw_in tb_1134 rfl, rfl⟩, rfl, rfl⟩
theorem fX11_367 : FLI RX11 367 11 54 54 := ⟨⟨RX11, TX11, 59, cf11, by decide, uw_in tb_1135 rfl, rfl⟩, rfl, rfl⟩
theorem fX11_110 : FLR RX11 110 11 55 55 := ⟨⟨RX11, TX11, 59, cf11, by decide, uw_in tb_1136 rfl⟩, rfl, rfl⟩
theorem fX11_113 : FLR RX11 113 11 56 56 := ⟨⟨RX11, TX11, 59, cf11, by decide, uw_in tb_1137 rfl⟩, rfl, rfl⟩
theorem fX11_116 : FLR RX11 116 11 57 57 := ⟨⟨RX11, TX11, 59, cf11, by decide, uw_in tb_1138 rfl⟩, rfl, rfl⟩
theorem fX11_119 : FLR RX11 119 11 58 58 := ⟨⟨RX11, TX11, 59, cf11, by decide, uw_in tb_1139 rfl⟩, rfl, rfl⟩
theorem mwX0_init : MW yX0_init cX0_init 1 none 0 := ⟨uw_in tb_33 rfl, uw_in tb_2 rfl, by decide +kernel⟩
theorem miX0_init : Cond.instanceMethod yX0_init ∈ UW := uw_in tb_32 rfl
theorem mwX0_addPost : MW yX0_addPost cX0_addPost 4 (some .int) 3 := ⟨uw_in tb_440 rfl, uw_in tb_2 rfl, by decide +kernel⟩
theorem mvX0_addPost : MV yX0_addPost 0 := ⟨⟨RX0, TX0, 8, rfl, rfl⟩, uw_in tb_438 rfl, uw_in tb_439 rfl⟩
theorem mwX0_addGuest : MW yX0_addGuest cX0_addGuest 1 (some .int) 0 := ⟨uw_in tb_448 rfl, uw_in tb_2 rfl, by decide +kernel⟩
theorem mvX0_addGuest : MV yX0_addGuest 0 := ⟨⟨RX0, TX0, 8, rfl, rfl⟩, uw_in tb_446 rfl, uw_in tb_447 rfl⟩
theorem mwX0_worthAt : MW yX0_worthAt cX0_worthAt 3 (some .int) 2 := ⟨uw_in tb_468 rfl, uw_in tb_2 rfl, by decide +kernel⟩
theorem mvX0_worthAt : MV yX0_worthAt 0 := ⟨⟨RX0, TX0, 8, rfl, rfl⟩, uw_in tb_466 rfl, uw_in tb_467 rfl⟩
theorem mwX0_putWorth : MW yX0_putWorth cX0_putWorth 4 none 3 := ⟨uw_in tb_472 rfl, uw_in tb_2 rfl, by decide +kernel⟩
theorem mvX0_putWorth : MV yX0_putWorth 0 := ⟨⟨RX0, TX0, 8, rfl, rfl⟩, uw_in tb_470 rfl, uw_in tb_471 rfl⟩
theorem mwX0_putChance : MW yX0_putChance cX0_putChance 3 none 2 := ⟨uw_in tb_480 rfl, uw_in tb_2 rfl, by decide +kernel⟩
theorem mvX0_putChance : MV yX0_putChance 0 := ⟨⟨RX0, TX0, 8, rfl, rfl⟩, uw_in tb_478 rfl, uw_in tb_479 rfl⟩
theorem mwX0_putRank : MW yX0_putRank cX0_putRank 3 none 2 := ⟨uw_in tb_488 rfl, uw_in tb_2 rfl, by decide +kernel⟩
theorem mvX0_putRank : MV yX0_putRank 0 := ⟨⟨RX0, TX0, 8, rfl, rfl⟩, uw_in tb_486 rfl, uw_in tb_487 rfl⟩
theorem mwX0_swapRanks : MW yX0_swapRanks cX0_swapRanks 4 none 2 := ⟨uw_in tb_935 rfl, uw_in tb_2 rfl, by decide +kernel⟩
theorem mvX0_swapRanks : MV yX0_swapRanks 0 := ⟨⟨RX0, TX0, 8, rfl, rfl⟩, uw_in tb_933 rfl, uw_in tb_934 rfl⟩
theorem mwX0_allRooms : MW yX0_allRooms cX0_allRooms 3 (some .int) 0 := ⟨uw_in tb_436 rfl, uw_in tb_2 rfl, by decide +kernel⟩
theorem mvX0_allRooms : MV yX0_allRooms 0 := ⟨⟨RX0, TX0, 8, rfl, rfl⟩, uw_in tb_434 rfl, uw_in tb_435 rfl⟩
theorem mwX0_linksOf : MW yX0_linksOf cX0_linksOf 4 (some .int) 1 := ⟨uw_in tb_504 rfl, uw_in tb_2 rfl, by decide +kernel⟩
theorem mvX0_linksOf : MV yX0_linksOf 0 := ⟨⟨RX0, TX0, 8, rfl, rfl⟩, uw_in tb_502 rfl, uw_in tb_503 rfl⟩
theorem mwX0_allLinks : MW yX0_allLinks cX0_allLinks 3 (some .int) 0 := ⟨uw_in tb_1073 rfl, uw_in tb_2 rfl, by decide +kernel⟩
theorem mvX0_allLinks : MV yX0_allLinks 0 := ⟨⟨RX0, TX0, 8, rfl, rfl⟩, uw_in tb_1071 rfl, uw_in tb_1072 rfl⟩
theorem mwX0_gainOver : MW yX0_gainOver cX0_gainOver 5 (some .int) 2 := ⟨uw_in tb_862 rfl, uw_in tb_2 rfl, by decide +kernel⟩
theorem mvX0_gainOver : MV yX0_gainOver 0 := ⟨⟨RX0, TX0, 8, rfl, rfl⟩, uw_in tb_860 rfl, uw_in tb_861 rfl⟩
theorem mwX0_copyOf : MW yX0_copyOf cX0_copyOf 2 none 1 := ⟨uw_in tb_920 rfl, uw_in tb_2 rfl, by decide +kernel⟩
theorem mvX0_copyOf : MV yX0_copyOf 0 := ⟨⟨RX0, TX0, 8, rfl, rfl⟩, uw_in tb_918 rfl, uw_in tb_919 rfl⟩
theorem mwX0_becomeSquare : MW yX0_becomeSquare cX0_becomeSquare 3 none 1 := ⟨uw_in tb_995 rfl, uw_in tb_2 rfl, by decide +kernel⟩
theorem mvX0_becomeSquare : MV yX0_becomeSquare 0 := ⟨⟨RX0, TX0, 8, rfl, rfl⟩, uw_in tb_993 rfl, uw_in tb_994 rfl⟩
theorem mwX0_linkByBits : MW yX0_linkByBits cX0_linkByBits 5 none 1 := ⟨uw_in tb_999 rfl, uw_in tb_2 rfl, by decide +kernel⟩
theorem mvX0_linkByBits : MV yX0_linkByBits 0 := ⟨⟨RX0, TX0, 8, rfl, rfl⟩, uw_in tb_997 rfl, uw_in tb_998 rfl⟩
theorem mwX1_init : MW yX1_init cX1_init 2 none 1 := ⟨uw_in tb_194 rfl, uw_in tb_7 rfl, by decide +kernel⟩
theorem miX1_init : Cond.instanceMethod yX1_init ∈ UW := uw_in tb_193 rfl
theorem mwX1_bringUp : MW yX1_bringUp cX1_bringUp 2 none 0 := ⟨uw_in tb_943 rfl, uw_in tb_7 rfl, by decide +kernel⟩
theorem mvX1_bringUp : MV yX1_bringUp 1 := ⟨⟨RX1, TX1, 6, rfl, rfl⟩, uw_in tb_941 rfl, uw_in tb_942 rfl⟩
theorem mwX1_fill : MW yX1_fill cX1_fill 7 none 1 := ⟨uw_in tb_948 rfl, uw_in tb_7 rfl, by decide +kernel⟩
theorem mvX1_fill : MV yX1_fill 1 := ⟨⟨RX1, TX1, 6, rfl, rfl⟩, uw_in tb_947 rfl, uw_sel (i := 29) (by decide +kernel) rfl⟩
theorem mwX1_greatestFor : MW yX1_greatestFor cX1_greatestFor 7 (some .long) 3 := ⟨uw_in tb_953 rfl, uw_in tb_7 rfl, by decide +kernel⟩
theorem mvX1_greatestFor : MV yX1_greatestFor 1 := ⟨⟨RX1, TX1, 6, rfl, rfl⟩, uw_in tb_952 rfl, uw_sel (i := 30) (by decide +kernel) rfl⟩
theorem mwX1_byPost : MW yX1_byPost cX1_byPost 5 (some .long) 4 := ⟨uw_in tb_959 rfl, uw_in tb_7 rfl, by decide +kernel⟩
theorem mvX1_byPost : MV yX1_byPost 1 := ⟨⟨RX1, TX1, 6, rfl, rfl⟩, uw_in tb_958 rfl, uw_sel (i := 31) (by decide +kernel) rfl⟩
theorem mwX1_atStart : MW yX1_atStart cX1_atStart 2 (some .long) 1 := ⟨uw_in tb_966 rfl, uw_in tb_7 rfl, by decide +kernel⟩
theorem mvX1_atStart : MV yX1_atStart 1 := ⟨⟨RX1, TX1, 6, rfl, rfl⟩, uw_in tb_964 rfl, uw_in tb_965 rfl⟩
theorem mwX1_firstPost : MW yX1_firstPost cX1_firstPost 7 (some .int) 2 := ⟨uw_in tb_974 rfl, uw_in tb_7 rfl, by decide +kernel⟩
theorem mvX1_firstPost : MV yX1_firstPost 1 := ⟨⟨RX1, TX1, 6, rfl, rfl⟩, uw_in tb_972 rfl, uw_in tb_973 rfl⟩
theorem mwX2_init : MW yX2_init cX2_init 1 none 0 := ⟨uw_in tb_267 rfl, uw_in tb_10 rfl, by decide +kernel⟩
theorem miX2_init : Cond.instanceMethod yX2_init ∈ UW := uw_in tb_266 rfl
theorem mwX2_isStale : MW yX2_isStale cX2_isStale 2 (some .boolean) 1 := ⟨uw_in tb_881 rfl, uw_in tb_10 rfl, by decide +kernel⟩
theorem mvX2_isStale : MV yX2_isStale 2 := ⟨⟨RX2, TX2, 5, rfl, rfl⟩, uw_in tb_879 rfl, uw_in tb_880 rfl⟩
theorem mwX2_start : MW yX2_start cX2_start 2 none 1 := ⟨uw_in tb_885 rfl, uw_in tb_10 rfl, by decide +kernel⟩
theorem mvX2_start : MV yX2_start 2 := ⟨⟨RX2, TX2, 5, rfl, rfl⟩, uw_in tb_883 rfl, uw_in tb_884 rfl⟩
theorem mwX2_add : MW yX2_add cX2_add 2 none 1 := ⟨uw_in tb_892 rfl, uw_in tb_10 rfl, by decide +kernel⟩
theorem mvX2_add : MV yX2_add 2 := ⟨⟨RX2, TX2, 5, rfl, rfl⟩, uw_in tb_890 rfl, uw_in tb_891 rfl⟩
theorem mwX3_init : MW yX3_init cX3_init 1 none 0 := ⟨uw_in tb_143 rfl, uw_in tb_5 rfl, by decide +kernel⟩
theorem miX3_init : Cond.instanceMethod yX3_init ∈ UW := uw_in tb_142 rfl
theorem mwX3_makeBest : MW yX3_makeBest cX3_makeBest 2 none 1 := ⟨uw_in tb_799 rfl, uw_in tb_5 rfl, by decide +kernel⟩
theorem mvX3_makeBest : MV yX3_makeBest 3 := ⟨⟨RX3, TX3, 6, rfl, rfl⟩, uw_in tb_797 rfl, uw_in tb_798 rfl⟩
theorem mwX3_make : MW yX3_make cX3_make 6 none 2 := ⟨uw_in tb_803 rfl, uw_in tb_5 rfl, by decide +kernel⟩
theorem mvX3_make : MV yX3_make 3 := ⟨⟨RX3, TX3, 6, rfl, rfl⟩, uw_in tb_801 rfl, uw_in tb_802 rfl⟩
theorem mwX3_greatest : MW yX3_greatest cX3_greatest 3 (some .int) 2 := ⟨uw_in tb_849 rfl, uw_in tb_5 rfl, by decide +kernel⟩
theorem mvX3_greatest : MV yX3_greatest 3 := ⟨⟨RX3, TX3, 6, rfl, rfl⟩, uw_in tb_847 rfl, uw_in tb_848 rfl⟩
theorem mwX3_fill : MW yX3_fill cX3_fill 6 none 3 := ⟨uw_in tb_820 rfl, uw_in tb_5 rfl, by decide +kernel⟩
theorem mvX3_fill : MV yX3_fill 3 := ⟨⟨RX3, TX3, 6, rfl, rfl⟩, uw_in tb_819 rfl, uw_sel (i := 22) (by decide +kernel) rfl⟩
theorem mwX3_greatestFrom : MW yX3_greatestFrom cX3_greatestFrom 8 (some .int) 3 := ⟨uw_in tb_824 rfl, uw_in tb_5 rfl, by decide +kernel⟩
theorem mvX3_greatestFrom : MV yX3_greatestFrom 3 := ⟨⟨RX3, TX3, 6, rfl, rfl⟩, uw_in tb_823 rfl, uw_sel (i := 23) (by decide +kernel) rfl⟩
theorem mwX3_pair : MW yX3_pair cX3_pair 8 (some .int) 4 := ⟨uw_in tb_833 rfl, uw_in tb_5 rfl, by decide +kernel⟩
theorem mvX3_pair : MV yX3_pair 3 := ⟨⟨RX3, TX3, 6, rfl, rfl⟩, uw_in tb_832 rfl, uw_sel (i := 24) (by decide +kernel) rfl⟩
theorem mwX3_leastPost : MW yX3_leastPost cX3_leastPost 7 (some .int) 3 := ⟨uw_in tb_837 rfl, uw_in tb_5 rfl, by decide +kernel⟩
theorem mvX3_leastPost : MV yX3_leastPost 3 := ⟨⟨RX3, TX3, 6, rfl, rfl⟩, uw_in tb_836 rfl, uw_sel (i := 25) (by decide +kernel) rfl⟩
theorem mwX4_init : MW yX4_init cX4_init 1 none 0 := ⟨uw_in tb_149 rfl, uw_in tb_6 rfl, by decide +kernel⟩
theorem miX4_init : Cond.instanceMethod yX4_init ∈ UW := uw_in tb_148 rfl
theorem mwX4_shape : MW yX4_shape cX4_shape 6 none 2 := ⟨uw_in tb_807 rfl, uw_in tb_6 rfl, by decide +kernel⟩
theorem mvX4_shape : MV yX4_shape 4 := ⟨⟨RX4, TX4, 4, rfl, rfl⟩, uw_in tb_805 rfl, uw_in tb_806 rfl⟩
theorem mwX4_addLayer : MW yX4_addLayer cX4_addLayer 5 none 2 := ⟨uw_in tb_811 rfl, uw_in tb_6 rfl, by decide +kernel⟩
theorem mvX4_addLayer : MV yX4_addLayer 4 := ⟨⟨RX4, TX4, 4, rfl, rfl⟩, uw_in tb_810 rfl, uw_sel (i := 21) (by decide +kernel) rfl⟩
theorem mwX4_isOpen : MW yX4_isOpen cX4_isOpen 3 (some .boolean) 2 := ⟨uw_in tb_828 rfl, uw_in tb_6 rfl, by decide +kernel⟩
theorem mvX4_isOpen : MV yX4_isOpen 4 := ⟨⟨RX4, TX4, 4, rfl, rfl⟩, uw_in tb_826 rfl, uw_in tb_827 rfl⟩
theorem mwX4_allFree : MW yX4_allFree cX4_allFree 1 (some .int) 0 := ⟨uw_in tb_815 rfl, uw_in tb_6 rfl, by decide +kernel⟩
theorem mvX4_allFree : MV yX4_allFree 4 := ⟨⟨RX4, TX4, 4, rfl, rfl⟩, uw_in tb_813 rfl, uw_in tb_814 rfl⟩
theorem mwX5_init : MW yX5_init cX5_init 2 none 0 := ⟨uw_in tb_261 rfl, uw_in tb_9 rfl, by decide +kernel⟩
theorem miX5_init : Cond.instanceMethod yX5_init ∈ UW := uw_in tb_260 rfl
theorem mwX5_clear : MW yX5_clear cX5_clear 1 none 0 := ⟨uw_in tb_529 rfl, uw_in tb_9 rfl, by decide +kernel⟩
theorem mvX5_clear : MV yX5_clear 5 := ⟨⟨RX5, TX5, 11, rfl, rfl⟩, uw_in tb_527 rfl, uw_in tb_528 rfl⟩
theorem mwX5_hasKey : MW yX5_hasKey cX5_hasKey 3 (some .boolean) 1 := ⟨uw_in tb_682 rfl, uw_in tb_9 rfl, by decide +kernel⟩
theorem mvX5_hasKey : MV yX5_hasKey 5 := ⟨⟨RX5, TX5, 11, rfl, rfl⟩, uw_in tb_680 rfl, uw_in tb_681 rfl⟩
theorem mwX5_asksRank : MW yX5_asksRank cX5_asksRank 2 (some .boolean) 0 := ⟨uw_in tb_927 rfl, uw_in tb_9 rfl, by decide +kernel⟩
theorem mvX5_asksRank : MV yX5_asksRank 5 := ⟨⟨RX5, TX5, 11, rfl, rfl⟩, uw_in tb_925 rfl, uw_in tb_926 rfl⟩
theorem mwX5_addKey : MW yX5_addKey cX5_addKey 3 none 2 := ⟨uw_in tb_686 rfl, uw_in tb_9 rfl, by decide +kernel⟩
theorem mvX5_addKey : MV yX5_addKey 5 := ⟨⟨RX5, TX5, 11, rfl, rfl⟩, uw_in tb_684 rfl, uw_in tb_685 rfl⟩
theorem mwX5_addTest : MW yX5_addTest cX5_addTest 4 none 3 := ⟨uw_in tb_694 rfl, uw_in tb_9 rfl, by decide +kernel⟩
theorem mvX5_addTest : MV yX5_addTest 5 := ⟨⟨RX5, TX5, 11, rfl, rfl⟩, uw_in tb_692 rfl, uw_in tb_693 rfl⟩
theorem mwX6_init : MW yX6_init cX6_init 1 none 0 := ⟨uw_in tb_368 rfl, uw_in tb_12 rfl, by decide +kernel⟩
theorem miX6_init : Cond.instanceMethod yX6_init ∈ UW := uw_in tb_367 rfl
theorem mwX6_isNothing : MW yX6_isNothing cX6_isNothing 1 (some .boolean) 0 := ⟨uw_in tb_1049 rfl, uw_in tb_12 rfl, by decide +kernel⟩
theorem mvX6_isNothing : MV yX6_isNothing 6 := ⟨⟨RX6, TX6, 3, rfl, rfl⟩, uw_in tb_1047 rfl, uw_in tb_1048 rfl⟩
theorem mwX6_hasCell : MW yX6_hasCell cX6_hasCell 2 (some .boolean) 1 := ⟨uw_in tb_1053 rfl, uw_in tb_12 rfl, by decide +kernel⟩
theorem mvX6_hasCell : MV yX6_hasCell 6 := ⟨⟨RX6, TX6, 3, rfl, rfl⟩, uw_in tb_1051 rfl, uw_in tb_1052 rfl⟩
theorem mwX6_renew : MW yX6_renew cX6_renew 3 none 2 := ⟨uw_in tb_1040 rfl, uw_in tb_12 rfl, by decide +kernel⟩
theorem mvX6_renew : MV yX6_renew 6 := ⟨⟨RX6, TX6, 3, rfl, rfl⟩, uw_in tb_1038 rfl, uw_in tb_1039 rfl⟩
theorem mwX6_put : MW yX6_put cX6_put 3 none 2 := ⟨uw_in tb_1057 rfl, uw_in tb_12 rfl, by decide +kernel⟩
theorem mvX6_put : MV yX6_put 6 := ⟨⟨RX6, TX6, 3, rfl, rfl⟩, uw_in tb_1055 rfl, uw_in tb_1056 rfl⟩
theorem mwX7_init : MW yX7_init cX7_init 2 none 1 := ⟨uw_in tb_87 rfl, uw_in tb_3 rfl, by decide +kernel⟩
theorem miX7_init : Cond.instanceMethod yX7_init ∈ UW := uw_in tb_86 rfl
theorem mwX7_clear : MW yX7_clear cX7_clear 1 none 0 := ⟨uw_in tb_722 rfl, uw_in tb_3 rfl, by decide +kernel⟩
theorem mvX7_clear : MV yX7_clear 7 := ⟨⟨RX7, TX7, 13, rfl, rfl⟩, uw_in tb_720 rfl, uw_in tb_721 rfl⟩
theorem mwX7_runByNumbers : MW yX7_runByNumbers cX7_runByNumbers 3 none 1 := ⟨uw_in tb_718 rfl, uw_in tb_3 rfl, by decide +kernel⟩
theorem mvX7_runByNumbers : MV yX7_runByNumbers 7 := ⟨⟨RX7, TX7, 13, rfl, rfl⟩, uw_in tb_716 rfl, uw_in tb_717 rfl⟩
theorem mwX7_hasCome : MW yX7_hasCome cX7_hasCome 2 (some .boolean) 1 := ⟨uw_in tb_464 rfl, uw_in tb_3 rfl, by decide +kernel⟩
theorem mvX7_hasCome : MV yX7_hasCome 7 := ⟨⟨RX7, TX7, 13, rfl, rfl⟩, uw_in tb_462 rfl, uw_in tb_463 rfl⟩
theorem mwX7_freeAt : MW yX7_freeAt cX7_freeAt 2 (some .int) 1 := ⟨uw_in tb_496 rfl, uw_in tb_3 rfl, by decide +kernel⟩
theorem mvX7_freeAt : MV yX7_freeAt 7 := ⟨⟨RX7, TX7, 13, rfl, rfl⟩, uw_in tb_494 rfl, uw_in tb_495 rfl⟩
theorem mwX7_heldBits : MW yX7_heldBits cX7_heldBits 4 (some .int) 1 := ⟨uw_in tb_500 rfl, uw_in tb_3 rfl, by decide +kernel⟩
theorem mvX7_heldBits : MV yX7_heldBits 7 := ⟨⟨RX7, TX7, 13, rfl, rfl⟩, uw_in tb_498 rfl, uw_in tb_499 rfl⟩
theorem mwX7_value : MW yX7_value cX7_value 3 (some .int) 0 := ⟨uw_in tb_773 rfl, uw_in tb_3 rfl, by decide +kernel⟩
theorem mvX7_value : MV yX7_value 7 := ⟨⟨RX7, TX7, 13, rfl, rfl⟩, uw_in tb_771 rfl, uw_in tb_772 rfl⟩
theorem mwX7_kept : MW yX7_kept cX7_kept 3 (some .int) 0 := ⟨uw_in tb_777 rfl, uw_in tb_3 rfl, by decide +kernel⟩
theorem mvX7_kept : MV yX7_kept 7 := ⟨⟨RX7, TX7, 13, rfl, rfl⟩, uw_in tb_775 rfl, uw_in tb_776 rfl⟩
theorem mwX7_paired : MW yX7_paired cX7_paired 3 (some .int) 0 := ⟨uw_in tb_781 rfl, uw_in tb_3 rfl, by decide +kernel⟩
theorem mvX7_paired : MV yX7_paired 7 := ⟨⟨RX7, TX7, 13, rfl, rfl⟩, uw_in tb_779 rfl, uw_in tb_780 rfl⟩
theorem mwX7_canTake : MW yX7_canTake cX7_canTake 3 (some .boolean) 2 := ⟨uw_in tb_734 rfl, uw_in tb_3 rfl, by decide +kernel⟩
theorem mvX7_canTake : MV yX7_canTake 7 := ⟨⟨RX7, TX7, 13, rfl, rfl⟩, uw_in tb_732 rfl, uw_in tb_733 rfl⟩
theorem mwX7_comeBy : MW yX7_comeBy cX7_comeBy 4 (some .int) 2 := ⟨uw_in tb_726 rfl, uw_in tb_3 rfl, by decide +kernel⟩
theorem mvX7_comeBy : MV yX7_comeBy 7 := ⟨⟨RX7, TX7, 13, rfl, rfl⟩, uw_in tb_724 rfl, uw_in tb_725 rfl⟩
theorem mwX7_choose : MW yX7_choose cX7_choose 6 (some .int) 2 := ⟨uw_in tb_730 rfl, uw_in tb_3 rfl, by decide +kernel⟩
theorem mvX7_choose : MV yX7_choose 7 := ⟨⟨RX7, TX7, 13, rfl, rfl⟩, uw_in tb_729 rfl, uw_sel (i := 12) (by decide +kernel) rfl⟩
theorem mwX7_canTakeByDrop : MW yX7_canTakeByDrop cX7_canTakeByDrop 4 (some .boolean) 2 := ⟨uw_in tb_740 rfl, uw_in tb_3 rfl, by decide +kernel⟩
theorem mvX7_canTakeByDrop : MV yX7_canTakeByDrop 7 := ⟨⟨RX7, TX7, 13, rfl, rfl⟩, uw_in tb_739 rfl, uw_sel (i := 13) (by decide +kernel) rfl⟩
theorem mwX7_weakestAt : MW yX7_weakestAt cX7_weakestAt 6 (some .int) 1 := ⟨uw_in tb_744 rfl, uw_in tb_3 rfl, by decide +kernel⟩
theorem mvX7_weakestAt : MV yX7_weakestAt 7 := ⟨⟨RX7, TX7, 13, rfl, rfl⟩, uw_in tb_743 rfl, uw_sel (i := 14) (by decide +kernel) rfl⟩
theorem mwX7_passes : MW yX7_passes cX7_passes 7 (some .boolean) 3 := ⟨uw_in tb_748 rfl, uw_in tb_3 rfl, by decide +kernel⟩
theorem mvX7_passes : MV yX7_passes 7 := ⟨⟨RX7, TX7, 13, rfl, rfl⟩, uw_in tb_747 rfl, uw_sel (i := 15) (by decide +kernel) rfl⟩
theorem mwX7_isAhead : MW yX7_isAhead cX7_isAhead 8 (some .boolean) 4 := ⟨uw_in tb_756 rfl, uw_in tb_3 rfl, by decide +kernel⟩
theorem mvX7_isAhead : MV yX7_isAhead 7 := ⟨⟨RX7, TX7, 13, rfl, rfl⟩, uw_in tb_755 rfl, uw_sel (i := 17) (by decide +kernel) rfl⟩
theorem mwX7_keyOf : MW yX7_keyOf cX7_keyOf 4 (some .int) 3 := ⟨uw_in tb_752 rfl, uw_in tb_3 rfl, by decide +kernel⟩
theorem mvX7_keyOf : MV yX7_keyOf 7 := ⟨⟨RX7, TX7, 13, rfl, rfl⟩, uw_in tb_751 rfl, uw_sel (i := 16) (by decide +kernel) rfl⟩
theorem mwX7_enter : MW yX7_enter cX7_enter 5 (some .int) 2 := ⟨uw_in tb_760 rfl, uw_in tb_3 rfl, by decide +kernel⟩
theorem mvX7_enter : MV yX7_enter 7 := ⟨⟨RX7, TX7, 13, rfl, rfl⟩, uw_in tb_758 rfl, uw_in tb_759 rfl⟩
theorem mwX7_drop : MW yX7_drop cX7_drop 3 none 2 := ⟨uw_in tb_764 rfl, uw_in tb_3 rfl, by decide +kernel⟩
theorem mvX7_drop : MV yX7_drop 7 := ⟨⟨RX7, TX7, 13, rfl, rfl⟩, uw_in tb_763 rfl, uw_sel (i := 18) (by decide +kernel) rfl⟩
theorem mwX7_goAway : MW yX7_goAway cX7_goAway 3 (some .int) 1 := ⟨uw_in tb_1021 rfl, uw_in tb_3 rfl, by decide +kernel⟩
theorem mvX7_goAway : MV yX7_goAway 7 := ⟨⟨RX7, TX7, 13, rfl, rfl⟩, uw_in tb_1019 rfl, uw_in tb_1020 rfl⟩
theorem mwX7_note : MW yX7_note cX7_note 6 none 5 := ⟨uw_in tb_769 rfl, uw_in tb_3 rfl, by decide +kernel⟩
theorem mvX7_note : MV yX7_note 7 := ⟨⟨RX7, TX7, 13, rfl, rfl⟩, uw_in tb_768 rfl, uw_sel (i := 19) (by decide +kernel) rfl⟩
theorem mwX7_takeBack : MW yX7_takeBack cX7_takeBack 3 none 0 := ⟨uw_in tb_898 rfl, uw_in tb_3 rfl, by decide +kernel⟩
theorem mvX7_takeBack : MV yX7_takeBack 7 := ⟨⟨RX7, TX7, 13, rfl, rfl⟩, uw_in tb_896 rfl, uw_in tb_897 rfl⟩
theorem mwX7_takeBackDrop : MW yX7_takeBackDrop cX7_takeBackDrop 3 none 2 := ⟨uw_in tb_902 rfl, uw_in tb_3 rfl, by decide +kernel⟩
theorem mvX7_takeBackDrop : MV yX7_takeBackDrop 7 := ⟨⟨RX7, TX7, 13, rfl, rfl⟩, uw_in tb_901 rfl, uw_sel (i := 28) (by decide +kernel) rfl⟩
theorem mwX8_init : MW yX8_init cX8_init 1 none 0 := ⟨uw_in tb_224 rfl, uw_in tb_8 rfl, by decide +kernel⟩
theorem miX8_init : Cond.instanceMethod yX8_init ∈ UW := uw_in tb_223 rfl
theorem mwX8_addEight : MW yX8_addEight cX8_addEight 4 none 1 := ⟨uw_in tb_513 rfl, uw_in tb_8 rfl, by decide +kernel⟩
theorem mvX8_addEight : MV yX8_addEight 8 := ⟨⟨RX8, TX8, 8, rfl, rfl⟩, uw_in tb_511 rfl, uw_in tb_512 rfl⟩
theorem mwX8_readInto : MW yX8_readInto cX8_readInto 3 none 1 := ⟨uw_in tb_525 rfl, uw_in tb_8 rfl, by decide +kernel⟩
theorem mvX8_readInto : MV yX8_readInto 8 := ⟨⟨RX8, TX8, 8, rfl, rfl⟩, uw_in tb_523 rfl, uw_in tb_524 rfl⟩
theorem mwX8_readKey : MW yX8_readKey cX8_readKey 4 none 1 := ⟨uw_in tb_675 rfl, uw_in tb_8 rfl, by decide +kernel⟩
theorem mvX8_readKey : MV yX8_readKey 8 := ⟨⟨RX8, TX8, 8, rfl, rfl⟩, uw_in tb_674 rfl, uw_sel (i := 9) (by decide +kernel) rfl⟩
theorem mwX8_readTest : MW yX8_readTest cX8_readTest 5 none 1 := ⟨uw_in tb_690 rfl, uw_in tb_8 rfl, by decide +kernel⟩
theorem mvX8_readTest : MV yX8_readTest 8 := ⟨⟨RX8, TX8, 8, rfl, rfl⟩, uw_in tb_689 rfl, uw_sel (i := 10) (by decide +kernel) rfl⟩
theorem mwX8_isKey : MW yX8_isKey cX8_isKey 1 (some .boolean) 1 := ⟨uw_in tb_678 rfl, uw_in tb_8 rfl, by decide +kernel⟩
theorem msX8_isKey : Cond.static yX8_isKey ∈ UW := uw_in tb_677 rfl
theorem mwX8_expect : MW yX8_expect cX8_expect 2 none 1 := ⟨uw_in tb_671 rfl, uw_in tb_8 rfl, by decide +kernel⟩
theorem mvX8_expect : MV yX8_expect 8 := ⟨⟨RX8, TX8, 8, rfl, rfl⟩, uw_in tb_670 rfl, uw_sel (i := 8) (by decide +kernel) rfl⟩
theorem mwX8_fail : MW yX8_fail cX8_fail 2 none 1 := ⟨uw_in tb_589 rfl, uw_in tb_8 rfl, by decide +kernel⟩
theorem mvX8_fail : MV yX8_fail 8 := ⟨⟨RX8, TX8, 8, rfl, rfl⟩, uw_in tb_588 rfl, uw_sel (i := 5) (by decide +kernel) rfl⟩
theorem mwX8_advance : MW yX8_advance cX8_advance 1 none 0 := ⟨uw_in tb_533 rfl, uw_in tb_8 rfl, by decide +kernel⟩
theorem mvX8_advance : MV yX8_advance 8 := ⟨⟨RX8, TX8, 8, rfl, rfl⟩, uw_in tb_532 rfl, uw_sel (i := 2) (by decide +kernel) rfl⟩
theorem mwX8_isLetter : MW yX8_isLetter cX8_isLetter 1 (some .boolean) 1 := ⟨uw_in tb_536 rfl, uw_in tb_8 rfl, by decide +kernel⟩
theorem msX8_isLetter : Cond.static yX8_isLetter ∈ UW := uw_in tb_535 rfl
theorem mwX8_isFigure : MW yX8_isFigure cX8_isFigure 1 (some .boolean) 1 := ⟨uw_in tb_592 rfl, uw_in tb_8 rfl, by decide +kernel⟩
theorem msX8_isFigure : Cond.static yX8_isFigure ∈ UW := uw_in tb_591 rfl
theorem mwX8_readName : MW yX8_readName cX8_readName 2 none 0 := ⟨uw_in tb_540 rfl, uw_in tb_8 rfl, by decide +kernel⟩
theorem mvX8_readName : MV yX8_readName 8 := ⟨⟨RX8, TX8, 8, rfl, rfl⟩, uw_in tb_539 rfl, uw_sel (i := 3) (by decide +kernel) rfl⟩
theorem mwX8_isName : MW yX8_isName cX8_isName 5 (some .boolean) 1 := ⟨uw_in tb_544 rfl, uw_in tb_8 rfl, by decide +kernel⟩
theorem mvX8_isName : MV yX8_isName 8 := ⟨⟨RX8, TX8, 8, rfl, rfl⟩, uw_in tb_543 rfl, uw_sel (i := 4) (by decide +kernel) rfl⟩
theorem mwX8_readNumber : MW yX8_readNumber cX8_readNumber 1 none 0 := ⟨uw_in tb_596 rfl, uw_in tb_8 rfl, by decide +kernel⟩
theorem mvX8_readNumber : MV yX8_readNumber 8 := ⟨⟨RX8, TX8, 8, rfl, rfl⟩, uw_in tb_595 rfl, uw_sel (i := 6) (by decide +kernel) rfl⟩
theorem mwX8_readSign : MW yX8_readSign cX8_readSign 2 none 0 := ⟨uw_in tb_600 rfl, uw_in tb_8 rfl, by decide +kernel⟩
theorem mvX8_readSign : MV yX8_readSign 8 := ⟨⟨RX8, TX8, 8, rfl, rfl⟩, uw_in tb_599 rfl, uw_sel (i := 7) (by decide +kernel) rfl⟩
theorem mwX9_init : MW yX9_init cX9_init 1 none 0 := ⟨uw_in tb_294 rfl, uw_in tb_11 rfl, by decide +kernel⟩
theorem miX9_init : Cond.instanceMethod yX9_init ∈ UW := uw_in tb_293 rfl
theorem mwX9_isKnown : MW yX9_isKnown cX9_isKnown 1 (some .boolean) 0 := ⟨uw_in tb_987 rfl, uw_in tb_11 rfl, by decide +kernel⟩
theorem mvX9_isKnown : MV yX9_isKnown 9 := ⟨⟨RX9, TX9, 4, rfl, rfl⟩, uw_in tb_985 rfl, uw_in tb_986 rfl⟩
theorem mwX9_add : MW yX9_add cX9_add 4 none 3 := ⟨uw_in tb_1003 rfl, uw_in tb_11 rfl, by decide +kernel⟩
theorem mvX9_add : MV yX9_add 9 := ⟨⟨RX9, TX9, 4, rfl, rfl⟩, uw_in tb_1001 rfl, uw_in tb_1002 rfl⟩
theorem mwX10_init : MW yX10_init cX10_init 2 none 0 := ⟨uw_in tb_25 rfl, uw_in tb_1 rfl, by decide +kernel⟩
theorem miX10_init : Cond.instanceMethod yX10_init ∈ UW := uw_in tb_24 rfl
theorem mwX10_post : MW yX10_post cX10_post 4 (some .int) 3 := ⟨uw_in tb_429 rfl, uw_in tb_1 rfl, by decide +kernel⟩
theorem mvX10_post : MV yX10_post 10 := ⟨⟨RX10, TX10, 14, rfl, rfl⟩, uw_in tb_427 rfl, uw_in tb_428 rfl⟩
theorem mwX10_guest : MW yX10_guest cX10_guest 1 (some .int) 0 := ⟨uw_in tb_444 rfl, uw_in tb_1 rfl, by decide +kernel⟩
theorem mvX10_guest : MV yX10_guest 10 := ⟨⟨RX10, TX10, 14, rfl, rfl⟩, uw_in tb_442 rfl, uw_in tb_443 rfl⟩
theorem mwX10_worth : MW yX10_worth cX10_worth 5 (some .int) 3 := ⟨uw_in tb_452 rfl, uw_in tb_1 rfl, by decide +kernel⟩
theorem mvX10_worth : MV yX10_worth 10 := ⟨⟨RX10, TX10, 14, rfl, rfl⟩, uw_in tb_450 rfl, uw_in tb_451 rfl⟩
theorem mwX10_chance : MW yX10_chance cX10_chance 4 (some .int) 2 := ⟨uw_in tb_476 rfl, uw_in tb_1 rfl, by decide +kernel⟩
theorem mvX10_chance : MV yX10_chance 10 := ⟨⟨RX10, TX10, 14, rfl, rfl⟩, uw_in tb_474 rfl, uw_in tb_475 rfl⟩
theorem mwX10_rank : MW yX10_rank cX10_rank 4 (some .int) 2 := ⟨uw_in tb_484 rfl, uw_in tb_1 rfl, by decide +kernel⟩
theorem mvX10_rank : MV yX10_rank 10 := ⟨⟨RX10, TX10, 14, rfl, rfl⟩, uw_in tb_482 rfl, uw_in tb_483 rfl⟩
theorem mwX10_told : MW yX10_told cX10_told 3 (some .int) 2 := ⟨uw_in tb_492 rfl, uw_in tb_1 rfl, by decide +kernel⟩
theorem mvX10_told : MV yX10_told 10 := ⟨⟨RX10, TX10, 14, rfl, rfl⟩, uw_in tb_490 rfl, uw_in tb_491 rfl⟩
theorem mwX10_feed : MW yX10_feed cX10_feed 3 (some .int) 1 := ⟨uw_in tb_509 rfl, uw_in tb_1 rfl, by decide +kernel⟩
theorem mvX10_feed : MV yX10_feed 10 := ⟨⟨RX10, TX10, 14, rfl, rfl⟩, uw_in tb_507 rfl, uw_in tb_508 rfl⟩
theorem mwX10_end : MW yX10_end cX10_end 3 (some .int) 1 := ⟨uw_in tb_517 rfl, uw_in tb_1 rfl, by decide +kernel⟩
theorem mvX10_end : MV yX10_end 10 := ⟨⟨RX10, TX10, 14, rfl, rfl⟩, uw_in tb_515 rfl, uw_in tb_516 rfl⟩
theorem mwX10_rule : MW yX10_rule cX10_rule 1 (some .int) 0 := ⟨uw_in tb_521 rfl, uw_in tb_1 rfl, by decide +kernel⟩
theorem mvX10_rule : MV yX10_rule 10 := ⟨⟨RX10, TX10, 14, rfl, rfl⟩, uw_in tb_519 rfl, uw_in tb_520 rfl⟩
theorem mwX10_fault : MW yX10_fault cX10_fault 1 (some .int) 0 := ⟨uw_in tb_699 rfl, uw_in tb_1 rfl, by decide +kernel⟩
theorem mvX10_fault : MV yX10_fault 10 := ⟨⟨RX10, TX10, 14, rfl, rfl⟩, uw_in tb_697 rfl, uw_in tb_698 rfl⟩
theorem mwX10_ruleOf : MW yX10_ruleOf cX10_ruleOf 5 (some .int) 2 := ⟨uw_in tb_703 rfl, uw_in tb_1 rfl, by decide +kernel⟩
theorem mvX10_ruleOf : MV yX10_ruleOf 10 := ⟨⟨RX10, TX10, 14, rfl, rfl⟩, uw_in tb_701 rfl, uw_in tb_702 rfl⟩
theorem mwX10_run : MW yX10_run cX10_run 3 (some .int) 2 := ⟨uw_in tb_714 rfl, uw_in tb_1 rfl, by decide +kernel⟩
theorem mvX10_run : MV yX10_run 10 := ⟨⟨RX10, TX10, 14, rfl, rfl⟩, uw_in tb_712 rfl, uw_in tb_713 rfl⟩
theorem mwX10_runBy : MW yX10_runBy cX10_runBy 4 (some .int) 2 := ⟨uw_in tb_785 rfl, uw_in tb_1 rfl, by decide +kernel⟩
theorem mvX10_runBy : MV yX10_runBy 10 := ⟨⟨RX10, TX10, 14, rfl, rfl⟩, uw_in tb_783 rfl, uw_in tb_784 rfl⟩
theorem mwX10_best : MW yX10_best cX10_best 1 (some .int) 0 := ⟨uw_in tb_795 rfl, uw_in tb_1 rfl, by decide +kernel⟩
theorem mvX10_best : MV yX10_best 10 := ⟨⟨RX10, TX10, 14, rfl, rfl⟩, uw_in tb_793 rfl, uw_in tb_794 rfl⟩
theorem mwX10_bestOf : MW yX10_bestOf cX10_bestOf 2 (some .int) 1 := ⟨uw_in tb_841 rfl, uw_in tb_1 rfl, by decide +kernel⟩
theorem mvX10_bestOf : MV yX10_bestOf 10 := ⟨⟨RX10, TX10, 14, rfl, rfl⟩, uw_in tb_839 rfl, uw_in tb_840 rfl⟩
theorem mwX10_price : MW yX10_price cX10_price 2 (some .int) 1 := ⟨uw_in tb_845 rfl, uw_in tb_1 rfl, by decide +kernel⟩
theorem mvX10_price : MV yX10_price 10 := ⟨⟨RX10, TX10, 14, rfl, rfl⟩, uw_in tb_843 rfl, uw_in tb_844 rfl⟩
theorem mwX10_cover : MW yX10_cover cX10_cover 5 (some .int) 1 := ⟨uw_in tb_853 rfl, uw_in tb_1 rfl, by decide +kernel⟩
theorem mvX10_cover : MV yX10_cover 10 := ⟨⟨RX10, TX10, 14, rfl, rfl⟩, uw_in tb_851 rfl, uw_in tb_852 rfl⟩
theorem mwX10_share : MW yX10_share cX10_share 4 (some .int) 3 := ⟨uw_in tb_867 rfl, uw_in tb_1 rfl, by decide +kernel⟩
theorem mvX10_share : MV yX10_share 10 := ⟨⟨RX10, TX10, 14, rfl, rfl⟩, uw_in tb_865 rfl, uw_in tb_866 rfl⟩
theorem mwX10_mean : MW yX10_mean cX10_mean 4 (some .long) 2 := ⟨uw_in tb_871 rfl, uw_in tb_1 rfl, by decide +kernel⟩
theorem mvX10_mean : MV yX10_mean 10 := ⟨⟨RX10, TX10, 14, rfl, rfl⟩, uw_in tb_869 rfl, uw_in tb_870 rfl⟩
theorem mwX10_ends : MW yX10_ends cX10_ends 4 (some .int) 2 := ⟨uw_in tb_912 rfl, uw_in tb_1 rfl, by decide +kernel⟩
theorem mvX10_ends : MV yX10_ends 10 := ⟨⟨RX10, TX10, 14, rfl, rfl⟩, uw_in tb_910 rfl, uw_in tb_911 rfl⟩
theorem mwX10_meanOfRanks : MW yX10_meanOfRanks cX10_meanOfRanks 4 (some .long) 2 := ⟨uw_in tb_916 rfl, uw_in tb_1 rfl, by decide +kernel⟩
theorem mvX10_meanOfRanks : MV yX10_meanOfRanks 10 := ⟨⟨RX10, TX10, 14, rfl, rfl⟩, uw_in tb_914 rfl, uw_in tb_915 rfl⟩
theorem mwX10_hope : MW yX10_hope cX10_hope 3 (some .long) 2 := ⟨uw_in tb_939 rfl, uw_in tb_1 rfl, by decide +kernel⟩
theorem mvX10_hope : MV yX10_hope 10 := ⟨⟨RX10, TX10, 14, rfl, rfl⟩, uw_in tb_937 rfl, uw_in tb_938 rfl⟩
theorem mwX10_hopeFor : MW yX10_hopeFor cX10_hopeFor 3 (some .int) 2 := ⟨uw_in tb_970 rfl, uw_in tb_1 rfl, by decide +kernel⟩
theorem mvX10_hopeFor : MV yX10_hopeFor 10 := ⟨⟨RX10, TX10, 14, rfl, rfl⟩, uw_in tb_968 rfl, uw_in tb_969 rfl⟩
theorem mwX10_batch : MW yX10_batch cX10_batch 3 (some .int) 2 := ⟨uw_in tb_978 rfl, uw_in tb_1 rfl, by decide +kernel⟩
theorem mvX10_batch : MV yX10_batch 10 := ⟨⟨RX10, TX10, 14, rfl, rfl⟩, uw_in tb_976 rfl, uw_in tb_977 rfl⟩
theorem mwX10_worst : MW yX10_worst cX10_worst 5 (some .int) 3 := ⟨uw_in tb_983 rfl, uw_in tb_1 rfl, by decide +kernel⟩
theorem mvX10_worst : MV yX10_worst 10 := ⟨⟨RX10, TX10, 14, rfl, rfl⟩, uw_in tb_981 rfl, uw_in tb_982 rfl⟩
theorem mwX10_come : MW yX10_come cX10_come 3 (some .int) 2 := ⟨uw_in tb_1007 rfl, uw_in tb_1 rfl, by decide +kernel⟩
theorem mvX10_come : MV yX10_come 10 := ⟨⟨RX10, TX10, 14, rfl, rfl⟩, uw_in tb_1005 rfl, uw_in tb_1006 rfl⟩
theorem mwX10_let : MW yX10_let cX10_let 3 (some .int) 2 := ⟨uw_in tb_1011 rfl, uw_in tb_1 rfl, by decide +kernel⟩
theorem mvX10_let : MV yX10_let 10 := ⟨⟨RX10, TX10, 14, rfl, rfl⟩, uw_in tb_1009 rfl, uw_in tb_1010 rfl⟩
theorem mwX10_leave : MW yX10_leave cX10_leave 2 (some .int) 1 := ⟨uw_in tb_1017 rfl, uw_in tb_1 rfl, by decide +kernel⟩
theorem mvX10_leave : MV yX10_leave 10 := ⟨⟨RX10, TX10, 14, rfl, rfl⟩, uw_in tb_1015 rfl, uw_in tb_1016 rfl⟩
theorem mwX10_undo : MW yX10_undo cX10_undo 1 (some .int) 0 := ⟨uw_in tb_1025 rfl, uw_in tb_1 rfl, by decide +kernel⟩
theorem mvX10_undo : MV yX10_undo 10 := ⟨⟨RX10, TX10, 14, rfl, rfl⟩, uw_in tb_1023 rfl, uw_in tb_1024 rfl⟩
theorem mwX10_market : MW yX10_market cX10_market 2 (some .int) 1 := ⟨uw_in tb_1029 rfl, uw_in tb_1 rfl, by decide +kernel⟩
theorem mvX10_market : MV yX10_market 10 := ⟨⟨RX10, TX10, 14, rfl, rfl⟩, uw_in tb_1027 rfl, uw_in tb_1028 rfl⟩
theorem mwX10_sheet : MW yX10_sheet cX10_sheet 4 (some .int) 3 := ⟨uw_in tb_1033 rfl, uw_in tb_1 rfl, by decide +kernel⟩
theorem mvX10_sheet : MV yX10_sheet 10 := ⟨⟨RX10, TX10, 14, rfl, rfl⟩, uw_in tb_1031 rfl, uw_in tb_1032 rfl⟩
theorem mwX10_lay : MW yX10_lay cX10_lay 5 (some .int) 3 := ⟨uw_in tb_1045 rfl, uw_in tb_1 rfl, by decide +kernel⟩
theorem mvX10_lay : MV yX10_lay 10 := ⟨⟨RX10, TX10, 14, rfl, rfl⟩, uw_in tb_1043 rfl, uw_in tb_1044 rfl⟩
theorem mwX10_net : MW yX10_net cX10_net 7 (some .int) 3 := ⟨uw_in tb_1061 rfl, uw_in tb_1 rfl, by decide +kernel⟩
theorem mvX10_net : MV yX10_net 10 := ⟨⟨RX10, TX10, 14, rfl, rfl⟩, uw_in tb_1059 rfl, uw_in tb_1060 rfl⟩
theorem mwX10_count : MW yX10_count cX10_count 2 (some .int) 1 := ⟨uw_in tb_1069 rfl, uw_in tb_1 rfl, by decide +kernel⟩
theorem mvX10_count : MV yX10_count 10 := ⟨⟨RX10, TX10, 14, rfl, rfl⟩, uw_in tb_1067 rfl, uw_in tb_1068 rfl⟩
theorem mwX10_isIn : MW yX10_isIn cX10_isIn 3 (some .boolean) 3 := ⟨uw_in tb_432 rfl, uw_in tb_1 rfl, by decide +kernel⟩
theorem msX10_isIn : Cond.static yX10_isIn ∈ UW := uw_in tb_431 rfl
theorem mwX10_isEach : MW yX10_isEach cX10_isEach 2 (some .boolean) 2 := ⟨uw_in tb_710 rfl, uw_in tb_1 rfl, by decide +kernel⟩
theorem msX10_isEach : Cond.static yX10_isEach ∈ UW := uw_in tb_709 rfl
theorem mwX10_isPost : MW yX10_isPost cX10_isPost 2 (some .boolean) 1 := ⟨uw_in tb_460 rfl, uw_in tb_1 rfl, by decide +kernel⟩
theorem mvX10_isPost : MV yX10_isPost 10 := ⟨⟨RX10, TX10, 14, rfl, rfl⟩, uw_in tb_459 rfl, uw_sel (i := 1) (by decide +kernel) rfl⟩
theorem mwX10_isGuest : MW yX10_isGuest cX10_isGuest 2 (some .boolean) 1 := ⟨uw_in tb_456 rfl, uw_in tb_1 rfl, by decide +kernel⟩
theorem mvX10_isGuest : MV yX10_isGuest 10 := ⟨⟨RX10, TX10, 14, rfl, rfl⟩, uw_in tb_455 rfl, uw_sel (i := 0) (by decide +kernel) rfl⟩
theorem mwX10_isRule : MW yX10_isRule cX10_isRule 2 (some .boolean) 1 := ⟨uw_in tb_707 rfl, uw_in tb_1 rfl, by decide +kernel⟩
theorem mvX10_isRule : MV yX10_isRule 10 := ⟨⟨RX10, TX10, 14, rfl, rfl⟩, uw_in tb_706 rfl, uw_sel (i := 11) (by decide +kernel) rfl⟩
theorem mwX10_isSheet : MW yX10_isSheet cX10_isSheet 1 (some .boolean) 1 := ⟨uw_in tb_1036 rfl, uw_in tb_1 rfl, by decide +kernel⟩
theorem msX10_isSheet : Cond.static yX10_isSheet ∈ UW := uw_in tb_1035 rfl
theorem mwX10_readOrder : MW yX10_readOrder cX10_readOrder 6 (some .boolean) 1 := ⟨uw_in tb_789 rfl, uw_in tb_1 rfl, by decide +kernel⟩
theorem mvX10_readOrder : MV yX10_readOrder 10 := ⟨⟨RX10, TX10, 14, rfl, rfl⟩, uw_in tb_788 rfl, uw_sel (i := 20) (by decide +kernel) rfl⟩
theorem mwX10_readPrices : MW yX10_readPrices cX10_readPrices 6 (some .boolean) 1 := ⟨uw_in tb_857 rfl, uw_in tb_1 rfl, by decide +kernel⟩
theorem mvX10_readPrices : MV yX10_readPrices 10 := ⟨⟨RX10, TX10, 14, rfl, rfl⟩, uw_in tb_856 rfl, uw_sel (i := 26) (by decide +kernel) rfl⟩
theorem mwX10_readWorths : MW yX10_readWorths cX10_readWorths 7 (some .int) 2 := ⟨uw_in tb_1065 rfl, uw_in tb_1 rfl, by decide +kernel⟩
theorem mvX10_readWorths : MV yX10_readWorths 10 := ⟨⟨RX10, TX10, 14, rfl, rfl⟩, uw_in tb_1064 rfl, uw_sel (i := 33) (by decide +kernel) rfl⟩
theorem mwX10_meanOverOrders : MW yX10_meanOverOrders cX10_meanOverOrders 3 (some (.object "PairedComing$Mean")) 1 := ⟨uw_in tb_877 rfl, uw_in tb_1 rfl, by decide +kernel⟩
theorem mvX10_meanOverOrders : MV yX10_meanOverOrders 10 := ⟨⟨RX10, TX10, 14, rfl, rfl⟩, uw_in tb_876 rfl, uw_sel (i := 27) (by decide +kernel) rfl⟩
theorem mwX10_overOrders : MW yX10_overOrders cX10_overOrders 6 none 4 := ⟨uw_in tb_888 rfl, uw_in tb_1 rfl, by decide +kernel⟩
theorem msX10_overOrders : Cond.static yX10_overOrders ∈ UW := uw_in tb_887 rfl
theorem mwX10_overRanks : MW yX10_overRanks cX10_overRanks 6 none 4 := ⟨uw_in tb_931 rfl, uw_in tb_1 rfl, by decide +kernel⟩
theorem msX10_overRanks : Cond.static yX10_overRanks ∈ UW := uw_in tb_930 rfl
theorem mwX10_searchNets : MW yX10_searchNets cX10_searchNets 6 none 3 := ⟨uw_in tb_991 rfl, uw_in tb_1 rfl, by decide +kernel⟩
theorem mvX10_searchNets : MV yX10_searchNets 10 := ⟨⟨RX10, TX10, 14, rfl, rfl⟩, uw_in tb_990 rfl, uw_sel (i := 32) (by decide +kernel) rfl⟩
theorem mwX10_inLowestTerms : MW yX10_inLowestTerms cX10_inLowestTerms 9 (some .long) 3 := ⟨uw_in tb_905 rfl, uw_in tb_1 rfl, by decide +kernel⟩
theorem msX10_inLowestTerms : Cond.static yX10_inLowestTerms ∈ UW := uw_in tb_904 rfl
theorem mwX10_commonDivisor : MW yX10_commonDivisor cX10_commonDivisor 11 (some .long) 2 := ⟨uw_in tb_908 rfl, uw_in tb_1 rfl, by decide +kernel⟩
theorem msX10_commonDivisor : Cond.static yX10_commonDivisor ∈ UW := uw_in tb_907 rfl
theorem mwX11_init : MW yX11_init cX11_init 1 none 0 := ⟨uw_in tb_1079 rfl, uw_in tb_13 rfl, by decide +kernel⟩
theorem miX11_init : Cond.instanceMethod yX11_init ∈ UW := uw_in tb_1078 rfl
theorem mwX11_in : MW yX11_in cX11_in 6 (some .boolean) 3 := ⟨uw_in tb_1266 rfl, uw_in tb_13 rfl, by decide +kernel⟩
theorem msX11_in : Cond.static yX11_in ∈ UW := uw_in tb_1265 rfl
theorem mwX11_isPost : MW yX11_isPost cX11_isPost 2 (some .boolean) 1 := ⟨uw_in tb_1292 rfl, uw_in tb_13 rfl, by decide +kernel⟩
theorem mvX11_isPost : MV yX11_isPost 11 := ⟨⟨RX11, TX11, 59, rfl, rfl⟩, uw_in tb_1291 rfl, uw_sel (i := 37) (by decide +kernel) rfl⟩
theorem mwX11_isGuest : MW yX11_isGuest cX11_isGuest 2 (some .boolean) 1 := ⟨uw_in tb_1288 rfl, uw_in tb_13 rfl, by decide +kernel⟩
theorem mvX11_isGuest : MV yX11_isGuest 11 := ⟨⟨RX11, TX11, 59, rfl, rfl⟩, uw_in tb_1287 rfl, uw_sel (i := 36) (by decide +kernel) rfl⟩
theorem mwX11_roomSum : MW yX11_roomSum cX11_roomSum 3 (some .int) 0 := ⟨uw_in tb_1276 rfl, uw_in tb_13 rfl, by decide +kernel⟩
theorem mvX11_roomSum : MV yX11_roomSum 11 := ⟨⟨RX11, TX11, 59, rfl, rfl⟩, uw_in tb_1275 rfl, uw_sel (i := 35) (by decide +kernel) rfl⟩
theorem mwX11_post : MW yX11_post cX11_post 5 (some .int) 3 := ⟨uw_in tb_1262 rfl, uw_in tb_13 rfl, by decide +kernel⟩
theorem mvX11_post : MV yX11_post 11 := ⟨⟨RX11, TX11, 59, rfl, rfl⟩, uw_in tb_1260 rfl, uw_in tb_1261 rfl⟩
theorem mwX11_guest : MW yX11_guest cX11_guest 2 (some .int) 0 := ⟨uw_in tb_1280 rfl, uw_in tb_13 rfl, by decide +kernel⟩
theorem mvX11_guest : MV yX11_guest 11 := ⟨⟨RX11, TX11, 59, rfl, rfl⟩, uw_in tb_1278 rfl, uw_in tb_1279 rfl⟩
theorem mwX11_worth : MW yX11_worth cX11_worth 5 (some .int) 3 := ⟨uw_in tb_1284 rfl, uw_in tb_13 rfl, by decide +kernel⟩
theorem mvX11_worth : MV yX11_worth 11 := ⟨⟨RX11, TX11, 59, rfl, rfl⟩, uw_in tb_1282 rfl, uw_in tb_1283 rfl⟩
theorem mwX11_chance : MW yX11_chance cX11_chance 4 (some .int) 2 := ⟨uw_in tb_1296 rfl, uw_in tb_13 rfl, by decide +kernel⟩
theorem mvX11_chance : MV yX11_chance 11 := ⟨⟨RX11, TX11, 59, rfl, rfl⟩, uw_in tb_1294 rfl, uw_in tb_1295 rfl⟩
theorem mwX11_rank : MW yX11_rank cX11_rank 4 (some .int) 2 := ⟨uw_in tb_1301 rfl, uw_in tb_13 rfl, by decide +kernel⟩
theorem mvX11_rank : MV yX11_rank 11 := ⟨⟨RX11, TX11, 59, rfl, rfl⟩, uw_in tb_1299 rfl, uw_in tb_1300 rfl⟩
theorem mwX11_linksOf : MW yX11_linksOf cX11_linksOf 4 (some .int) 1 := ⟨uw_in tb_1310 rfl, uw_in tb_13 rfl, by decide +kernel⟩
theorem mvX11_linksOf : MV yX11_linksOf 11 := ⟨⟨RX11, TX11, 59, rfl, rfl⟩, uw_in tb_1309 rfl, uw_sel (i := 38) (by decide +kernel) rfl⟩
theorem mwX11_told : MW yX11_told cX11_told 6 (some .int) 2 := ⟨uw_in tb_1305 rfl, uw_in tb_13 rfl, by decide +kernel⟩
theorem mvX11_told : MV yX11_told 11 := ⟨⟨RX11, TX11, 59, rfl, rfl⟩, uw_in tb_1303 rfl, uw_in tb_1304 rfl⟩
theorem mwX11_feed : MW yX11_feed cX11_feed 4 (some .int) 1 := ⟨uw_in tb_1314 rfl, uw_in tb_13 rfl, by decide +kernel⟩
theorem mvX11_feed : MV yX11_feed 11 := ⟨⟨RX11, TX11, 59, rfl, rfl⟩, uw_in tb_1312 rfl, uw_in tb_1313 rfl⟩
theorem mwX11_end : MW yX11_end cX11_end 3 (some .int) 1 := ⟨uw_in tb_1318 rfl, uw_in tb_13 rfl, by decide +kernel⟩
theorem mvX11_end : MV yX11_end 11 := ⟨⟨RX11, TX11, 59, rfl, rfl⟩, uw_in tb_1316 rfl, uw_in tb_1317 rfl⟩
theorem mwX11_byteAt : MW yX11_byteAt cX11_byteAt 2 (some .int) 1 := ⟨uw_in tb_1334 rfl, uw_in tb_13 rfl, by decide +kernel⟩
theorem mvX11_byteAt : MV yX11_byteAt 11 := ⟨⟨RX11, TX11, 59, rfl, rfl⟩, uw_in tb_1333 rfl, uw_sel (i := 41) (by decide +kernel) rfl⟩
theorem mwX11_fails : MW yX11_fails cX11_fails 2 none 1 := ⟨uw_in tb_1344 rfl, uw_in tb_13 rfl, by decide +kernel⟩
theorem mvX11_fails : MV yX11_fails 11 := ⟨⟨RX11, TX11, 59, rfl, rfl⟩, uw_in tb_1343 rfl, uw_sel (i := 43) (by decide +kernel) rfl⟩
theorem mwX11_nameAt : MW yX11_nameAt cX11_nameAt 6 (some .int) 2 := ⟨uw_in tb_1340 rfl, uw_in tb_13 rfl, by decide +kernel⟩
theorem mvX11_nameAt : MV yX11_nameAt 11 := ⟨⟨RX11, TX11, 59, rfl, rfl⟩, uw_in tb_1339 rfl, uw_sel (i := 42) (by decide +kernel) rfl⟩
theorem mwX11_next : MW yX11_next cX11_next 2 none 0 := ⟨uw_in tb_1330 rfl, uw_in tb_13 rfl, by decide +kernel⟩
theorem mvX11_next : MV yX11_next 11 := ⟨⟨RX11, TX11, 59, rfl, rfl⟩, uw_in tb_1329 rfl, uw_sel (i := 40) (by decide +kernel) rfl⟩
theorem mwX11_isName : MW yX11_isName cX11_isName 2 (some .boolean) 1 := ⟨uw_in tb_1350 rfl, uw_in tb_13 rfl, by decide +kernel⟩
theorem mvX11_isName : MV yX11_isName 11 := ⟨⟨RX11, TX11, 59, rfl, rfl⟩, uw_in tb_1349 rfl, uw_sel (i := 44) (by decide +kernel) rfl⟩
theorem mwX11_isSign : MW yX11_isSign cX11_isSign 2 (some .boolean) 1 := ⟨uw_in tb_1358 rfl, uw_in tb_13 rfl, by decide +kernel⟩
theorem mvX11_isSign : MV yX11_isSign 11 := ⟨⟨RX11, TX11, 59, rfl, rfl⟩, uw_in tb_1357 rfl, uw_sel (i := 46) (by decide +kernel) rfl⟩
theorem mwX11_isKey : MW yX11_isKey cX11_isKey 1 (some .boolean) 0 := ⟨uw_in tb_1362 rfl, uw_in tb_13 rfl, by decide +kernel⟩
theorem mvX11_isKey : MV yX11_isKey 11 := ⟨⟨RX11, TX11, 59, rfl, rfl⟩, uw_in tb_1361 rfl, uw_sel (i := 47) (by decide +kernel) rfl⟩
theorem mwX11_key : MW yX11_key cX11_key 3 none 0 := ⟨uw_in tb_1354 rfl, uw_in tb_13 rfl, by decide +kernel⟩
theorem mvX11_key : MV yX11_key 11 := ⟨⟨RX11, TX11, 59, rfl, rfl⟩, uw_in tb_1353 rfl, uw_sel (i := 45) (by decide +kernel) rfl⟩
theorem mwX11_test : MW yX11_test cX11_test 2 none 0 := ⟨uw_in tb_1366 rfl, uw_in tb_13 rfl, by decide +kernel⟩
theorem mvX11_test : MV yX11_test 11 := ⟨⟨RX11, TX11, 59, rfl, rfl⟩, uw_in tb_1365 rfl, uw_sel (i := 48) (by decide +kernel) rfl⟩
theorem mwX11_readRule : MW yX11_readRule cX11_readRule 1 none 0 := ⟨uw_in tb_1326 rfl, uw_in tb_13 rfl, by decide +kernel⟩
theorem mvX11_readRule : MV yX11_readRule 11 := ⟨⟨RX11, TX11, 59, rfl, rfl⟩, uw_in tb_1325 rfl, uw_sel (i := 39) (by decide +kernel) rfl⟩
theorem mwX11_rule : MW yX11_rule cX11_rule 1 (some .int) 0 := ⟨uw_in tb_1322 rfl, uw_in tb_13 rfl, by decide +kernel⟩
theorem mvX11_rule : MV yX11_rule 11 := ⟨⟨RX11, TX11, 59, rfl, rfl⟩, uw_in tb_1320 rfl, uw_in tb_1321 rfl⟩
theorem mwX11_fault : MW yX11_fault cX11_fault 1 (some .int) 0 := ⟨uw_in tb_1370 rfl, uw_in tb_13 rfl, by decide +kernel⟩
theorem mvX11_fault : MV yX11_fault 11 := ⟨⟨RX11, TX11, 59, rfl, rfl⟩, uw_in tb_1368 rfl, uw_in tb_1369 rfl⟩
theorem mwX11_isRule : MW yX11_isRule cX11_isRule 2 (some .boolean) 1 := ⟨uw_in tb_1378 rfl, uw_in tb_13 rfl, by decide +kernel⟩
theorem mvX11_isRule : MV yX11_isRule 11 := ⟨⟨RX11, TX11, 59, rfl, rfl⟩, uw_in tb_1377 rfl, uw_sel (i := 49) (by decide +kernel) rfl⟩
theorem mwX11_ruleOf : MW yX11_ruleOf cX11_ruleOf 3 (some .int) 2 := ⟨uw_in tb_1374 rfl, uw_in tb_13 rfl, by decide +kernel⟩
theorem mvX11_ruleOf : MV yX11_ruleOf 11 := ⟨⟨RX11, TX11, 59, rfl, rfl⟩, uw_in tb_1372 rfl, uw_in tb_1373 rfl⟩
theorem mwX11_fresh : MW yX11_fresh cX11_fresh 2 none 0 := ⟨uw_in tb_1391 rfl, uw_in tb_13 rfl, by decide +kernel⟩
theorem mvX11_fresh : MV yX11_fresh 11 := ⟨⟨RX11, TX11, 59, rfl, rfl⟩, uw_in tb_1390 rfl, uw_sel (i := 51) (by decide +kernel) rfl⟩
theorem mwX11_loadMain : MW yX11_loadMain cX11_loadMain 2 none 0 := ⟨uw_in tb_1387 rfl, uw_in tb_13 rfl, by decide +kernel⟩
theorem mvX11_loadMain : MV yX11_loadMain 11 := ⟨⟨RX11, TX11, 59, rfl, rfl⟩, uw_in tb_1386 rfl, uw_sel (i := 50) (by decide +kernel) rfl⟩
theorem mwX11_heldBy : MW yX11_heldBy cX11_heldBy 4 (some .int) 1 := ⟨uw_in tb_1407 rfl, uw_in tb_13 rfl, by decide +kernel⟩
theorem mvX11_heldBy : MV yX11_heldBy 11 := ⟨⟨RX11, TX11, 59, rfl, rfl⟩, uw_in tb_1406 rfl, uw_sel (i := 55) (by decide +kernel) rfl⟩
theorem mwX11_lastOf : MW yX11_lastOf cX11_lastOf 6 (some .int) 1 := ⟨uw_in tb_1411 rfl, uw_in tb_13 rfl, by decide +kernel⟩
theorem mvX11_lastOf : MV yX11_lastOf 11 := ⟨⟨RX11, TX11, 59, rfl, rfl⟩, uw_in tb_1410 rfl, uw_sel (i := 56) (by decide +kernel) rfl⟩
theorem mwX11_keyOf : MW yX11_keyOf cX11_keyOf 5 (some .int) 3 := ⟨uw_in tb_1415 rfl, uw_in tb_13 rfl, by decide +kernel⟩
theorem mvX11_keyOf : MV yX11_keyOf 11 := ⟨⟨RX11, TX11, 59, rfl, rfl⟩, uw_in tb_1414 rfl, uw_sel (i := 57) (by decide +kernel) rfl⟩
theorem mwX11_canHave : MW yX11_canHave cX11_canHave 9 (some .boolean) 3 := ⟨uw_in tb_1403 rfl, uw_in tb_13 rfl, by decide +kernel⟩
theorem mvX11_canHave : MV yX11_canHave 11 := ⟨⟨RX11, TX11, 59, rfl, rfl⟩, uw_in tb_1402 rfl, uw_sel (i := 54) (by decide +kernel) rfl⟩
theorem mwX11_isAhead : MW yX11_isAhead cX11_isAhead 8 (some .boolean) 4 := ⟨uw_in tb_1419 rfl, uw_in tb_13 rfl, by decide +kernel⟩
theorem mvX11_isAhead : MV yX11_isAhead 11 := ⟨⟨RX11, TX11, 59, rfl, rfl⟩, uw_in tb_1418 rfl, uw_sel (i := 58) (by decide +kernel) rfl⟩
theorem mwX11_takes : MW yX11_takes cX11_takes 6 (some .int) 2 := ⟨uw_in tb_1423 rfl, uw_in tb_13 rfl, by decide +kernel⟩
theorem mvX11_takes : MV yX11_takes 11 := ⟨⟨RX11, TX11, 59, rfl, rfl⟩, uw_in tb_1422 rfl, uw_sel (i := 59) (by decide +kernel) rfl⟩
theorem mwX11_comes : MW yX11_comes cX11_comes 5 (some .int) 2 := ⟨uw_in tb_1399 rfl, uw_in tb_13 rfl, by decide +kernel⟩
theorem mvX11_comes : MV yX11_comes 11 := ⟨⟨RX11, TX11, 59, rfl, rfl⟩, uw_in tb_1398 rfl, uw_sel (i := 53) (by decide +kernel) rfl⟩
theorem mwX11_valueNow : MW yX11_valueNow cX11_valueNow 3 (some .int) 0 := ⟨uw_in tb_1427 rfl, uw_in tb_13 rfl, by decide +kernel⟩
theorem mvX11_valueNow : MV yX11_valueNow 11 := ⟨⟨RX11, TX11, 59, rfl, rfl⟩, uw_in tb_1426 rfl, uw_sel (i := 60) (by decide +kernel) rfl⟩
theorem mwX11_keptNow : MW yX11_keptNow cX11_keptNow 3 (some .int) 0 := ⟨uw_in tb_1431 rfl, uw_in tb_13 rfl, by decide +kernel⟩
theorem mvX11_keptNow : MV yX11_keptNow 11 := ⟨⟨RX11, TX11, 59, rfl, rfl⟩, uw_in tb_1430 rfl, uw_sel (i := 61) (by decide +kernel) rfl⟩
theorem mwX11_runByNumbers : MW yX11_runByNumbers cX11_runByNumbers 3 none 1 := ⟨uw_in tb_1395 rfl, uw_in tb_13 rfl, by decide +kernel⟩
theorem mvX11_runByNumbers : MV yX11_runByNumbers 11 := ⟨⟨RX11, TX11, 59, rfl, rfl⟩, uw_in tb_1394 rfl, uw_sel (i := 52) (by decide +kernel) rfl⟩
theorem mwX11_run : MW yX11_run cX11_run 5 (some .int) 2 := ⟨uw_in tb_1383 rfl, uw_in tb_13 rfl, by decide +kernel⟩
theorem mvX11_run : MV yX11_run 11 := ⟨⟨RX11, TX11, 59, rfl, rfl⟩, uw_in tb_1381 rfl, uw_in tb_1382 rfl⟩
theorem mwX11_runByOrder : MW yX11_runByOrder cX11_runByOrder 3 (some .int) 1 := ⟨uw_in tb_1439 rfl, uw_in tb_13 rfl, by decide +kernel⟩
theorem mvX11_runByOrder : MV yX11_runByOrder 11 := ⟨⟨RX11, TX11, 59, rfl, rfl⟩, uw_in tb_1438 rfl, uw_sel (i := 62) (by decide +kernel) rfl⟩
theorem mwX11_runBy : MW yX11_runBy cX11_runBy 6 (some .int) 2 := ⟨uw_in tb_1435 rfl, uw_in tb_13 rfl, by decide +kernel⟩
theorem mvX11_runBy : MV yX11_runBy 11 := ⟨⟨RX11, TX11, 59, rfl, rfl⟩, uw_in tb_1433 rfl, uw_in tb_1434 rfl⟩
theorem mwX11_layFigures : MW yX11_layFigures cX11_layFigures 2 none 0 := ⟨uw_in tb_1451 rfl, uw_in tb_13 rfl, by decide +kernel⟩
theorem mvX11_layFigures : MV yX11_layFigures 11 := ⟨⟨RX11, TX11, 59, rfl, rfl⟩, uw_in tb_1450 rfl, uw_sel (i := 64) (by decide +kernel) rfl⟩
theorem mwX11_hasRoom : MW yX11_hasRoom cX11_hasRoom 3 (some .boolean) 2 := ⟨uw_in tb_1463 rfl, uw_in tb_13 rfl, by decide +kernel⟩
theorem mvX11_hasRoom : MV yX11_hasRoom 11 := ⟨⟨RX11, TX11, 59, rfl, rfl⟩, uw_in tb_1462 rfl, uw_sel (i := 67) (by decide +kernel) rfl⟩
theorem mwX11_whole : MW yX11_whole cX11_whole 1 (some .int) 0 := ⟨uw_in tb_1467 rfl, uw_in tb_13 rfl, by decide +kernel⟩
theorem mvX11_whole : MV yX11_whole 11 := ⟨⟨RX11, TX11, 59, rfl, rfl⟩, uw_in tb_1466 rfl, uw_sel (i := 68) (by decide +kernel) rfl⟩
theorem mwX11_layBest : MW yX11_layBest cX11_layBest 9 none 2 := ⟨uw_in tb_1459 rfl, uw_in tb_13 rfl, by decide +kernel⟩
theorem mvX11_layBest : MV yX11_layBest 11 := ⟨⟨RX11, TX11, 59, rfl, rfl⟩, uw_in tb_1458 rfl, uw_sel (i := 66) (by decide +kernel) rfl⟩
theorem mwX11_capsAsRooms : MW yX11_capsAsRooms cX11_capsAsRooms 2 none 0 := ⟨uw_in tb_1447 rfl, uw_in tb_13 rfl, by decide +kernel⟩
theorem mvX11_capsAsRooms : MV yX11_capsAsRooms 11 := ⟨⟨RX11, TX11, 59, rfl, rfl⟩, uw_in tb_1446 rfl, uw_sel (i := 63) (by decide +kernel) rfl⟩
theorem mwX11_bestSum : MW yX11_bestSum cX11_bestSum 1 (some .int) 0 := ⟨uw_in tb_1455 rfl, uw_in tb_13 rfl, by decide +kernel⟩
theorem mvX11_bestSum : MV yX11_bestSum 11 := ⟨⟨RX11, TX11, 59, rfl, rfl⟩, uw_in tb_1454 rfl, uw_sel (i := 65) (by decide +kernel) rfl⟩
theorem mwX11_best : MW yX11_best cX11_best 1 (some .int) 0 := ⟨uw_in tb_1443 rfl, uw_in tb_13 rfl, by decide +kernel⟩
theorem mvX11_best : MV yX11_best 11 := ⟨⟨RX11, TX11, 59, rfl, rfl⟩, uw_in tb_1441 rfl, uw_in tb_1442 rfl⟩
theorem mwX11_layPairs : MW yX11_layPairs cX11_layPairs 8 (some .int) 3 := ⟨uw_in tb_1475 rfl, uw_in tb_13 rfl, by decide +kernel⟩
theorem mvX11_layPairs : MV yX11_layPairs 11 := ⟨⟨RX11, TX11, 59, rfl, rfl⟩, uw_in tb_1474 rfl, uw_sel (i := 69) (by decide +kernel) rfl⟩
theorem mwX11_bestOf : MW yX11_bestOf cX11_bestOf 2 (some .int) 1 := ⟨uw_in tb_1471 rfl, uw_in tb_13 rfl, by decide +kernel⟩
theorem mvX11_bestOf : MV yX11_bestOf 11 := ⟨⟨RX11, TX11, 59, rfl, rfl⟩, uw_in tb_1469 rfl, uw_in tb_1470 rfl⟩
theorem mwX11_price : MW yX11_price cX11_price 3 (some .int) 1 := ⟨uw_in tb_1479 rfl, uw_in tb_13 rfl, by decide +kernel⟩
theorem mvX11_price : MV yX11_price 11 := ⟨⟨RX11, TX11, 59, rfl, rfl⟩, uw_in tb_1477 rfl, uw_in tb_1478 rfl⟩
theorem mwX11_cover : MW yX11_cover cX11_cover 12 (some .int) 1 := ⟨uw_in tb_1484 rfl, uw_in tb_13 rfl, by decide +kernel⟩
theorem mvX11_cover : MV yX11_cover 11 := ⟨⟨RX11, TX11, 59, rfl, rfl⟩, uw_in tb_1482 rfl, uw_in tb_1483 rfl⟩
theorem mwX11_share : MW yX11_share cX11_share 4 (some .int) 3 := ⟨uw_in tb_1489 rfl, uw_in tb_13 rfl, by decide +kernel⟩
theorem mvX11_share : MV yX11_share 11 := ⟨⟨RX11, TX11, 59, rfl, rfl⟩, uw_in tb_1487 rfl, uw_in tb_1488 rfl⟩
theorem mwX11_lowest : MW yX11_lowest cX11_lowest 11 (some .long) 3 := ⟨uw_in tb_1514 rfl, uw_in tb_13 rfl, by decide +kernel⟩
theorem msX11_lowest : Cond.static yX11_lowest ∈ UW := uw_in tb_1513 rfl
theorem mwX11_firstOrder : MW yX11_firstOrder cX11_firstOrder 2 none 0 := ⟨uw_in tb_1503 rfl, uw_in tb_13 rfl, by decide +kernel⟩
theorem mvX11_firstOrder : MV yX11_firstOrder 11 := ⟨⟨RX11, TX11, 59, rfl, rfl⟩, uw_in tb_1502 rfl, uw_sel (i := 71) (by decide +kernel) rfl⟩
theorem mwX11_nextOrder : MW yX11_nextOrder cX11_nextOrder 6 (some .boolean) 1 := ⟨uw_in tb_1507 rfl, uw_in tb_13 rfl, by decide +kernel⟩
theorem mvX11_nextOrder : MV yX11_nextOrder 11 := ⟨⟨RX11, TX11, 59, rfl, rfl⟩, uw_in tb_1506 rfl, uw_sel (i := 72) (by decide +kernel) rfl⟩
theorem mwX11_change : MW yX11_change cX11_change 4 none 2 := ⟨uw_in tb_1511 rfl, uw_in tb_13 rfl, by decide +kernel⟩
theorem mvX11_change : MV yX11_change 11 := ⟨⟨RX11, TX11, 59, rfl, rfl⟩, uw_in tb_1510 rfl, uw_sel (i := 73) (by decide +kernel) rfl⟩
theorem mwX11_layMean : MW yX11_layMean cX11_layMean 4 none 1 := ⟨uw_in tb_1499 rfl, uw_in tb_13 rfl, by decide +kernel⟩
theorem mvX11_layMean : MV yX11_layMean 11 := ⟨⟨RX11, TX11, 59, rfl, rfl⟩, uw_in tb_1498 rfl, uw_sel (i := 70) (by decide +kernel) rfl⟩
theorem mwX11_mean : MW yX11_mean cX11_mean 3 (some .long) 2 := ⟨uw_in tb_1493 rfl, uw_in tb_13 rfl, by decide +kernel⟩
theorem mvX11_mean : MV yX11_mean 11 := ⟨⟨RX11, TX11, 59, rfl, rfl⟩, uw_in tb_1491 rfl, uw_in tb_1492 rfl⟩
theorem mwX11_ends : MW yX11_ends cX11_ends 3 (some .int) 2 := ⟨uw_in tb_1518 rfl, uw_in tb_13 rfl, by decide +kernel⟩
theorem mvX11_ends : MV yX11_ends 11 := ⟨⟨RX11, TX11, 59, rfl, rfl⟩, uw_in tb_1516 rfl, uw_in tb_1517 rfl⟩
theorem mwX11_meanOfRanks : MW yX11_meanOfRanks cX11_meanOfRanks 9 (some .long) 2 := ⟨uw_in tb_1522 rfl, uw_in tb_13 rfl, by decide +kernel⟩
theorem mvX11_meanOfRanks : MV yX11_meanOfRanks 11 := ⟨⟨RX11, TX11, 59, rfl, rfl⟩, uw_in tb_1520 rfl, uw_in tb_1521 rfl⟩
theorem mwX11_chanceSum : MW yX11_chanceSum cX11_chanceSum 3 (some .int) 0 := ⟨uw_in tb_1530 rfl, uw_in tb_13 rfl, by decide +kernel⟩
theorem mvX11_chanceSum : MV yX11_chanceSum 11 := ⟨⟨RX11, TX11, 59, rfl, rfl⟩, uw_in tb_1529 rfl, uw_sel (i := 74) (by decide +kernel) rfl⟩
theorem mwX11_pairing : MW yX11_pairing cX11_pairing 6 (some .long) 4 := ⟨uw_in tb_1538 rfl, uw_in tb_13 rfl, by decide +kernel⟩
theorem mvX11_pairing : MV yX11_pairing 11 := ⟨⟨RX11, TX11, 59, rfl, rfl⟩, uw_in tb_1537 rfl, uw_sel (i := 76) (by decide +kernel) rfl⟩
theorem mwX11_layHopes : MW yX11_layHopes cX11_layHopes 12 none 1 := ⟨uw_in tb_1534 rfl, uw_in tb_13 rfl, by decide +kernel⟩
theorem mvX11_layHopes : MV yX11_layHopes 11 := ⟨⟨RX11, TX11, 59, rfl, rfl⟩, uw_in tb_1533 rfl, uw_sel (i := 75) (by decide +kernel) rfl⟩
theorem mwX11_hope : MW yX11_hope cX11_hope 3 (some .long) 2 := ⟨uw_in tb_1526 rfl, uw_in tb_13 rfl, by decide +kernel⟩
theorem mvX11_hope : MV yX11_hope 11 := ⟨⟨RX11, TX11, 59, rfl, rfl⟩, uw_in tb_1524 rfl, uw_in tb_1525 rfl⟩
theorem mwX11_hopeFor : MW yX11_hopeFor cX11_hopeFor 9 (some .int) 2 := ⟨uw_in tb_1542 rfl, uw_in tb_13 rfl, by decide +kernel⟩
theorem mvX11_hopeFor : MV yX11_hopeFor 11 := ⟨⟨RX11, TX11, 59, rfl, rfl⟩, uw_in tb_1540 rfl, uw_in tb_1541 rfl⟩
theorem mwX11_batch : MW yX11_batch cX11_batch 7 (some .int) 2 := ⟨uw_in tb_1546 rfl, uw_in tb_13 rfl, by decide +kernel⟩
theorem mvX11_batch : MV yX11_batch 11 := ⟨⟨RX11, TX11, 59, rfl, rfl⟩, uw_in tb_1544 rfl, uw_in tb_1545 rfl⟩
theorem mwX11_loadNet : MW yX11_loadNet cX11_loadNet 5 none 2 := ⟨uw_in tb_1554 rfl, uw_in tb_13 rfl, by decide +kernel⟩
theorem mvX11_loadNet : MV yX11_loadNet 11 := ⟨⟨RX11, TX11, 59, rfl, rfl⟩, uw_in tb_1553 rfl, uw_sel (i := 77) (by decide +kernel) rfl⟩
theorem mwX11_mostPairs : MW yX11_mostPairs cX11_mostPairs 11 (some .int) 1 := ⟨uw_in tb_1558 rfl, uw_in tb_13 rfl, by decide +kernel⟩
theorem mvX11_mostPairs : MV yX11_mostPairs 11 := ⟨⟨RX11, TX11, 59, rfl, rfl⟩, uw_in tb_1557 rfl, uw_sel (i := 78) (by decide +kernel) rfl⟩
theorem mwX11_worst : MW yX11_worst cX11_worst 11 (some .int) 3 := ⟨uw_in tb_1550 rfl, uw_in tb_13 rfl, by decide +kernel⟩
theorem mvX11_worst : MV yX11_worst 11 := ⟨⟨RX11, TX11, 59, rfl, rfl⟩, uw_in tb_1548 rfl, uw_in tb_1549 rfl⟩
theorem mwX11_came : MW yX11_came cX11_came 3 (some .int) 0 := ⟨uw_in tb_1272 rfl, uw_in tb_13 rfl, by decide +kernel⟩
theorem mvX11_came : MV yX11_came 11 := ⟨⟨RX11, TX11, 59, rfl, rfl⟩, uw_in tb_1271 rfl, uw_sel (i := 34) (by decide +kernel) rfl⟩
theorem mwX11_record : MW yX11_record cX11_record 3 none 0 := ⟨uw_in tb_1566 rfl, uw_in tb_13 rfl, by decide +kernel⟩
theorem mvX11_record : MV yX11_record 11 := ⟨⟨RX11, TX11, 59, rfl, rfl⟩, uw_in tb_1565 rfl, uw_sel (i := 79) (by decide +kernel) rfl⟩
theorem mwX11_loadMarket : MW yX11_loadMarket cX11_loadMarket 2 none 0 := ⟨uw_in tb_1570 rfl, uw_in tb_13 rfl, by decide +kernel⟩
theorem mvX11_loadMarket : MV yX11_loadMarket 11 := ⟨⟨RX11, TX11, 59, rfl, rfl⟩, uw_in tb_1569 rfl, uw_sel (i := 80) (by decide +kernel) rfl⟩
theorem mwX11_storeMarket : MW yX11_storeMarket cX11_storeMarket 2 none 0 := ⟨uw_in tb_1574 rfl, uw_in tb_13 rfl, by decide +kernel⟩
theorem mvX11_storeMarket : MV yX11_storeMarket 11 := ⟨⟨RX11, TX11, 59, rfl, rfl⟩, uw_in tb_1573 rfl, uw_sel (i := 81) (by decide +kernel) rfl⟩
theorem mwX11_come : MW yX11_come cX11_come 4 (some .int) 2 := ⟨uw_in tb_1562 rfl, uw_in tb_13 rfl, by decide +kernel⟩
theorem mvX11_come : MV yX11_come 11 := ⟨⟨RX11, TX11, 59, rfl, rfl⟩, uw_in tb_1560 rfl, uw_in tb_1561 rfl⟩
theorem mwX11_let : MW yX11_let cX11_let 4 (some .int) 2 := ⟨uw_in tb_1578 rfl, uw_in tb_13 rfl, by decide +kernel⟩
theorem mvX11_let : MV yX11_let 11 := ⟨⟨RX11, TX11, 59, rfl, rfl⟩, uw_in tb_1576 rfl, uw_in tb_1577 rfl⟩
theorem mwX11_leave : MW yX11_leave cX11_leave 3 (some .int) 1 := ⟨uw_in tb_1582 rfl, uw_in tb_13 rfl, by decide +kernel⟩
theorem mvX11_leave : MV yX11_leave 11 := ⟨⟨RX11, TX11, 59, rfl, rfl⟩, uw_in tb_1580 rfl, uw_in tb_1581 rfl⟩
theorem mwX11_undo : MW yX11_undo cX11_undo 3 (some .int) 0 := ⟨uw_in tb_1586 rfl, uw_in tb_13 rfl, by decide +kernel⟩
theorem mvX11_undo : MV yX11_undo 11 := ⟨⟨RX11, TX11, 59, rfl, rfl⟩, uw_in tb_1584 rfl, uw_in tb_1585 rfl⟩
theorem mwX11_market : MW yX11_market cX11_market 4 (some .int) 1 := ⟨uw_in tb_1590 rfl, uw_in tb_13 rfl, by decide +kernel⟩
theorem mvX11_market : MV yX11_market 11 := ⟨⟨RX11, TX11, 59, rfl, rfl⟩, uw_in tb_1588 rfl, uw_in tb_1589 rfl⟩
theorem mwX11_sheet : MW yX11_sheet cX11_sheet 5 (some .int) 3 := ⟨uw_in tb_1595 rfl, uw_in tb_13 rfl, by decide +kernel⟩
theorem mvX11_sheet : MV yX11_sheet 11 := ⟨⟨RX11, TX11, 59, rfl, rfl⟩, uw_in tb_1593 rfl, uw_in tb_1594 rfl⟩
theorem mwX11_lay : MW yX11_lay cX11_lay 4 (some .int) 3 := ⟨uw_in tb_1600 rfl, uw_in tb_13 rfl, by decide +kernel⟩
theorem mvX11_lay : MV yX11_lay 11 := ⟨⟨RX11, TX11, 59, rfl, rfl⟩, uw_in tb_1598 rfl, uw_in tb_1599 rfl⟩
theorem mwX11_net : MW yX11_net cX11_net 8 (some .int) 3 := ⟨uw_in tb_1604 rfl, uw_in tb_13 rfl, by decide +kernel⟩
theorem mvX11_net : MV yX11_net 11 := ⟨⟨RX11, TX11, 59, rfl, rfl⟩, uw_in tb_1602 rfl, uw_in tb_1603 rfl⟩
theorem mwX11_count : MW yX11_count cX11_count 4 (some .int) 1 := ⟨uw_in tb_1608 rfl, uw_in tb_13 rfl, by decide +kernel⟩
theorem mvX11_count : MV yX11_count 11 := ⟨⟨RX11, TX11, 59, rfl, rfl⟩, uw_in tb_1606 rfl, uw_in tb_1607 rfl⟩
theorem mwJ11_isValidCodePoint_9a6ad : MW yJ11_isValidCodePoint_9a6ad cJ11_isValidCodePoint_9a6ad 2 (some .boolean) 1 := ⟨uw_in tb_659 rfl, uw_in tb_19 rfl, by decide +kernel⟩
theorem msJ11_isValidCodePoint_9a6ad : Cond.static yJ11_isValidCodePoint_9a6ad ∈ UW := uw_in tb_658 rfl
theorem mwJ11_highSurrogate_5068e : MW yJ11_highSurrogate_5068e cJ11_highSurrogate_5068e 1 (some .char) 1 := ⟨uw_in tb_662 rfl, uw_in tb_19 rfl, by decide +kernel⟩
theorem msJ11_highSurrogate_5068e : Cond.static yJ11_highSurrogate_5068e ∈ UW := uw_in tb_661 rfl
theorem mwJ11_lowSurrogate_5068e : MW yJ11_lowSurrogate_5068e cJ11_lowSurrogate_5068e 1 (some .char) 1 := ⟨uw_in tb_666 rfl, uw_in tb_19 rfl, by decide +kernel⟩
theorem msJ11_lowSurrogate_5068e : Cond.static yJ11_lowSurrogate_5068e ∈ UW := uw_in tb_665 rfl
theorem mwJ9_max_7cf53 : MW yJ9_max_7cf53 cJ9_max_7cf53 2 (some .int) 2 := ⟨uw_in tb_626 rfl, uw_in tb_18 rfl, by decide +kernel⟩
theorem msJ9_max_7cf53 : Cond.static yJ9_max_7cf53 ∈ UW := uw_in tb_625 rfl
theorem mwJ9_max_f86c9 : MW yJ9_max_f86c9 cJ9_max_f86c9 4 (some .long) 2 := ⟨uw_in tb_962 rfl, uw_in tb_18 rfl, by decide +kernel⟩
theorem msJ9_max_f86c9 : Cond.static yJ9_max_f86c9 ∈ UW := uw_in tb_961 rfl
theorem mwJ9_min_7cf53 : MW yJ9_min_7cf53 cJ9_min_7cf53 2 (some .int) 2 := ⟨uw_in tb_629 rfl, uw_in tb_18 rfl, by decide +kernel⟩
theorem msJ9_min_7cf53 : Cond.static yJ9_min_7cf53 ∈ UW := uw_in tb_628 rfl
theorem mwJ0_length_8abf5 : MW yJ0_length_8abf5 cJ0_length_8abf5 1 (some .int) 0 := ⟨uw_in tb_613 rfl, uw_in tb_14 rfl, by decide +kernel⟩
theorem mwJ0_charAt_5068e : MW yJ0_charAt_5068e cJ0_charAt_5068e 2 (some .char) 1 := ⟨uw_in tb_549 rfl, uw_in tb_14 rfl, by decide +kernel⟩
theorem mwJ0_indexOf_0f7a4 : MW yJ0_indexOf_0f7a4 cJ0_indexOf_0f7a4 2 (some .int) 1 := ⟨uw_in tb_605 rfl, uw_in tb_14 rfl, by decide +kernel⟩
theorem mwJ0_indexOf_7cf53 : MW yJ0_indexOf_7cf53 cJ0_indexOf_7cf53 3 (some .int) 2 := ⟨uw_in tb_609 rfl, uw_in tb_14 rfl, by decide +kernel⟩
theorem mwJ0_coder_7d493 : MW yJ0_coder_7d493 cJ0_coder_7d493 1 (some .byte) 0 := ⟨uw_in tb_617 rfl, uw_in tb_14 rfl, by decide +kernel⟩
theorem mwJ0_isLatin1_aae02 : MW yJ0_isLatin1_aae02 cJ0_isLatin1_aae02 1 (some .boolean) 0 := ⟨uw_in tb_553 rfl, uw_in tb_14 rfl, by decide +kernel⟩
theorem mwJ0_checkIndex_df160 : MW yJ0_checkIndex_df160 cJ0_checkIndex_df160 2 none 2 := ⟨uw_in tb_561 rfl, uw_in tb_14 rfl, by decide +kernel⟩
theorem msJ0_checkIndex_df160 : Cond.static yJ0_checkIndex_df160 ∈ UW := uw_in tb_560 rfl
theorem mwJ0_checkBoundsBeginEnd_23922 : MW yJ0_checkBoundsBeginEnd_23922 cJ0_checkBoundsBeginEnd_23922 3 none 3 := ⟨uw_in tb_647 rfl, uw_in tb_14 rfl, by decide +kernel⟩
theorem msJ0_checkBoundsBeginEnd_23922 : Cond.static yJ0_checkBoundsBeginEnd_23922 ∈ UW := uw_in tb_646 rfl
theorem mwJ1_charAt_3b067 : MW yJ1_charAt_3b067 cJ1_charAt_3b067 2 (some .char) 2 := ⟨uw_in tb_558 rfl, uw_in tb_15 rfl, by decide +kernel⟩
theorem msJ1_charAt_3b067 : Cond.static yJ1_charAt_3b067 ∈ UW := uw_in tb_557 rfl
theorem mwJ1_canEncode_9a6ad : MW yJ1_canEncode_9a6ad cJ1_canEncode_9a6ad 1 (some .boolean) 1 := ⟨uw_in tb_623 rfl, uw_in tb_15 rfl, by decide +kernel⟩
theorem msJ1_canEncode_9a6ad : Cond.static yJ1_canEncode_9a6ad ∈ UW := uw_in tb_622 rfl
theorem mwJ1_indexOf_4cfef : MW yJ1_indexOf_4cfef cJ1_indexOf_4cfef 4 (some .int) 4 := ⟨uw_in tb_620 rfl, uw_in tb_15 rfl, by decide +kernel⟩
theorem msJ1_indexOf_4cfef : Cond.static yJ1_indexOf_4cfef ∈ UW := uw_in tb_619 rfl
theorem mwJ1_indexOfChar_4cfef : MW yJ1_indexOfChar_4cfef cJ1_indexOfChar_4cfef 6 (some .int) 4 := ⟨uw_in tb_632 rfl, uw_in tb_15 rfl, by decide +kernel⟩
theorem msJ1_indexOfChar_4cfef : Cond.static yJ1_indexOfChar_4cfef ∈ UW := uw_in tb_631 rfl
theorem mwJ2_getChar_3b067 : MW yJ2_getChar_3b067 cJ2_getChar_3b067 2 (some .char) 2 := ⟨uw_in tb_579 rfl, uw_in tb_17 rfl, by decide +kernel⟩
theorem msJ2_getChar_3b067 : Cond.static yJ2_getChar_3b067 ∈ UW := uw_in tb_578 rfl
theorem mwJ2_length_9d52b : MW yJ2_length_9d52b cJ2_length_9d52b 1 (some .int) 1 := ⟨uw_in tb_575 rfl, uw_in tb_17 rfl, by decide +kernel⟩
theorem msJ2_length_9d52b : Cond.static yJ2_length_9d52b ∈ UW := uw_in tb_574 rfl
theorem mwJ2_indexOf_4cfef : MW yJ2_indexOf_4cfef cJ2_indexOf_4cfef 4 (some .int) 4 := ⟨uw_in tb_635 rfl, uw_in tb_17 rfl, by decide +kernel⟩
theorem msJ2_indexOf_4cfef : Cond.static yJ2_indexOf_4cfef ∈ UW := uw_in tb_634 rfl
theorem mwJ2_indexOfChar_4cfef : MW yJ2_indexOfChar_4cfef cJ2_indexOfChar_4cfef 4 (some .int) 4 := ⟨uw_in tb_641 rfl, uw_in tb_17 rfl, by decide +kernel⟩
theorem msJ2_indexOfChar_4cfef : Cond.static yJ2_indexOfChar_4cfef ∈ UW := uw_in tb_640 rfl
theorem mwJ2_indexOfCharUnsafe_4cfef : MW yJ2_indexOfCharUnsafe_4cfef cJ2_indexOfCharUnsafe_4cfef 5 (some .int) 4 := ⟨uw_in tb_653 rfl, uw_in tb_17 rfl, by decide +kernel⟩
theorem msJ2_indexOfCharUnsafe_4cfef : Cond.static yJ2_indexOfCharUnsafe_4cfef ∈ UW := uw_in tb_652 rfl
theorem mwJ2_indexOfSupplementary_4cfef : MW yJ2_indexOfSupplementary_4cfef cJ2_indexOfSupplementary_4cfef 7 (some .int) 4 := ⟨uw_in tb_656 rfl, uw_in tb_17 rfl, by decide +kernel⟩
theorem msJ2_indexOfSupplementary_4cfef : Cond.static yJ2_indexOfSupplementary_4cfef ∈ UW := uw_in tb_655 rfl
theorem mwJ2_charAt_3b067 : MW yJ2_charAt_3b067 cJ2_charAt_3b067 2 (some .char) 2 := ⟨uw_in tb_569 rfl, uw_in tb_17 rfl, by decide +kernel⟩
theorem msJ2_charAt_3b067 : Cond.static yJ2_charAt_3b067 ∈ UW := uw_in tb_568 rfl
theorem mwJ2_checkIndex_2214a : MW yJ2_checkIndex_2214a cJ2_checkIndex_2214a 2 none 2 := ⟨uw_in tb_572 rfl, uw_in tb_17 rfl, by decide +kernel⟩
theorem msJ2_checkIndex_2214a : Cond.static yJ2_checkIndex_2214a ∈ UW := uw_in tb_571 rfl
theorem mwJ2_checkBoundsBeginEnd_d044e : MW yJ2_checkBoundsBeginEnd_d044e cJ2_checkBoundsBeginEnd_d044e 3 none 3 := ⟨uw_in tb_644 rfl, uw_in tb_17 rfl, by decide +kernel⟩
theorem msJ2_checkBoundsBeginEnd_d044e : Cond.static yJ2_checkBoundsBeginEnd_d044e ∈ UW := uw_in tb_643 rfl
theorem mwJ7_fill_53178 : MW yJ7_fill_53178 cJ7_fill_53178 4 none 2 := ⟨uw_in tb_91 rfl, uw_in tb_4 rfl, by decide +kernel⟩
theorem msJ7_fill_53178 : Cond.static yJ7_fill_53178 ∈ UW := uw_in tb_90 rfl
theorem mwJ3_checkIndex_8e157 : MW yJ3_checkIndex_8e157 cJ3_checkIndex_8e157 3 (some .int) 3 := ⟨uw_in tb_566 rfl, uw_in tb_16 rfl, by decide +kernel⟩
theorem msJ3_checkIndex_8e157 : Cond.static yJ3_checkIndex_8e157 ∈ UW := uw_in tb_565 rfl
theorem mwJ3_checkFromToIndex_8c36e : MW yJ3_checkFromToIndex_8c36e cJ3_checkFromToIndex_8c36e 4 (some .int) 4 := ⟨uw_in tb_650 rfl, uw_in tb_16 rfl, by decide +kernel⟩
theorem msJ3_checkFromToIndex_8c36e : Cond.static yJ3_checkFromToIndex_8c36e ∈ UW := uw_in tb_649 rfl
theorem lkL_9 : Cond.methodLink RL 9 yX10_init ∈ UW := uw_in tb_23 rfl
theorem lkX10_18 : Cond.methodLink RX10 18 yX7_init ∈ UW := uw_in tb_85 rfl
theorem lkX7_44 : Cond.methodLink RX7 44 yJ7_fill_53178 ∈ UW := uw_in tb_89 rfl
theorem lkX10_43 : Cond.methodLink RX10 43 yX1_init ∈ UW := uw_in tb_192 rfl
theorem lkX10_74 : Cond.methodLink RX10 74 yX5_init ∈ UW := uw_in tb_259 rfl
theorem lkL_13 : Cond.methodLink RL 13 yX10_post ∈ UW := uw_in tb_426 rfl
theorem lkX10_76 : Cond.methodLink RX10 76 yX10_isIn ∈ UW := uw_in tb_430 rfl
theorem lkX10_87 : Cond.methodLink RX10 87 yX0_allRooms ∈ UW := uw_in tb_433 rfl
theorem lkX10_91 : Cond.methodLink RX10 91 yX0_addPost ∈ UW := uw_in tb_437 rfl
theorem lkL_18 : Cond.methodLink RL 18 yX10_guest ∈ UW := uw_in tb_441 rfl
theorem lkX10_98 : Cond.methodLink RX10 98 yX0_addGuest ∈ UW := uw_in tb_445 rfl
theorem lkL_23 : Cond.methodLink RL 23 yX10_worth ∈ UW := uw_in tb_449 rfl
theorem lkX10_101 : Cond.methodLink RX10 101 yX10_isGuest ∈ UW := uw_in tb_453 rfl
theorem lkX10_105 : Cond.methodLink RX10 105 yX10_isPost ∈ UW := uw_in tb_457 rfl
theorem lkX10_108 : Cond.methodLink RX10 108 yX7_hasCome ∈ UW := uw_in tb_461 rfl
theorem lkX10_111 : Cond.methodLink RX10 111 yX0_worthAt ∈ UW := uw_in tb_465 rfl
theorem lkX10_115 : Cond.methodLink RX10 115 yX0_putWorth ∈ UW := uw_in tb_469 rfl
theorem lkL_27 : Cond.methodLink RL 27 yX10_chance ∈ UW := uw_in tb_473 rfl
theorem lkX10_122 : Cond.methodLink RX10 122 yX0_putChance ∈ UW := uw_in tb_477 rfl
theorem lkL_32 : Cond.methodLink RL 32 yX10_rank ∈ UW := uw_in tb_481 rfl
theorem lkX10_129 : Cond.methodLink RX10 129 yX0_putRank ∈ UW := uw_in tb_485 rfl
theorem lkL_36 : Cond.methodLink RL 36 yX10_told ∈ UW := uw_in tb_489 rfl
theorem lkX10_138 : Cond.methodLink RX10 138 yX7_freeAt ∈ UW := uw_in tb_493 rfl
theorem lkX10_145 : Cond.methodLink RX10 145 yX7_heldBits ∈ UW := uw_in tb_497 rfl
theorem lkX10_148 : Cond.methodLink RX10 148 yX0_linksOf ∈ UW := uw_in tb_501 rfl
theorem lkX0_37 : Cond.methodLink RX0 37 yX0_worthAt ∈ UW := uw_in tb_505 rfl
theorem lkL_42 : Cond.methodLink RL 42 yX10_feed ∈ UW := uw_in tb_506 rfl
theorem lkX10_154 : Cond.methodLink RX10 154 yX8_addEight ∈ UW := uw_in tb_510 rfl
theorem lkL_47 : Cond.methodLink RL 47 yX10_end ∈ UW := uw_in tb_514 rfl
theorem lkL_52 : Cond.methodLink RL 52 yX10_rule ∈ UW := uw_in tb_518 rfl
theorem lkX10_161 : Cond.methodLink RX10 161 yX8_readInto ∈ UW := uw_in tb_522 rfl
theorem lkX8_28 : Cond.methodLink RX8 28 yX5_clear ∈ UW := uw_in tb_526 rfl
theorem lkX8_33 : Cond.methodLink RX8 33 yX8_advance ∈ UW := uw_in tb_530 rfl
theorem lkX8_81 : Cond.methodLink RX8 81 yX8_isLetter ∈ UW := uw_in tb_534 rfl
theorem lkX8_84 : Cond.methodLink RX8 84 yX8_readName ∈ UW := uw_in tb_537 rfl
theorem lkX8_96 : Cond.methodLink RX8 96 yX8_isName ∈ UW := uw_in tb_541 rfl
theorem lkX8_101 : Cond.methodLink RX8 101 yJ0_charAt_5068e ∈ UW := uw_in tb_546 rfl
theorem lkJ0_492 : Cond.methodLink RJ0 492 yJ0_isLatin1_aae02 ∈ UW := uw_in tb_550 rfl
theorem lkJ0_495 : Cond.methodLink RJ0 495 yJ1_charAt_3b067 ∈ UW := uw_in tb_556 rfl
theorem lkJ1_9 : Cond.methodLink RJ1 9 yJ0_checkIndex_df160 ∈ UW := uw_in tb_559 rfl
theorem lkJ0_1059 : Cond.methodLink RJ0 1059 yJ3_checkIndex_8e157 ∈ UW := uw_in tb_564 rfl
theorem lkJ0_498 : Cond.methodLink RJ0 498 yJ2_charAt_3b067 ∈ UW := uw_in tb_567 rfl
theorem lkJ2_67 : Cond.methodLink RJ2 67 yJ2_checkIndex_2214a ∈ UW := uw_in tb_570 rfl
theorem lkJ2_48 : Cond.methodLink RJ2 48 yJ2_length_9d52b ∈ UW := uw_in tb_573 rfl
theorem lkJ2_414 : Cond.methodLink RJ2 414 yJ0_checkIndex_df160 ∈ UW := uw_in tb_576 rfl
theorem lkJ2_71 : Cond.methodLink RJ2 71 yJ2_getChar_3b067 ∈ UW := uw_in tb_577 rfl
theorem lkX8_54 : Cond.methodLink RX8 54 yX8_fail ∈ UW := uw_in tb_586 rfl
theorem lkX8_87 : Cond.methodLink RX8 87 yX8_isFigure ∈ UW := uw_in tb_590 rfl
theorem lkX8_90 : Cond.methodLink RX8 90 yX8_readNumber ∈ UW := uw_in tb_593 rfl
theorem lkX8_93 : Cond.methodLink RX8 93 yX8_readSign ∈ UW := uw_in tb_597 rfl
theorem lkX8_109 : Cond.methodLink RX8 109 yJ0_indexOf_0f7a4 ∈ UW := uw_in tb_602 rfl
theorem lkJ0_633 : Cond.methodLink RJ0 633 yJ0_indexOf_7cf53 ∈ UW := uw_in tb_606 rfl
theorem lkJ0_505 : Cond.methodLink RJ0 505 yJ0_length_8abf5 ∈ UW := uw_in tb_610 rfl
theorem lkJ0_335 : Cond.methodLink RJ0 335 yJ0_coder_7d493 ∈ UW := uw_in tb_614 rfl
theorem lkJ0_637 : Cond.methodLink RJ0 637 yJ1_indexOf_4cfef ∈ UW := uw_in tb_618 rfl
theorem lkJ1_88 : Cond.methodLink RJ1 88 yJ1_canEncode_9a6ad ∈ UW := uw_in tb_621 rfl
theorem lkJ1_92 : Cond.methodLink RJ1 92 yJ9_max_7cf53 ∈ UW := uw_in tb_624 rfl
theorem lkJ1_38 : Cond.methodLink RJ1 38 yJ9_min_7cf53 ∈ UW := uw_in tb_627 rfl
theorem lkJ1_95 : Cond.methodLink RJ1 95 yJ1_indexOfChar_4cfef ∈ UW := uw_in tb_630 rfl
theorem lkJ0_640 : Cond.methodLink RJ0 640 yJ2_indexOf_4cfef ∈ UW := uw_in tb_633 rfl
theorem lkJ2_224 : Cond.methodLink RJ2 224 yJ9_max_7cf53 ∈ UW := uw_in tb_636 rfl
theorem lkJ2_183 : Cond.methodLink RJ2 183 yJ9_min_7cf53 ∈ UW := uw_in tb_637 rfl
theorem lkJ2_228 : Cond.methodLink RJ2 228 yJ2_indexOfChar_4cfef ∈ UW := uw_in tb_639 rfl
theorem lkJ2_96 : Cond.methodLink RJ2 96 yJ2_checkBoundsBeginEnd_d044e ∈ UW := uw_in tb_642 rfl
theorem lkJ2_241 : Cond.methodLink RJ2 241 yJ0_checkBoundsBeginEnd_23922 ∈ UW := uw_in tb_645 rfl
theorem lkJ0_1062 : Cond.methodLink RJ0 1062 yJ3_checkFromToIndex_8c36e ∈ UW := uw_in tb_648 rfl
theorem lkJ2_244 : Cond.methodLink RJ2 244 yJ2_indexOfCharUnsafe_4cfef ∈ UW := uw_in tb_651 rfl
theorem lkJ2_232 : Cond.methodLink RJ2 232 yJ2_indexOfSupplementary_4cfef ∈ UW := uw_in tb_654 rfl
theorem lkJ2_164 : Cond.methodLink RJ2 164 yJ11_isValidCodePoint_9a6ad ∈ UW := uw_in tb_657 rfl
theorem lkJ2_157 : Cond.methodLink RJ2 157 yJ11_highSurrogate_5068e ∈ UW := uw_in tb_660 rfl
theorem lkJ2_161 : Cond.methodLink RJ2 161 yJ11_lowSurrogate_5068e ∈ UW := uw_in tb_664 rfl
theorem lkX8_36 : Cond.methodLink RX8 36 yX8_expect ∈ UW := uw_in tb_668 rfl
theorem lkX8_40 : Cond.methodLink RX8 40 yX8_readKey ∈ UW := uw_in tb_672 rfl
theorem lkX8_57 : Cond.methodLink RX8 57 yX8_isKey ∈ UW := uw_in tb_676 rfl
theorem lkX8_61 : Cond.methodLink RX8 61 yX5_hasKey ∈ UW := uw_in tb_679 rfl
theorem lkX8_64 : Cond.methodLink RX8 64 yX5_addKey ∈ UW := uw_in tb_683 rfl
theorem lkX8_47 : Cond.methodLink RX8 47 yX8_readTest ∈ UW := uw_in tb_687 rfl
theorem lkX8_74 : Cond.methodLink RX8 74 yX5_addTest ∈ UW := uw_in tb_691 rfl
theorem lkL_56 : Cond.methodLink RL 56 yX10_fault ∈ UW := uw_in tb_696 rfl
theorem lkL_60 : Cond.methodLink RL 60 yX10_ruleOf ∈ UW := uw_in tb_700 rfl
theorem lkX10_174 : Cond.methodLink RX10 174 yX10_isRule ∈ UW := uw_in tb_704 rfl
theorem lkX10_180 : Cond.methodLink RX10 180 yX10_isEach ∈ UW := uw_in tb_708 rfl
theorem lkL_64 : Cond.methodLink RL 64 yX10_run ∈ UW := uw_in tb_711 rfl
theorem lkX10_198 : Cond.methodLink RX10 198 yX7_runByNumbers ∈ UW := uw_in tb_715 rfl
theorem lkX7_60 : Cond.methodLink RX7 60 yX7_clear ∈ UW := uw_in tb_719 rfl
theorem lkX7_68 : Cond.methodLink RX7 68 yX7_comeBy ∈ UW := uw_in tb_723 rfl
theorem lkX7_89 : Cond.methodLink RX7 89 yX7_choose ∈ UW := uw_in tb_727 rfl
theorem lkX7_95 : Cond.methodLink RX7 95 yX7_canTake ∈ UW := uw_in tb_731 rfl
theorem lkX7_78 : Cond.methodLink RX7 78 yX0_worthAt ∈ UW := uw_in tb_735 rfl
theorem lkX7_82 : Cond.methodLink RX7 82 yX7_freeAt ∈ UW := uw_in tb_736 rfl
theorem lkX7_105 : Cond.methodLink RX7 105 yX7_canTakeByDrop ∈ UW := uw_in tb_737 rfl
theorem lkX7_116 : Cond.methodLink RX7 116 yX7_weakestAt ∈ UW := uw_in tb_741 rfl
theorem lkX7_108 : Cond.methodLink RX7 108 yX7_passes ∈ UW := uw_in tb_745 rfl
theorem lkX7_125 : Cond.methodLink RX7 125 yX7_keyOf ∈ UW := uw_in tb_749 rfl
theorem lkX7_112 : Cond.methodLink RX7 112 yX7_isAhead ∈ UW := uw_in tb_753 rfl
theorem lkX7_92 : Cond.methodLink RX7 92 yX7_enter ∈ UW := uw_in tb_757 rfl
theorem lkX7_147 : Cond.methodLink RX7 147 yX7_drop ∈ UW := uw_in tb_761 rfl
theorem lkX7_151 : Cond.methodLink RX7 151 yJ9_min_7cf53 ∈ UW := uw_in tb_765 rfl
theorem lkX7_156 : Cond.methodLink RX7 156 yX7_note ∈ UW := uw_in tb_766 rfl
theorem lkX10_201 : Cond.methodLink RX10 201 yX7_value ∈ UW := uw_in tb_770 rfl
theorem lkX10_204 : Cond.methodLink RX10 204 yX7_kept ∈ UW := uw_in tb_774 rfl
theorem lkX10_207 : Cond.methodLink RX10 207 yX7_paired ∈ UW := uw_in tb_778 rfl
theorem lkL_68 : Cond.methodLink RL 68 yX10_runBy ∈ UW := uw_in tb_782 rfl
theorem lkX10_216 : Cond.methodLink RX10 216 yX10_readOrder ∈ UW := uw_in tb_786 rfl
theorem lkX10_219 : Cond.methodLink RX10 219 yX7_clear ∈ UW := uw_in tb_790 rfl
theorem lkX10_222 : Cond.methodLink RX10 222 yX7_comeBy ∈ UW := uw_in tb_791 rfl
theorem lkL_72 : Cond.methodLink RL 72 yX10_best ∈ UW := uw_in tb_792 rfl
theorem lkX10_226 : Cond.methodLink RX10 226 yX3_makeBest ∈ UW := uw_in tb_796 rfl
theorem lkX3_29 : Cond.methodLink RX3 29 yX3_make ∈ UW := uw_in tb_800 rfl
theorem lkX3_42 : Cond.methodLink RX3 42 yX4_shape ∈ UW := uw_in tb_804 rfl
theorem lkX4_33 : Cond.methodLink RX4 33 yX4_addLayer ∈ UW := uw_in tb_808 rfl
theorem lkX3_45 : Cond.methodLink RX3 45 yX4_allFree ∈ UW := uw_in tb_812 rfl
theorem lkX3_52 : Cond.methodLink RX3 52 yJ9_min_7cf53 ∈ UW := uw_in tb_816 rfl
theorem lkX3_58 : Cond.methodLink RX3 58 yX3_fill ∈ UW := uw_in tb_817 rfl
theorem lkX3_69 : Cond.methodLink RX3 69 yX3_greatestFrom ∈ UW := uw_in tb_821 rfl
theorem lkX3_79 : Cond.methodLink RX3 79 yX4_isOpen ∈ UW := uw_in tb_825 rfl
theorem lkX3_86 : Cond.methodLink RX3 86 yJ9_max_7cf53 ∈ UW := uw_in tb_829 rfl
theorem lkX3_62 : Cond.methodLink RX3 62 yX3_pair ∈ UW := uw_in tb_830 rfl
theorem lkX3_89 : Cond.methodLink RX3 89 yX3_leastPost ∈ UW := uw_in tb_834 rfl
theorem lkL_76 : Cond.methodLink RL 76 yX10_bestOf ∈ UW := uw_in tb_838 rfl
theorem lkL_80 : Cond.methodLink RL 80 yX10_price ∈ UW := uw_in tb_842 rfl
theorem lkX10_235 : Cond.methodLink RX10 235 yX3_greatest ∈ UW := uw_in tb_846 rfl
theorem lkL_84 : Cond.methodLink RL 84 yX10_cover ∈ UW := uw_in tb_850 rfl
theorem lkX10_239 : Cond.methodLink RX10 239 yX10_readPrices ∈ UW := uw_in tb_854 rfl
theorem lkX10_243 : Cond.methodLink RX10 243 yX0_gainOver ∈ UW := uw_in tb_859 rfl
theorem lkX0_45 : Cond.methodLink RX0 45 yJ9_max_7cf53 ∈ UW := uw_in tb_863 rfl
theorem lkL_88 : Cond.methodLink RL 88 yX10_share ∈ UW := uw_in tb_864 rfl
theorem lkL_92 : Cond.methodLink RL 92 yX10_mean ∈ UW := uw_in tb_868 rfl
theorem lkX10_251 : Cond.methodLink RX10 251 yX10_meanOverOrders ∈ UW := uw_in tb_874 rfl
theorem lkX10_279 : Cond.methodLink RX10 279 yX2_isStale ∈ UW := uw_in tb_878 rfl
theorem lkX10_282 : Cond.methodLink RX10 282 yX2_start ∈ UW := uw_in tb_882 rfl
theorem lkX10_393 : Cond.methodLink RX10 393 yX10_overOrders ∈ UW := uw_in tb_886 rfl
theorem lkX10_397 : Cond.methodLink RX10 397 yX2_add ∈ UW := uw_in tb_889 rfl
theorem lkX2_26 : Cond.methodLink RX2 26 yJ9_min_7cf53 ∈ UW := uw_in tb_893 rfl
theorem lkX2_32 : Cond.methodLink RX2 32 yJ9_max_7cf53 ∈ UW := uw_in tb_894 rfl
theorem lkX10_354 : Cond.methodLink RX10 354 yX7_takeBack ∈ UW := uw_in tb_895 rfl
theorem lkX7_160 : Cond.methodLink RX7 160 yX7_takeBackDrop ∈ UW := uw_in tb_899 rfl
theorem lkX10_263 : Cond.methodLink RX10 263 yX10_inLowestTerms ∈ UW := uw_in tb_903 rfl
theorem lkX10_411 : Cond.methodLink RX10 411 yX10_commonDivisor ∈ UW := uw_in tb_906 rfl
theorem lkL_97 : Cond.methodLink RL 97 yX10_ends ∈ UW := uw_in tb_909 rfl
theorem lkL_101 : Cond.methodLink RL 101 yX10_meanOfRanks ∈ UW := uw_in tb_913 rfl
theorem lkX10_286 : Cond.methodLink RX10 286 yX0_copyOf ∈ UW := uw_in tb_917 rfl
theorem lkX10_289 : Cond.methodLink RX10 289 yX5_asksRank ∈ UW := uw_in tb_924 rfl
theorem lkX5_58 : Cond.methodLink RX5 58 yX5_hasKey ∈ UW := uw_in tb_928 rfl
theorem lkX10_293 : Cond.methodLink RX10 293 yX10_overRanks ∈ UW := uw_in tb_929 rfl
theorem lkX10_400 : Cond.methodLink RX10 400 yX0_swapRanks ∈ UW := uw_in tb_932 rfl
theorem lkL_105 : Cond.methodLink RL 105 yX10_hope ∈ UW := uw_in tb_936 rfl
theorem lkX10_297 : Cond.methodLink RX10 297 yX1_bringUp ∈ UW := uw_in tb_940 rfl
theorem lkX1_36 : Cond.methodLink RX1 36 yX4_shape ∈ UW := uw_in tb_944 rfl
theorem lkX1_50 : Cond.methodLink RX1 50 yX1_fill ∈ UW := uw_in tb_945 rfl
theorem lkX1_57 : Cond.methodLink RX1 57 yX4_allFree ∈ UW := uw_in tb_949 rfl
theorem lkX1_64 : Cond.methodLink RX1 64 yX1_greatestFor ∈ UW := uw_in tb_950 rfl
theorem lkX1_71 : Cond.methodLink RX1 71 yX0_worthAt ∈ UW := uw_in tb_954 rfl
theorem lkX1_75 : Cond.methodLink RX1 75 yX4_isOpen ∈ UW := uw_in tb_955 rfl
theorem lkX1_79 : Cond.methodLink RX1 79 yX1_byPost ∈ UW := uw_in tb_956 rfl
theorem lkX1_83 : Cond.methodLink RX1 83 yJ9_max_f86c9 ∈ UW := uw_in tb_960 rfl
theorem lkX10_303 : Cond.methodLink RX10 303 yX1_atStart ∈ UW := uw_in tb_963 rfl
theorem lkL_109 : Cond.methodLink RL 109 yX10_hopeFor ∈ UW := uw_in tb_967 rfl
theorem lkX10_311 : Cond.methodLink RX10 311 yX1_firstPost ∈ UW := uw_in tb_971 rfl
theorem lkL_113 : Cond.methodLink RL 113 yX10_batch ∈ UW := uw_in tb_975 rfl
theorem lkX10_314 : Cond.methodLink RX10 314 yX3_make ∈ UW := uw_in tb_979 rfl
theorem lkL_117 : Cond.methodLink RL 117 yX10_worst ∈ UW := uw_in tb_980 rfl
theorem lkX10_322 : Cond.methodLink RX10 322 yX9_isKnown ∈ UW := uw_in tb_984 rfl
theorem lkX10_327 : Cond.methodLink RX10 327 yX10_searchNets ∈ UW := uw_in tb_988 rfl
theorem lkX10_403 : Cond.methodLink RX10 403 yX0_becomeSquare ∈ UW := uw_in tb_992 rfl
theorem lkX10_406 : Cond.methodLink RX10 406 yX0_linkByBits ∈ UW := uw_in tb_996 rfl
theorem lkX10_409 : Cond.methodLink RX10 409 yX9_add ∈ UW := uw_in tb_1000 rfl
theorem lkL_121 : Cond.methodLink RL 121 yX10_come ∈ UW := uw_in tb_1004 rfl
theorem lkL_125 : Cond.methodLink RL 125 yX10_let ∈ UW := uw_in tb_1008 rfl
theorem lkX10_342 : Cond.methodLink RX10 342 yX7_canTake ∈ UW := uw_in tb_1012 rfl
theorem lkX10_345 : Cond.methodLink RX10 345 yX7_enter ∈ UW := uw_in tb_1013 rfl
theorem lkL_129 : Cond.methodLink RL 129 yX10_leave ∈ UW := uw_in tb_1014 rfl
theorem lkX10_348 : Cond.methodLink RX10 348 yX7_goAway ∈ UW := uw_in tb_1018 rfl
theorem lkL_133 : Cond.methodLink RL 133 yX10_undo ∈ UW := uw_in tb_1022 rfl
theorem lkL_137 : Cond.methodLink RL 137 yX10_market ∈ UW := uw_in tb_1026 rfl
theorem lkL_141 : Cond.methodLink RL 141 yX10_sheet ∈ UW := uw_in tb_1030 rfl
theorem lkX10_357 : Cond.methodLink RX10 357 yX10_isSheet ∈ UW := uw_in tb_1034 rfl
theorem lkX10_360 : Cond.methodLink RX10 360 yX6_renew ∈ UW := uw_in tb_1037 rfl
theorem lkX6_22 : Cond.methodLink RX6 22 yJ7_fill_53178 ∈ UW := uw_in tb_1041 rfl
theorem lkL_145 : Cond.methodLink RL 145 yX10_lay ∈ UW := uw_in tb_1042 rfl
theorem lkX10_363 : Cond.methodLink RX10 363 yX6_isNothing ∈ UW := uw_in tb_1046 rfl
theorem lkX10_366 : Cond.methodLink RX10 366 yX6_hasCell ∈ UW := uw_in tb_1050 rfl
theorem lkX10_369 : Cond.methodLink RX10 369 yX6_put ∈ UW := uw_in tb_1054 rfl
theorem lkL_149 : Cond.methodLink RL 149 yX10_net ∈ UW := uw_in tb_1058 rfl
theorem lkX10_378 : Cond.methodLink RX10 378 yX10_readWorths ∈ UW := uw_in tb_1062 rfl
theorem lkL_153 : Cond.methodLink RL 153 yX10_count ∈ UW := uw_in tb_1066 rfl
theorem lkX10_382 : Cond.methodLink RX10 382 yX0_allLinks ∈ UW := uw_in tb_1070 rfl
theorem lkX0_41 : Cond.methodLink RX0 41 yX0_linksOf ∈ UW := uw_in tb_1074 rfl
theorem lkL_12 : Cond.methodLink RL 12 yX11_init ∈ UW := uw_in tb_1077 rfl
theorem lkL_17 : Cond.methodLink RL 17 yX11_post ∈ UW := uw_in tb_1259 rfl
theorem lkX11_126 : Cond.methodLink RX11 126 yX11_in ∈ UW := uw_in tb_1264 rfl
theorem lkX11_139 : Cond.methodLink RX11 139 yX11_came ∈ UW := uw_in tb_1269 rfl
theorem lkX11_143 : Cond.methodLink RX11 143 yX11_roomSum ∈ UW := uw_in tb_1273 rfl
theorem lkL_22 : Cond.methodLink RL 22 yX11_guest ∈ UW := uw_in tb_1277 rfl
theorem lkL_26 : Cond.methodLink RL 26 yX11_worth ∈ UW := uw_in tb_1281 rfl
theorem lkX11_146 : Cond.methodLink RX11 146 yX11_isGuest ∈ UW := uw_in tb_1285 rfl
theorem lkX11_150 : Cond.methodLink RX11 150 yX11_isPost ∈ UW := uw_in tb_1289 rfl
theorem lkL_31 : Cond.methodLink RL 31 yX11_chance ∈ UW := uw_in tb_1293 rfl
theorem lkL_35 : Cond.methodLink RL 35 yX11_rank ∈ UW := uw_in tb_1298 rfl
theorem lkL_39 : Cond.methodLink RL 39 yX11_told ∈ UW := uw_in tb_1302 rfl
theorem lkX11_157 : Cond.methodLink RX11 157 yX11_linksOf ∈ UW := uw_in tb_1307 rfl
theorem lkL_46 : Cond.methodLink RL 46 yX11_feed ∈ UW := uw_in tb_1311 rfl
theorem lkL_51 : Cond.methodLink RL 51 yX11_end ∈ UW := uw_in tb_1315 rfl
theorem lkL_55 : Cond.methodLink RL 55 yX11_rule ∈ UW := uw_in tb_1319 rfl
theorem lkX11_223 : Cond.methodLink RX11 223 yX11_readRule ∈ UW := uw_in tb_1323 rfl
theorem lkX11_204 : Cond.methodLink RX11 204 yX11_next ∈ UW := uw_in tb_1327 rfl
theorem lkX11_173 : Cond.methodLink RX11 173 yX11_byteAt ∈ UW := uw_in tb_1331 rfl
theorem lkX11_189 : Cond.methodLink RX11 189 yX11_nameAt ∈ UW := uw_in tb_1337 rfl
theorem lkX11_193 : Cond.methodLink RX11 193 yX11_fails ∈ UW := uw_in tb_1341 rfl
theorem lkX11_214 : Cond.methodLink RX11 214 yX11_isName ∈ UW := uw_in tb_1347 rfl
theorem lkX11_217 : Cond.methodLink RX11 217 yX11_key ∈ UW := uw_in tb_1351 rfl
theorem lkX11_201 : Cond.methodLink RX11 201 yX11_isSign ∈ UW := uw_in tb_1355 rfl
theorem lkX11_207 : Cond.methodLink RX11 207 yX11_isKey ∈ UW := uw_in tb_1359 rfl
theorem lkX11_220 : Cond.methodLink RX11 220 yX11_test ∈ UW := uw_in tb_1363 rfl
theorem lkL_59 : Cond.methodLink RL 59 yX11_fault ∈ UW := uw_in tb_1367 rfl
theorem lkL_63 : Cond.methodLink RL 63 yX11_ruleOf ∈ UW := uw_in tb_1371 rfl
theorem lkX11_229 : Cond.methodLink RX11 229 yX11_isRule ∈ UW := uw_in tb_1375 rfl
theorem lkL_67 : Cond.methodLink RL 67 yX11_run ∈ UW := uw_in tb_1380 rfl
theorem lkX11_273 : Cond.methodLink RX11 273 yX11_loadMain ∈ UW := uw_in tb_1384 rfl
theorem lkX11_246 : Cond.methodLink RX11 246 yX11_fresh ∈ UW := uw_in tb_1388 rfl
theorem lkX11_276 : Cond.methodLink RX11 276 yX11_runByNumbers ∈ UW := uw_in tb_1392 rfl
theorem lkX11_270 : Cond.methodLink RX11 270 yX11_comes ∈ UW := uw_in tb_1396 rfl
theorem lkX11_259 : Cond.methodLink RX11 259 yX11_canHave ∈ UW := uw_in tb_1400 rfl
theorem lkX11_249 : Cond.methodLink RX11 249 yX11_heldBy ∈ UW := uw_in tb_1404 rfl
theorem lkX11_252 : Cond.methodLink RX11 252 yX11_lastOf ∈ UW := uw_in tb_1408 rfl
theorem lkX11_255 : Cond.methodLink RX11 255 yX11_keyOf ∈ UW := uw_in tb_1412 rfl
theorem lkX11_263 : Cond.methodLink RX11 263 yX11_isAhead ∈ UW := uw_in tb_1416 rfl
theorem lkX11_267 : Cond.methodLink RX11 267 yX11_takes ∈ UW := uw_in tb_1420 rfl
theorem lkX11_279 : Cond.methodLink RX11 279 yX11_valueNow ∈ UW := uw_in tb_1424 rfl
theorem lkX11_282 : Cond.methodLink RX11 282 yX11_keptNow ∈ UW := uw_in tb_1428 rfl
theorem lkL_71 : Cond.methodLink RL 71 yX11_runBy ∈ UW := uw_in tb_1432 rfl
theorem lkX11_285 : Cond.methodLink RX11 285 yX11_runByOrder ∈ UW := uw_in tb_1436 rfl
theorem lkL_75 : Cond.methodLink RL 75 yX11_best ∈ UW := uw_in tb_1440 rfl
theorem lkX11_305 : Cond.methodLink RX11 305 yX11_capsAsRooms ∈ UW := uw_in tb_1444 rfl
theorem lkX11_295 : Cond.methodLink RX11 295 yX11_layFigures ∈ UW := uw_in tb_1448 rfl
theorem lkX11_308 : Cond.methodLink RX11 308 yX11_bestSum ∈ UW := uw_in tb_1452 rfl
theorem lkX11_298 : Cond.methodLink RX11 298 yX11_layBest ∈ UW := uw_in tb_1456 rfl
theorem lkX11_291 : Cond.methodLink RX11 291 yX11_hasRoom ∈ UW := uw_in tb_1460 rfl
theorem lkX11_302 : Cond.methodLink RX11 302 yX11_whole ∈ UW := uw_in tb_1464 rfl
theorem lkL_79 : Cond.methodLink RL 79 yX11_bestOf ∈ UW := uw_in tb_1468 rfl
theorem lkX11_311 : Cond.methodLink RX11 311 yX11_layPairs ∈ UW := uw_in tb_1472 rfl
theorem lkL_83 : Cond.methodLink RL 83 yX11_price ∈ UW := uw_in tb_1476 rfl
theorem lkX11_314 : Cond.methodLink RX11 314 yX11_best ∈ UW := uw_in tb_1480 rfl
theorem lkL_87 : Cond.methodLink RL 87 yX11_cover ∈ UW := uw_in tb_1481 rfl
theorem lkL_91 : Cond.methodLink RL 91 yX11_share ∈ UW := uw_in tb_1486 rfl
theorem lkL_96 : Cond.methodLink RL 96 yX11_mean ∈ UW := uw_in tb_1490 rfl
theorem lkX11_344 : Cond.methodLink RX11 344 yX11_layMean ∈ UW := uw_in tb_1496 rfl
theorem lkX11_321 : Cond.methodLink RX11 321 yX11_firstOrder ∈ UW := uw_in tb_1500 rfl
theorem lkX11_337 : Cond.methodLink RX11 337 yX11_nextOrder ∈ UW := uw_in tb_1504 rfl
theorem lkX11_318 : Cond.methodLink RX11 318 yX11_change ∈ UW := uw_in tb_1508 rfl
theorem lkX11_347 : Cond.methodLink RX11 347 yX11_lowest ∈ UW := uw_in tb_1512 rfl
theorem lkL_100 : Cond.methodLink RL 100 yX11_ends ∈ UW := uw_in tb_1515 rfl
theorem lkL_104 : Cond.methodLink RL 104 yX11_meanOfRanks ∈ UW := uw_in tb_1519 rfl
theorem lkL_108 : Cond.methodLink RL 108 yX11_hope ∈ UW := uw_in tb_1523 rfl
theorem lkX11_351 : Cond.methodLink RX11 351 yX11_chanceSum ∈ UW := uw_in tb_1527 rfl
theorem lkX11_358 : Cond.methodLink RX11 358 yX11_layHopes ∈ UW := uw_in tb_1531 rfl
theorem lkX11_354 : Cond.methodLink RX11 354 yX11_pairing ∈ UW := uw_in tb_1535 rfl
theorem lkL_112 : Cond.methodLink RL 112 yX11_hopeFor ∈ UW := uw_in tb_1539 rfl
theorem lkL_116 : Cond.methodLink RL 116 yX11_batch ∈ UW := uw_in tb_1543 rfl
theorem lkL_120 : Cond.methodLink RL 120 yX11_worst ∈ UW := uw_in tb_1547 rfl
theorem lkX11_361 : Cond.methodLink RX11 361 yX11_loadNet ∈ UW := uw_in tb_1551 rfl
theorem lkX11_364 : Cond.methodLink RX11 364 yX11_mostPairs ∈ UW := uw_in tb_1555 rfl
theorem lkL_124 : Cond.methodLink RL 124 yX11_come ∈ UW := uw_in tb_1559 rfl
theorem lkX11_373 : Cond.methodLink RX11 373 yX11_record ∈ UW := uw_in tb_1563 rfl
theorem lkX11_376 : Cond.methodLink RX11 376 yX11_loadMarket ∈ UW := uw_in tb_1567 rfl
theorem lkX11_379 : Cond.methodLink RX11 379 yX11_storeMarket ∈ UW := uw_in tb_1571 rfl
theorem lkL_128 : Cond.methodLink RL 128 yX11_let ∈ UW := uw_in tb_1575 rfl
theorem lkL_132 : Cond.methodLink RL 132 yX11_leave ∈ UW := uw_in tb_1579 rfl
theorem lkL_136 : Cond.methodLink RL 136 yX11_undo ∈ UW := uw_in tb_1583 rfl
theorem lkL_140 : Cond.methodLink RL 140 yX11_market ∈ UW := uw_in tb_1587 rfl
theorem lkL_144 : Cond.methodLink RL 144 yX11_sheet ∈ UW := uw_in tb_1592 rfl
theorem lkL_148 : Cond.methodLink RL 148 yX11_lay ∈ UW := uw_in tb_1597 rfl
theorem lkL_152 : Cond.methodLink RL 152 yX11_net ∈ UW := uw_in tb_1601 rfl
theorem lkL_156 : Cond.methodLink RL 156 yX11_count ∈ UW := uw_in tb_1605 rfl
