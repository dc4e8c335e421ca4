-- PURE LAYER: all orders, the reference
theorem runOrd {F : Nat} (hF : 100 ≤ F) {r : Int} (hr : 0 ≤ r ∧ r < 6) {σ0 τ0 : St} (hx : Ready σ0 r τ0) {G : Nat} (hG : σ0 1 6 = (G : Int)) (hG6 : G ≤ 6) {L : List Int} (hl : L.length = G) (he : ∀ g ∈ L, 0 ≤ g ∧ g < (G : Int)) (hnd : L.Nodup) (ho : ∀ j : Nat, j < G → τ0 166 j = lF L j) : ∀ (B A : List Int) (σA τA : St) (k : Nat), A ++ B = L → AtC F r σ0 σA A → AlongM F r A τ0 = some τA → B.length < k → ∃ τ', gX11_runByOrder_L6 F r k A.length τA = some (VL F r τ0 L, τ') ∧ ∀ a b, ¬ supC a b → τ' a b = τ0 a b := by
  have b17 : bd 17 = 1 := by decide
  have t27 : τ0 143 27 = (G : Int) := by
    have := hx.2.1.1.2
    rw [b17, hG] at this
    exact this
  intro B
  induction B with
  | nil =>
    intro A σA τA k h1 h2 h3 h4
    obtain ⟨k, rfl⟩ : ∃ n', k = n' + 1 := ⟨k - 1, by omega⟩
    rw [List.append_nil] at h1
    subst h1
    obtain ⟨τ, e1, e2, e3⟩ := h2.1 τ0 hx
    rw [h3] at e1
    obtain rfl := Option.some.inj e1
    have tA : τA 143 27 = (G : Int) := by rw [e3 143 27 (by unfold supC; omega)]; exact t27
    obtain ⟨r1, -⟩ := e2.rel
    refine ⟨τA, ?_, e3⟩
    rw [gX11_runByOrder_L6, tA, w32_id (a := (A.length : Int)) (by omega), w32_id (a := (G : Int)) (by omega), if_pos (by omega), valueNow_eq hF r1.1, Option.bind_some]
    unfold VL
    rw [h3]
  | cons g B ih =>
    intro A σA τA k h1 h2 h3 h4
    obtain ⟨k, rfl⟩ : ∃ n', k = n' + 1 := ⟨k - 1, by omega⟩
    have hgL : g ∈ L := by rw [← h1]; simp
    have hgr := he g hgL
    have hlen : A.length + (B.length + 1) = G := by
      rw [← hl, ← h1, List.length_append]
      rfl
    have hgA : g ∉ A := by
      rw [← h1] at hnd
      intro z
      have := (List.nodup_append.mp hnd).2.2 g z g (by simp)
      exact this rfl
    obtain ⟨τ, e1, e2, e3⟩ := h2.1 τ0 hx
    rw [h3] at e1
    obtain rfl := Option.some.inj e1
    have tA : τA 143 27 = (G : Int) := by rw [e3 143 27 (by unfold supC; omega)]; exact t27
    have og : τA 166 (A.length : Int) = g := by
      rw [e3 166 _ (by unfold supC; omega), ho A.length (by omega)]
      unfold lF
      rw [Int.toNat_natCast, ← h1, List.getD_eq_getElem?_getD, List.getElem?_append_right (Nat.le_refl _), Nat.sub_self]
      rfl
    obtain ⟨p, c1, c2, -⟩ := h2.step hF hr ⟨τ0, hx⟩ (by omega) (g := g) ⟨hgr.1, by rw [hG]; exact hgr.2⟩ hgA (by omega)
    obtain ⟨τ2, f1, f2, f3⟩ := c2.1 τ0 hx
    have f1' := f1
    rw [AlongM_app, h3, Option.bind_some] at f1'
    cases hz : gX11_comes F τA g r with
    | none => rw [hz] at f1'; cases f1'
    | some z =>
      rw [hz, Option.bind_some] at f1'
      have ez : z.2 = τ2 := Option.some.inj f1'
      obtain ⟨τ', d1, d2⟩ := ih (A ++ [g]) (enterS σA 17 g p) τ2 k (by rw [List.append_assoc]; exact h1) c2 f1 (by have : (g :: B).length = B.length + 1 := rfl; omega)
      refine ⟨τ', ?_, d2⟩
      rw [gX11_runByOrder_L6, tA, w32_id (a := (A.length : Int)) (by omega), w32_id (a := (G : Int)) (by omega), if_neg (by omega), gd_pos (by omega), og, hz, Option.bind_some, ez]
      rw [List.length_append] at d1
      exact d1
/-- a store of the reference that has the board of σ0 in its area -/
def Loaded (σ0 : St) (r : Int) (τ : St) : Prop := RelE σ0 17 τ ∧ RuleOK τ r ∧ ∀ c, 63 + 12 * r ≤ c → c ≤ 68 + 12 * r → τ c = σ0 c
theorem Loaded.frame {σ0 τ τ' : St} {r : Int} (hr : 0 ≤ r ∧ r < 6) (h : Loaded σ0 r τ) (hs : ∀ a b, ¬ supC a b → a ≠ 166 → ¬ (a = 143 ∧ 37 ≤ b ∧ b ≤ 46) → τ' a b = τ a b) : Loaded σ0 r τ' := by
  obtain ⟨h1, h2, h3⟩ := h
  have c : ∀ a, 159 ≤ a ∧ a ≤ 162 → τ' a = τ a := fun a q => by funext b; exact hs a b (by unfold supC; omega) (by omega) (by omega)
  refine ⟨?_, h2.frame hr (fun a b q => hs a b (by unfold supR at q; unfold supC; omega) (by unfold supR at q; omega) (by unfold supR at q; omega)), fun x q1 q2 => by rw [← h3 x q1 q2]; funext b; exact hs x b (by unfold supC; omega) (by omega) (by omega)⟩
  unfold RelE at h1 ⊢
  rw [hs 143 26 (by unfold supC; omega) (by omega) (by omega), hs 143 27 (by unfold supC; omega) (by omega) (by omega), c 159 (by omega), c 160 (by omega), c 161 (by omega), c 162 (by omega)]
  exact h1
theorem Loaded.fresh {F : Nat} (hF : 100 ≤ F) {σ0 τ : St} {r : Int} (hr : 0 ≤ r ∧ r < 6) (h : Loaded σ0 r τ) : ∃ τ1, gX11_fresh F τ = some τ1 ∧ Ready σ0 r τ1 ∧ ∀ a b, ¬ supC a b → τ1 a b = τ a b := by
  obtain ⟨τ1, f1, f2⟩ := fresh_eq hF τ
  have fo : ∀ a b, ¬ supC a b → τ1 a b = τ a b := fun a b q => by
    unfold supC at q
    rw [f2, if_neg (by omega), if_neg (by omega), if_neg (by omega), if_neg (by omega)]
  obtain ⟨l1, l2, l3⟩ := h.frame hr (τ' := τ1) (fun a b q _ _ => fo a b q)
  refine ⟨τ1, f1, ⟨⟨⟨by rw [f2, if_pos (by omega)], by rw [f2, if_pos (by omega)]⟩, fun p q1 q2 => by rw [f2, if_neg (by omega), if_neg (by omega), if_neg (by omega), if_pos (by omega)], fun g q1 q2 => ⟨by rw [f2, if_neg (by omega), if_pos (by omega)], by rw [f2, if_neg (by omega), if_neg (by omega), if_pos (by omega)]⟩⟩, l1, l2, l3⟩, fo⟩
/-- a list of guests, each once: the class can go along it -/
theorem AtC.list {F : Nat} (hF : 100 ≤ F) {r : Int} (hr : 0 ≤ r ∧ r < 6) {σ0 τc : St} (hx : Ready σ0 r τc) (hB : BdOK σ0 1) {G : Nat} (hG : σ0 1 6 = (G : Int)) (hG6 : G ≤ 6) : ∀ (B A : List Int) (σA : St), (A ++ B).length ≤ G → (∀ g ∈ B, 0 ≤ g ∧ g < (G : Int)) → (A ++ B).Nodup → AtC F r σ0 σA A → ∃ σ, AtC F r σ0 σ (A ++ B) := by
  intro B
  induction B with
  | nil => intro A σA _ _ _ h; exact ⟨σA, by rw [List.append_nil]; exact h⟩
  | cons g B ih =>
    intro A σA h1 h2 h3 h4
    have hl : A.length + (B.length + 1) ≤ G := by rw [List.length_append] at h1; exact h1
    have hgA : g ∉ A := fun z => (List.nodup_append.mp h3).2.2 g z g (by simp) rfl
    have hg := h2 g (by simp)
    obtain ⟨p, c1, c2, -⟩ := h4.step hF hr ⟨τc, hx⟩ (by omega) (g := g) ⟨hg.1, by rw [hG]; exact hg.2⟩ hgA (by omega)
    have := ih (A ++ [g]) (enterS σA 17 g p) (by rw [List.append_assoc]; exact h1) (fun x hx' => h2 x (List.mem_cons_of_mem _ hx')) (by rw [List.append_assoc]; exact h3) c2
    rw [List.append_assoc] at this
    exact this
/-- the reference's run by the order that stands in its store -/
theorem runByOrder_eq {F : Nat} (hF : 100 ≤ F) {r : Int} (hr : 0 ≤ r ∧ r < 6) {σ0 τc τ : St} (hx : Ready σ0 r τc) (hB : BdOK σ0 1) {G : Nat} (hG : σ0 1 6 = (G : Int)) (hG6 : G ≤ 6) {L : List Int} (hl : L.length = G) (he : ∀ g ∈ L, 0 ≤ g ∧ g < (G : Int)) (hnd : L.Nodup) (hld : Loaded σ0 r τ) (ho : ∀ j : Nat, j < G → τ 166 j = lF L j) : ∃ τ', gX11_runByOrder F τ r = some (VL F r τc L, τ') ∧ (0 ≤ VL F r τc L ∧ VL F r τc L ≤ 6000) ∧ ∀ a b, ¬ supC a b → τ' a b = τ a b := by
  obtain ⟨τ1, f1, f2, f3⟩ := hld.fresh hF hr
  have st := AtC.start (F := F) hr hB (σ := σ0) ⟨fun _ _ _ => rfl, fun _ _ _ => rfl⟩
  obtain ⟨σl, hl'⟩ := AtC.list hF hr hx hB hG hG6 L [] (clearS σ0 17) (by simp; omega) he (by simpa using hnd) st
  rw [List.nil_append] at hl'
  obtain ⟨v1, v2⟩ := hl'.val hx
  obtain ⟨τ', d1, d2⟩ := runOrd hF hr f2 hG hG6 hl he hnd (fun j hj => by rw [f3 166 j (by unfold supC; omega)]; exact ho j hj) L [] (clearS σ0 17) τ1 F rfl st rfl (by omega)
  rw [v1 τ1 f2, ← v1 τc hx] at d1
  refine ⟨τ', ?_, by rw [v1 τc hx]; exact v2, fun a b q => by rw [d2 a b q, f3 a b q]⟩
  unfold gX11_runByOrder
  rw [f1, Option.bind_some]
  exact d1
