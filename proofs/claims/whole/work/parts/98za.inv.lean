-- ASSEMBLY (1): the whole invariant and how a call keeps it
theorem MeanOK.frame2 {F : Nat} {σ σ' : St} {r : Int} (h : MeanOK F σ r) (h1 : ∀ a, 1 ≤ a ∧ a ≤ 6 ∨ 63 + 12 * r ≤ a ∧ a ≤ 68 + 12 * r → σ' a = σ a) (h2 : ∀ b, 0 ≤ b → b ≤ 4 → σ' (69 + 12 * r) b = σ (69 + 12 * r) b) (h0 : σ' 0 12 ≤ r → σ 0 12 ≤ r) : MeanOK F σ' r := by
  obtain ⟨k1, k2, k3⟩ := h
  have em : MF σ' (69 + 12 * r) = MF σ (69 + 12 * r) := by unfold MF; rw [h2 1 (by omega) (by omega), h2 2 (by omega) (by omega), h2 3 (by omega) (by omega), h2 4 (by omega) (by omega)]
  refine ⟨by rw [h2 0 (by omega) (by omega), h1 1 (by omega)]; exact k1, by rw [h2 0 (by omega) (by omega)]; exact fun q => k2 (h0 q), ?_⟩
  rw [h2 0 (by omega) (by omega), h1 1 (by omega), em]
  exact fun q => ⟨(k3 q).1, fun τ hτ => (k3 q).2 τ (hτ.frame h1)⟩
theorem MeanOK.none {F : Nat} {σ' : St} {r : Int} (h : σ' (69 + 12 * r) 0 = -1) (hv : 0 ≤ σ' 1 7) : MeanOK F σ' r := ⟨by omega, fun _ => h, fun q => by omega⟩
theorem RkMean.frame2 {F : Nat} {σ σ' : St} {r : Int} (hr : 0 ≤ r) (h : RkMean F σ r) (h1 : ∀ a, 1 ≤ a ∧ a ≤ 6 ∨ 63 + 12 * r ≤ a ∧ a ≤ 68 + 12 * r → σ' a = σ a) (h2 : ∀ b, 0 ≤ b → b ≤ 4 → σ' (70 + 12 * r) b = σ (70 + 12 * r) b) (h0 : σ' 0 12 ≤ r → σ 0 12 ≤ r) : RkMean F σ' r := by
  obtain ⟨k1, k2, k3⟩ := h
  have er : rhoL σ' = rhoL σ := by funext L p; unfold rhoL; rw [h1 1 (by omega), h1 3 (by omega)]
  have es : rsum F σ' r = rsum F σ r := by funext τ; unfold rsum; rw [er, h1 1 (by omega)]
  have ew : rway σ' = rway σ := by unfold rway; rw [h1 1 (by omega)]
  refine ⟨by rw [h2 0 (by omega) (by omega), h1 1 (by omega)]; exact k1, by rw [h2 0 (by omega) (by omega)]; exact fun q => k2 (h0 q), ?_⟩
  rw [h2 0 (by omega) (by omega), h2 1 (by omega) (by omega), h2 2 (by omega) (by omega), h1 1 (by omega), es, ew, er]
  unfold NoRk
  rw [h1 (63 + 12 * r) (by omega), h1 (63 + 12 * r + 1) (by omega), h1 (63 + 12 * r + 3) (by omega)]
  exact fun q τ hτ => k3 q τ (hτ.back h1)
theorem RkMean.none {F : Nat} {σ' : St} {r : Int} (h : σ' (70 + 12 * r) 0 = -1) (hv : 0 ≤ σ' 1 7) : RkMean F σ' r := ⟨by omega, fun _ => h, fun q => by omega⟩
theorem PlanOK.grow {σ σ' : St} (h : PlanOK σ) (hv : σ 1 7 < σ' 1 7) (h4 : σ' 43 4 = σ 43 4) : PlanOK σ' := by
  obtain ⟨h1, h2, h3⟩ := h
  exact ⟨by omega, by omega, fun q => by omega⟩
theorem HopesOK.grow {σ σ' : St} (h : HopesOK σ) (hv : σ 1 7 < σ' 1 7) (h4 : σ' 50 5 = σ 50 5) (h6 : ∀ j, σ' 56 j = σ 56 j) : HopesOK σ' := by
  obtain ⟨h1, h2, h3⟩ := h
  exact ⟨by omega, fun j q1 q2 => by rw [h6 j]; exact h2 j q1 q2, fun q => by omega⟩
/-- the whole invariant -/
def InvA (F : Nat) (n : Nat) (σ : St) : Prop := (InvB n σ) ∧ (InvR σ) ∧ (InvT σ) ∧ (InvS σ) ∧ (InvM σ) ∧ (PlanOK σ) ∧ (HopesOK σ) ∧ (∀ r, 0 ≤ r → r < 6 → MeanOK F σ r) ∧ (∀ r, 0 ≤ r → r < 6 → RkMean F σ r) ∧ (∀ r (n : Nat), 0 ≤ r → r < 6 → 1 ≤ n → n ≤ 3 → WorstOK F σ r n) ∧ (TrOK σ) ∧ (Ew σ)
theorem InvA.B {F n : Nat} {σ : St} (h : InvA F n σ) : InvB n σ := h.1
theorem InvA.R {F n : Nat} {σ : St} (h : InvA F n σ) : InvR σ := h.2.1
theorem InvA.T {F n : Nat} {σ : St} (h : InvA F n σ) : InvT σ := h.2.2.1
theorem InvA.S {F n : Nat} {σ : St} (h : InvA F n σ) : InvS σ := h.2.2.2.1
theorem InvA.M {F n : Nat} {σ : St} (h : InvA F n σ) : InvM σ := h.2.2.2.2.1
theorem InvA.P {F n : Nat} {σ : St} (h : InvA F n σ) : PlanOK σ := h.2.2.2.2.2.1
theorem InvA.H {F n : Nat} {σ : St} (h : InvA F n σ) : HopesOK σ := h.2.2.2.2.2.2.1
theorem InvA.N {F n : Nat} {σ : St} (h : InvA F n σ) : ∀ r, 0 ≤ r → r < 6 → MeanOK F σ r := h.2.2.2.2.2.2.2.1
theorem InvA.K {F n : Nat} {σ : St} (h : InvA F n σ) : ∀ r, 0 ≤ r → r < 6 → RkMean F σ r := h.2.2.2.2.2.2.2.2.1
theorem InvA.W {F n : Nat} {σ : St} (h : InvA F n σ) : ∀ r (n : Nat), 0 ≤ r → r < 6 → 1 ≤ n → n ≤ 3 → WorstOK F σ r n := h.2.2.2.2.2.2.2.2.2.1
theorem InvA.t {F n : Nat} {σ : St} (h : InvA F n σ) : TrOK σ := h.2.2.2.2.2.2.2.2.2.2.1
theorem InvA.e {F n : Nat} {σ : St} (h : InvA F n σ) : Ew σ := h.2.2.2.2.2.2.2.2.2.2.2
theorem InvA.next {F n : Nat} {σ : St} (h : InvA F n σ) : InvA F (n + 1) σ := ⟨h.B.next, h.R, h.T, h.S, h.M, h.P, h.H, h.N, h.K, h.W, h.t, h.e⟩
/-- a call that leaves the board and the rules as they are -/
theorem InvA.step {F n : Nat} {σ σ2 : St} {D : Int → Int → Prop} (h : InvA F n σ) (hs : ∀ a b, ¬ scr a b → a ≠ 162 → a ≠ 32 → ¬ D a b → σ2 a b = σ a b) (nB : ∀ a b, D a b → ¬ (supB a b ∨ a = 1 ∨ supR a b))
    (oT : (∀ a b, supT a b → ¬ D a b) ∨ InvT σ2) (oS : (∀ a b, supS a b → ¬ D a b) ∨ InvS σ2) (oM : (∀ a b, supM a b → ¬ D a b) ∨ InvM σ2) (oP : (∀ a b, supP a b → ¬ D a b) ∨ PlanOK σ2) (oH : (∀ a b, supH a b → ¬ D a b) ∨ HopesOK σ2)
    (oN : ∀ r, 0 ≤ r → r < 6 → (∀ b, 0 ≤ b → b ≤ 4 → ¬ D (69 + 12 * r) b) ∨ MeanOK F σ2 r) (oK : ∀ r, 0 ≤ r → r < 6 → (∀ b, 0 ≤ b → b ≤ 4 → ¬ D (70 + 12 * r) b) ∨ RkMean F σ2 r)
    (oW : ∀ r (n : Nat), 0 ≤ r → r < 6 → 1 ≤ n → n ≤ 3 → (∀ b, 0 ≤ b → b ≤ 3 → ¬ D (71 + 12 * r + n) b) ∨ WorstOK F σ2 r n) (ot : (σ2 32 = σ 32) ∨ TrOK σ2) (oe : (σ2 162 = σ 162) ∨ Ew σ2) : InvA F (n + 1) σ2 := by
  have eB : ∀ a b, supB a b → σ2 a b = σ a b := fun a b q => hs a b (by unfold supB at q; unfold scr; omega) (by unfold supB at q; omega) (by unfold supB at q; omega) (fun w => nB a b w (Or.inl q))
  have e1 : ∀ a, 1 ≤ a → a ≤ 6 → σ2 a = σ a := fun a q1 q2 => by
    funext b
    refine hs a b (by unfold scr; omega) (by omega) (by omega) (fun w => nB a b w ?_)
    by_cases z : a = 1
    · exact Or.inr (Or.inl z)
    · exact Or.inl (by unfold supB; omega)
  have eR : ∀ a b, supR a b → σ2 a b = σ a b := fun a b q => hs a b (by unfold supR at q; unfold scr; omega) (by unfold supR at q; omega) (by unfold supR at q; omega) (fun w => nB a b w (Or.inr (Or.inr q)))
  have eRc : ∀ r, 0 ≤ r → r < 6 → ∀ c, 63 + 12 * r ≤ c → c ≤ 68 + 12 * r → σ2 c = σ c := fun r r1 r2 c q1 q2 => by funext b; exact eR c b (by unfold supR; omega)
  have e12 : σ2 0 12 = σ 0 12 := eR 0 12 (by unfold supR; omega)
  have eC : ∀ r, 0 ≤ r → r < 6 → ∀ a, 1 ≤ a ∧ a ≤ 6 ∨ 63 + 12 * r ≤ a ∧ a ≤ 68 + 12 * r → σ2 a = σ a := fun r r1 r2 a q => by
    rcases q with q | q
    · exact e1 a q.1 q.2
    · exact eRc r r1 r2 a q.1 q.2
  refine ⟨(h.B.frame eB).next, h.R.frame eR, ?_, ?_, ?_, ?_, ?_, fun r r1 r2 => ?_, fun r r1 r2 => ?_, fun r m r1 r2 m1 m2 => ?_, ?_, ?_⟩
  · rcases oT with o | o
    · exact h.T.frame (fun a b q => hs a b (by unfold supT at q; unfold scr; omega) (by unfold supT at q; omega) (by unfold supT at q; omega) (o a b q))
    · exact o
  · rcases oS with o | o
    · exact h.S.frame (fun a b q => hs a b (by unfold supS at q; unfold scr; omega) (by unfold supS at q; omega) (by unfold supS at q; omega) (o a b q))
    · exact o
  · rcases oM with o | o
    · refine h.M.frame (fun a b q => ?_)
      rcases q with q | q
      · exact hs a b (by unfold supM at q; unfold scr; omega) (by unfold supM at q; omega) (by unfold supM at q; omega) (o a b q)
      · exact eB a b (by unfold redM at q; unfold supB; omega)
    · exact o
  · rcases oP with o | o
    · refine h.P.frame (fun a b q => ?_)
      rcases q with q | q
      · exact hs a b (by unfold supP at q; unfold scr; omega) (by unfold supP at q; omega) (by unfold supP at q; omega) (o a b q)
      · exact eB a b q
    · exact o
  · rcases oH with o | o
    · refine h.H.frame (fun a b q => ?_)
      rcases q with q | q
      · exact hs a b (by unfold supH at q; unfold scr; omega) (by unfold supH at q; omega) (by unfold supH at q; omega) (o a b q)
      · exact eB a b q
    · exact o
  · rcases oN r r1 r2 with o | o
    · exact (h.N r r1 r2).frame2 (eC r r1 r2) (fun b q1 q2 => hs _ b (by unfold scr; omega) (by omega) (by omega) (o b q1 q2)) (by rw [e12]; exact id)
    · exact o
  · rcases oK r r1 r2 with o | o
    · exact (h.K r r1 r2).frame2 r1 (eC r r1 r2) (fun b q1 q2 => hs _ b (by unfold scr; omega) (by omega) (by omega) (o b q1 q2)) (by rw [e12]; exact id)
    · exact o
  · rcases oW r m r1 r2 m1 m2 with o | o
    · exact (h.W r m r1 r2 m1 m2).frame (fun b q1 q2 => hs _ b (by unfold scr; omega) (by omega) (by omega) (o b q1 q2)) (fun q => ⟨by rw [e12]; exact q, eRc r r1 r2⟩)
    · exact o
  · rcases ot with o | o
    · intro j q1 q2; rw [o]; exact h.t j q1 q2
    · exact o
  · rcases oe with o | o
    · intro j q1 q2; rw [o]; exact h.e j q1 q2
    · exact o
theorem InvA.onlyE {F n : Nat} {σ σ2 : St} (h : InvA F n σ) (o : OnlyE σ σ2) (e : Ew σ2) : InvA F (n + 1) σ2 :=
  h.step (D := fun _ _ => False) (fun a b q1 q2 _ _ => o a b q1 q2) (fun _ _ w => w.elim) (Or.inl fun _ _ _ w => w) (Or.inl fun _ _ _ w => w) (Or.inl fun _ _ _ w => w) (Or.inl fun _ _ _ w => w) (Or.inl fun _ _ _ w => w) (fun _ _ _ => Or.inl fun _ _ _ w => w) (fun _ _ _ => Or.inl fun _ _ _ w => w) (fun _ _ _ _ _ _ => Or.inl fun _ _ _ w => w) (Or.inl (by funext b; exact o 32 b (by unfold scr; omega) (by omega))) (Or.inr e)
theorem InvA.onlyME {F n : Nat} {σ σ2 : St} (h : InvA F n σ) (o : OnlyME σ σ2) (m : InvM σ2) (e : Ew σ2) : InvA F (n + 1) σ2 :=
  h.step (D := supM) (fun a b q1 q2 _ q => o a b q q1 q2) (fun a b w => by unfold supM at w; unfold supB supR; omega) (Or.inl fun a b q w => by unfold supM at w; unfold supT at q; omega) (Or.inl fun a b q w => by unfold supM at w; unfold supS at q; omega) (Or.inr m) (Or.inl fun a b q w => by unfold supM at w; unfold supP at q; omega) (Or.inl fun a b q w => by unfold supM at w; unfold supH at q; omega) (fun r r1 r2 => Or.inl fun b _ _ w => by unfold supM at w; omega) (fun r r1 r2 => Or.inl fun b _ _ w => by unfold supM at w; omega) (fun r m r1 r2 m1 m2 => Or.inl fun b _ _ w => by unfold supM at w; omega) (Or.inl (by funext b; exact o 32 b (by unfold supM; omega) (by unfold scr; omega) (by omega))) (Or.inr e)
theorem InvA.onlyM {F n : Nat} {σ σ2 : St} (h : InvA F n σ) (o : OnlyM σ σ2) (m : InvM σ2) : InvA F (n + 1) σ2 :=
  h.onlyME (fun a b q1 q2 _ => o a b q1 q2) m (fun j q1 q2 => by rw [o 162 j (by unfold supM; omega) (by unfold scr; omega)]; exact h.e j q1 q2)
theorem InvA.onlyPE {F n : Nat} {σ σ2 : St} (h : InvA F n σ) (o : OnlyPE σ σ2) (m : PlanOK σ2) (e : Ew σ2) : InvA F (n + 1) σ2 :=
  h.step (D := supP) (fun a b q1 q2 _ q => o a b q q1 q2) (fun a b w => by unfold supP at w; unfold supB supR; omega) (Or.inl fun a b q w => by unfold supP at w; unfold supT at q; omega) (Or.inl fun a b q w => by unfold supP at w; unfold supS at q; omega) (Or.inl fun a b q w => by unfold supP at w; unfold supM at q; omega) (Or.inr m) (Or.inl fun a b q w => by unfold supP at w; unfold supH at q; omega) (fun r r1 r2 => Or.inl fun b _ _ w => by unfold supP at w; omega) (fun r r1 r2 => Or.inl fun b _ _ w => by unfold supP at w; omega) (fun r m r1 r2 m1 m2 => Or.inl fun b _ _ w => by unfold supP at w; omega) (Or.inl (by funext b; exact o 32 b (by unfold supP; omega) (by unfold scr; omega) (by omega))) (Or.inr e)
theorem InvA.onlyP {F n : Nat} {σ σ2 : St} (h : InvA F n σ) (o : OnlyP σ σ2) (m : PlanOK σ2) : InvA F (n + 1) σ2 :=
  h.onlyPE (fun a b q1 q2 _ => o a b q1 q2) m (fun j q1 q2 => by rw [o 162 j (by unfold supP; omega) (by unfold scr; omega)]; exact h.e j q1 q2)
theorem InvA.onlyH {F n : Nat} {σ σ2 : St} (h : InvA F n σ) (o : OnlyH σ σ2) (m : HopesOK σ2) : InvA F (n + 1) σ2 :=
  h.step (D := supH) (fun a b q1 q2 _ q => o a b q q1) (fun a b w => by unfold supH at w; unfold supB supR; omega) (Or.inl fun a b q w => by unfold supH at w; unfold supT at q; omega) (Or.inl fun a b q w => by unfold supH at w; unfold supS at q; omega) (Or.inl fun a b q w => by unfold supH at w; unfold supM at q; omega) (Or.inl fun a b q w => by unfold supH at w; unfold supP at q; omega) (Or.inr m) (fun r r1 r2 => Or.inl fun b _ _ w => by unfold supH at w; omega) (fun r r1 r2 => Or.inl fun b _ _ w => by unfold supH at w; omega) (fun r m r1 r2 m1 m2 => Or.inl fun b _ _ w => by unfold supH at w; omega) (Or.inl (by funext b; exact o 32 b (by unfold supH; omega) (by unfold scr; omega))) (Or.inl (by funext b; exact o 162 b (by unfold supH; omega) (by unfold scr; omega)))
theorem InvA.onlyS {F n : Nat} {σ σ2 : St} (h : InvA F n σ) (o : ∀ a b, ¬ supS a b → σ2 a b = σ a b) (m : InvS σ2) : InvA F (n + 1) σ2 :=
  h.step (D := supS) (fun a b q1 q2 _ q => o a b q) (fun a b w => by unfold supS at w; unfold supB supR; omega) (Or.inl fun a b q w => by unfold supS at w; unfold supT at q; omega) (Or.inr m) (Or.inl fun a b q w => by unfold supS at w; unfold supM at q; omega) (Or.inl fun a b q w => by unfold supS at w; unfold supP at q; omega) (Or.inl fun a b q w => by unfold supS at w; unfold supH at q; omega) (fun r r1 r2 => Or.inl fun b _ _ w => by unfold supS at w; omega) (fun r r1 r2 => Or.inl fun b _ _ w => by unfold supS at w; omega) (fun r m r1 r2 m1 m2 => Or.inl fun b _ _ w => by unfold supS at w; omega) (Or.inl (by funext b; exact o 32 b (by unfold supS; omega))) (Or.inl (by funext b; exact o 162 b (by unfold supS; omega)))
theorem InvA.onlyT {F n : Nat} {σ σ2 : St} (h : InvA F n σ) (o : ∀ a b, ¬ supT a b → σ2 a b = σ a b) (m : InvT σ2) : InvA F (n + 1) σ2 :=
  h.step (D := supT) (fun a b q1 q2 _ q => o a b q) (fun a b w => by unfold supT at w; unfold supB supR; omega) (Or.inr m) (Or.inl fun a b q w => by unfold supT at w; unfold supS at q; omega) (Or.inl fun a b q w => by unfold supT at w; unfold supM at q; omega) (Or.inl fun a b q w => by unfold supT at w; unfold supP at q; omega) (Or.inl fun a b q w => by unfold supT at w; unfold supH at q; omega) (fun r r1 r2 => Or.inl fun b _ _ w => by unfold supT at w; omega) (fun r r1 r2 => Or.inl fun b _ _ w => by unfold supT at w; omega) (fun r m r1 r2 m1 m2 => Or.inl fun b _ _ w => by unfold supT at w; omega) (Or.inl (by funext b; exact o 32 b (by unfold supT; omega))) (Or.inl (by funext b; exact o 162 b (by unfold supT; omega)))
theorem InvA.onlyN {F n : Nat} {σ σ2 : St} {x : Int} (h : InvA F n σ) (hx : 0 ≤ x ∧ x < 6) (o : OnlyN x σ σ2) (m : MeanOK F σ2 x) (e : Ew σ2) : InvA F (n + 1) σ2 :=
  h.step (D := fun a b => a = 69 + 12 * x ∧ 0 ≤ b ∧ b ≤ 4) (fun a b q1 q2 _ q => o a b q1 q2 q) (fun a b w => by unfold supB supR; omega) (Or.inl fun a b q w => by unfold supT at q; omega) (Or.inl fun a b q w => by unfold supS at q; omega) (Or.inl fun a b q w => by unfold supM at q; omega) (Or.inl fun a b q w => by unfold supP at q; omega) (Or.inl fun a b q w => by unfold supH at q; omega) (fun r r1 r2 => by
    by_cases z : r = x
    · rw [z]; exact Or.inr m
    · exact Or.inl fun b _ _ w => by omega) (fun r r1 r2 => Or.inl fun b _ _ w => by omega) (fun r m r1 r2 m1 m2 => Or.inl fun b _ _ w => by omega) (Or.inl (by funext b; exact o 32 b (by unfold scr; omega) (by omega) (by omega))) (Or.inr e)
theorem InvA.onlyK {F n : Nat} {σ σ2 : St} {x : Int} (h : InvA F n σ) (hx : 0 ≤ x ∧ x < 6) (o : OnlyK x σ σ2) (m : RkMean F σ2 x) (t : TrOK σ2) (e : Ew σ2) : InvA F (n + 1) σ2 :=
  h.step (D := fun a b => a = 70 + 12 * x ∧ 0 ≤ b ∧ b ≤ 4) (fun a b q1 q2 q3 q => o a b q1 q3 q2 q) (fun a b w => by unfold supB supR; omega) (Or.inl fun a b q w => by unfold supT at q; omega) (Or.inl fun a b q w => by unfold supS at q; omega) (Or.inl fun a b q w => by unfold supM at q; omega) (Or.inl fun a b q w => by unfold supP at q; omega) (Or.inl fun a b q w => by unfold supH at q; omega) (fun r r1 r2 => Or.inl fun b _ _ w => by omega) (fun r r1 r2 => by
    by_cases z : r = x
    · rw [z]; exact Or.inr m
    · exact Or.inl fun b _ _ w => by omega) (fun r m r1 r2 m1 m2 => Or.inl fun b _ _ w => by omega) (Or.inr t) (Or.inr e)
theorem InvA.onlyW {F n : Nat} {σ σ2 : St} {x : Int} {y : Nat} (h : InvA F n σ) (hx : 0 ≤ x ∧ x < 6) (hy : 1 ≤ y ∧ y ≤ 3) (o : OnlyW x y σ σ2) (m : WorstOK F σ2 x y) (t : TrOK σ2) (e : Ew σ2) : InvA F (n + 1) σ2 :=
  h.step (D := fun a b => a = 71 + 12 * x + y ∧ 0 ≤ b ∧ b ≤ 3) (fun a b q1 q2 q3 q => o a b q1 q3 q2 q) (fun a b w => by unfold supB supR; omega) (Or.inl fun a b q w => by unfold supT at q; omega) (Or.inl fun a b q w => by unfold supS at q; omega) (Or.inl fun a b q w => by unfold supM at q; omega) (Or.inl fun a b q w => by unfold supP at q; omega) (Or.inl fun a b q w => by unfold supH at q; omega) (fun r r1 r2 => Or.inl fun b _ _ w => by omega) (fun r r1 r2 => Or.inl fun b _ _ w => by omega) (fun r k r1 r2 k1 k2 => by
    by_cases z : r = x ∧ k = y
    · rw [z.1, z.2]; exact Or.inr m
    · exact Or.inl fun b _ _ w => by omega) (Or.inr t) (Or.inr e)
/-- a call that changes the board -/
theorem InvA.chg {F n : Nat} {σ σ2 : St} (h : InvA F n σ) (b : InvB (n + 1) σ2) (m : InvM σ2) (c : ChgB σ σ2) : InvA F (n + 1) σ2 := by
  obtain ⟨hs, hv⟩ := c
  rcases hv with hv | hv
  · rw [hv]; exact h.next
  have e12 : σ2 0 12 = σ 0 12 := hs 0 12 (by unfold supB; omega) (by unfold supM; omega)
  refine ⟨b, h.R.frame (fun a b q => hs a b (by unfold supR at q; unfold supB; omega) (by unfold supR at q; unfold supM; omega)), h.T.frame (fun a b q => hs a b (by unfold supT at q; unfold supB; omega) (by unfold supT at q; unfold supM; omega)), h.S.frame (fun a b q => hs a b (by unfold supS at q; unfold supB; omega) (by unfold supS at q; unfold supM; omega)), m, h.P.grow hv (hs _ _ (by unfold supB; omega) (by unfold supM; omega)), h.H.grow hv (hs _ _ (by unfold supB; omega) (by unfold supM; omega)) (fun j => hs _ _ (by unfold supB; omega) (by unfold supM; omega)), fun r r1 r2 => (h.N r r1 r2).grow hv (hs _ _ (by unfold supB; omega) (by unfold supM; omega)) e12, fun r r1 r2 => (h.K r r1 r2).grow hv (hs _ _ (by unfold supB; omega) (by unfold supM; omega)) e12, fun r k r1 r2 k1 k2 => (h.W r k r1 r2 k1 k2).frame (fun b _ _ => hs _ _ (by unfold supB; omega) (by unfold supM; omega)) (fun q => ⟨by rw [e12]; exact q, fun c c1 c2 => by funext j; exact hs c j (by unfold supB; omega) (by unfold supM; omega)⟩), fun j q1 q2 => by rw [hs 32 j (by unfold supB; omega) (by unfold supM; omega)]; exact h.t j q1 q2, fun j q1 q2 => by rw [hs 162 j (by unfold supB; omega) (by unfold supM; omega)]; exact h.e j q1 q2⟩
/-- a rule is read -/
theorem InvA.rule {F n : Nat} {σ σ2 : St} (h : InvA F n σ) (r : InvR σ2) (t : InvT σ2) (o : OnlyR (σ 0 12) σ σ2) (c : σ2 = σ ∨ σ 0 12 < 6 ∧ (σ2 0 12 = σ 0 12 ∨ σ2 0 12 = σ 0 12 + 1)) : InvA F (n + 1) σ2 := by
  rcases c with c | ⟨c1, c2⟩
  · rw [c]; exact h.next
  have hR := h.R.1
  generalize hR0 : σ 0 12 = R at *
  have hs : ∀ a b, ¬ scr a b → ¬ (a = 0 ∧ (b = 12 ∨ b = 13)) → ¬ (a = 57 ∧ b = 0) → ¬ (a = 143 ∧ (b = 8 ∨ b = 9 ∨ b = 16)) → ¬ (63 + 12 * R ≤ a ∧ a ≤ 68 + 12 * R) → ¬ (150 ≤ a ∧ a ≤ 156) → σ2 a b = σ a b := o
  have eB : ∀ a b, supB a b → σ2 a b = σ a b := fun a b q => by
    unfold supB at q
    exact hs a b (by unfold scr; omega) (by omega) (by omega) (by omega) (by omega) (by omega)
  have e1 : ∀ a, 1 ≤ a → a ≤ 6 → σ2 a = σ a := fun a q1 q2 => by
    funext b
    exact hs a b (by unfold scr; omega) (by omega) (by omega) (by omega) (by omega) (by omega)
  have eRc : ∀ x, 0 ≤ x → x ≠ R → ∀ c, 63 + 12 * x ≤ c → c ≤ 68 + 12 * x → x < 6 → σ2 c = σ c := fun x x1 x2 c q1 q2 q3 => by
    funext b
    exact hs c b (by unfold scr; omega) (by omega) (by omega) (by omega) (by omega) (by omega)
  have v0 : 0 ≤ σ2 1 7 := by rw [e1 1 (by omega) (by omega)]; exact h.B.2.2.1.1
  refine ⟨(h.B.frame eB).next, r, t, h.S.frame (fun a b q => by unfold supS at q; exact hs a b (by unfold scr; omega) (by omega) (by omega) (by omega) (by omega) (by omega)), h.M.frame (fun a b q => by unfold supM redM at q; exact hs a b (by unfold scr; omega) (by omega) (by omega) (by omega) (by omega) (by omega)), h.P.frame (fun a b q => by unfold supP supB at q; exact hs a b (by unfold scr; omega) (by omega) (by omega) (by omega) (by omega) (by omega)), h.H.frame (fun a b q => by unfold supH supB at q; exact hs a b (by unfold scr; omega) (by omega) (by omega) (by omega) (by omega) (by omega)), fun x x1 x2 => ?_, fun x x1 x2 => ?_, fun x k x1 x2 k1 k2 => ?_, fun j q1 q2 => by rw [hs 32 j (by unfold scr; omega) (by omega) (by omega) (by omega) (by omega) (by omega)]; exact h.t j q1 q2, fun j q1 q2 => by rw [hs 162 j (by unfold scr; omega) (by omega) (by omega) (by omega) (by omega) (by omega)]; exact h.e j q1 q2⟩
  · have en : ∀ b, σ2 (69 + 12 * x) b = σ (69 + 12 * x) b := fun b => hs _ b (by unfold scr; omega) (by omega) (by omega) (by omega) (by omega) (by omega)
    by_cases z : x = R
    · exact MeanOK.none (by rw [en]; exact (h.N x x1 x2).2.1 (by omega)) v0
    · refine (h.N x x1 x2).frame2 (fun a q => ?_) (fun b _ _ => en b) (by rw [hR0]; omega)
      rcases q with q | q
      · exact e1 a q.1 q.2
      · exact eRc x x1 z a q.1 q.2 x2
  · have en : ∀ b, σ2 (70 + 12 * x) b = σ (70 + 12 * x) b := fun b => hs _ b (by unfold scr; omega) (by omega) (by omega) (by omega) (by omega) (by omega)
    by_cases z : x = R
    · exact RkMean.none (by rw [en]; exact (h.K x x1 x2).2.1 (by omega)) v0
    · refine (h.K x x1 x2).frame2 x1 (fun a q => ?_) (fun b _ _ => en b) (by rw [hR0]; omega)
      rcases q with q | q
      · exact e1 a q.1 q.2
      · exact eRc x x1 z a q.1 q.2 x2
  · refine (h.W x k x1 x2 k1 k2).frame (fun b _ _ => hs _ b (by unfold scr; omega) (by omega) (by omega) (by omega) (by omega) (by omega)) (fun q => ?_)
    rw [hR0] at q
    exact ⟨by omega, fun c q1 q2 => eRc x x1 (by omega) c q1 q2 x2⟩
