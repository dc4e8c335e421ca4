-- ASSEMBLY (2): what every call answers
theorem sp0 {F : Nat} (hF : 1000 ≤ F) : Sp0 F (InvA F) := fun n σ a b c hn h ha hb hc => by
  obtain ⟨r, σ1, σ2, e1, e2, b', m, g⟩ := op_post (F := F) (by omega) h.B h.M ha hb hc
  exact ⟨r, r, σ1, σ2, e1, e2, rfl, h.chg b' m g⟩
theorem sp1 {F : Nat} (hF : 1000 ≤ F) : Sp1 F (InvA F) := fun n σ hn h => by
  obtain ⟨r, σ1, σ2, e1, e2, b', m, g⟩ := op_guest (F := F) (by omega) h.B h.M
  exact ⟨r, r, σ1, σ2, e1, e2, rfl, h.chg b' m g⟩
theorem sp2 {F : Nat} (hF : 1000 ≤ F) : Sp2 F (InvA F) := fun n σ a b c hn h ha hb hc => by
  obtain ⟨r, σ1, σ2, e1, e2, b', m, g⟩ := op_worth h.B h.M ha hb hc
  exact ⟨r, r, σ1, σ2, e1, e2, rfl, h.chg b' m g⟩
theorem sp3 {F : Nat} (hF : 1000 ≤ F) : Sp3 F (InvA F) := fun n σ a b hn h ha hb => by
  obtain ⟨r, σ1, σ2, e1, e2, b', m, g⟩ := op_chance h.B h.M ha hb
  exact ⟨r, r, σ1, σ2, e1, e2, rfl, h.chg b' m g⟩
theorem sp4 {F : Nat} (hF : 1000 ≤ F) : Sp4 F (InvA F) := fun n σ a b hn h ha hb => by
  obtain ⟨r, σ1, σ2, e1, e2, b', m, g⟩ := op_rank (F := F) (by omega) h.B h.M ha hb
  exact ⟨r, r, σ1, σ2, e1, e2, rfl, h.chg b' m g⟩
theorem sp5 {F : Nat} (hF : 1000 ≤ F) : Sp5 F (InvA F) := fun n σ a b hn h ha hb => by
  obtain ⟨r, e1, e2⟩ := op_told (F := F) (by omega) h.B h.M ha hb
  exact ⟨r, r, e1, e2, rfl, h.next⟩
theorem sp6 {F : Nat} (hF : 1000 ≤ F) : Sp6 F (InvA F) := fun n σ v hn h hv => by
  obtain ⟨r, σ1, σ2, e1, e2, m, o⟩ := op_feed (F := F) (by omega) h.T
  exact ⟨r, r, σ1, σ2, e1, e2, rfl, h.onlyT o m⟩
theorem sp7 {F : Nat} (hF : 1000 ≤ F) : Sp7 F (InvA F) := fun n σ a hn h ha => by
  obtain ⟨r, σ1, σ2, e1, e2, m, o⟩ := op_end h.T ha
  exact ⟨r, r, σ1, σ2, e1, e2, rfl, h.onlyT o m⟩
theorem sp8 {F : Nat} (hF : 1000 ≤ F) : Sp8 F (InvA F) := fun n σ hn h => by
  obtain ⟨r, σ1, σ2, e1, e2, x1, x2, x3, x4⟩ := op_rule (F := F) (by omega) h.R h.T
  exact ⟨r, r, σ1, σ2, e1, e2, rfl, h.rule x1 x2 x3 x4⟩
theorem sp9 {F : Nat} (hF : 1000 ≤ F) : Sp9 F (InvA F) := fun n σ hn h => by
  obtain ⟨r, e1, e2⟩ := op_fault h.R
  exact ⟨r, r, e1, e2, rfl, h.next⟩
theorem sp10 {F : Nat} (hF : 1000 ≤ F) : Sp10 F (InvA F) := fun n σ a b hn h ha hb => by
  obtain ⟨r, e1, e2⟩ := op_ruleOf h.R ha hb
  exact ⟨r, r, e1, e2, rfl, h.next⟩
theorem sp11 {F : Nat} (hF : 1000 ≤ F) : Sp11 F (InvA F) := fun n σ a b hn h ha hb => by
  obtain ⟨r, σ1, σ2, e1, e2, o, e⟩ := op_run (F := F) (by omega) h.B h.R h.e ha hb
  exact ⟨r, r, σ1, σ2, e1, e2, rfl, h.onlyE o e⟩
theorem sp12 {F : Nat} (hF : 1000 ≤ F) : Sp12 F (InvA F) := fun n σ a b hn h ha hb => by
  obtain ⟨r, σ1, σ2, e1, e2, o, e⟩ := op_runBy (F := F) (by omega) h.B h.R h.e ha hb
  exact ⟨r, r, σ1, σ2, e1, e2, rfl, h.onlyE o e⟩
theorem sp13 {F : Nat} (hF : 1000 ≤ F) : Sp13 F (InvA F) := fun n σ hn h => by
  obtain ⟨r, σ1, σ2, e1, e2, m, o⟩ := op_best (F := F) hF (by omega) h.B h.P
  exact ⟨r, r, σ1, σ2, e1, e2, rfl, h.onlyP o m⟩
theorem sp14 {F : Nat} (hF : 1000 ≤ F) : Sp14 F (InvA F) := fun n σ a hn h ha => by
  obtain ⟨r, σ1, σ2, e1, e2, m, o⟩ := op_bestOf (F := F) hF (by omega) h.B h.P ha
  exact ⟨r, r, σ1, σ2, e1, e2, rfl, h.onlyP o m⟩
theorem sp15 {F : Nat} (hF : 1000 ≤ F) : Sp15 F (InvA F) := fun n σ a hn h ha => by
  obtain ⟨r, σ1, σ2, e1, e2, m, o⟩ := op_price (F := F) hF (by omega) h.B h.P ha
  exact ⟨r, r, σ1, σ2, e1, e2, rfl, h.onlyP o m⟩
theorem sp16 {F : Nat} (hF : 1000 ≤ F) : Sp16 F (InvA F) := fun n σ v hn h hv => by
  obtain ⟨r, σ1, σ2, e1, e2, o⟩ := op_cover (F := F) (by omega) h.B hv
  exact ⟨r, r, σ1, σ2, e1, e2, rfl, h.onlyE (fun a b q1 q2 => o a b (by unfold scr at q1; omega) (by unfold scr at q1; omega)) (fun j q1 q2 => by rw [o 162 j (by omega) (by omega)]; exact h.e j q1 q2)⟩
theorem sp17 {F : Nat} (hF : 1000 ≤ F) : Sp17 F (InvA F) := fun n σ a b c hn h ha hb hc => by
  obtain ⟨r, σ1, σ2, e1, e2, m, o, e⟩ := op_share (F := F) hF (by omega) h.B h.R h.P h.e ha hb hc
  exact ⟨r, r, σ1, σ2, e1, e2, rfl, h.onlyPE o m e⟩
theorem sp18 {F : Nat} (hF : 1000 ≤ F) : Sp18 F (InvA F) := fun n σ a b hn h ha hb => by
  have hR := h.R.1
  obtain ⟨r, σ1, σ2, e1, e2, o⟩ := op_mean (F := F) hF (by omega) h.B h.R h.N ha hb
  refine ⟨r, r, σ1, σ2, e1, e2, rfl, ?_⟩
  rcases o with o | ⟨o1, o2, o3, o4⟩
  · rw [o]; exact h.next
  · exact h.onlyN (by omega) o3 o2 o4
theorem sp19 {F : Nat} (hF : 1000 ≤ F) : Sp19 F (InvA F) := fun n σ a b hn h ha hb => by
  have hR := h.R.1
  obtain ⟨r, σ1, σ2, e1, e2, o⟩ := op_ends (F := F) hF (by omega) h.B h.R h.N ha hb
  refine ⟨r, r, σ1, σ2, e1, e2, rfl, ?_⟩
  rcases o with o | ⟨o1, o2, o3, o4⟩
  · rw [o]; exact h.next
  · exact h.onlyN (by omega) o3 o2 o4
theorem sp20 {F : Nat} (hF : 1000 ≤ F) : Sp20 F (InvA F) := fun n σ a b hn h ha hb => by
  have hR := h.R.1
  obtain ⟨r, σ1, σ2, e1, e2, o⟩ := op_meanOfRanks (F := F) hF (by omega) h.B h.R h.K h.t ha hb
  refine ⟨r, r, σ1, σ2, e1, e2, rfl, ?_⟩
  rcases o with o | ⟨o1, o2, o3, o4, o5⟩
  · rw [o]; exact h.next
  · exact h.onlyK (by omega) o4 o2 o3 o5
theorem sp21 {F : Nat} (hF : 1000 ≤ F) : Sp21 F (InvA F) := fun n σ a b hn h ha hb => by
  obtain ⟨r, σ1, σ2, e1, e2, m, o⟩ := op_hope (F := F) hF (by omega) h.B h.H ha hb
  exact ⟨r, r, σ1, σ2, e1, e2, rfl, h.onlyH o m⟩
theorem sp22 {F : Nat} (hF : 1000 ≤ F) : Sp22 F (InvA F) := fun n σ a b hn h ha hb => by
  obtain ⟨r, σ1, σ2, e1, e2, m, o⟩ := op_hopeFor (F := F) hF (by omega) h.B h.H ha hb
  exact ⟨r, r, σ1, σ2, e1, e2, rfl, h.onlyH o m⟩
theorem sp23 {F : Nat} (hF : 1000 ≤ F) : Sp23 F (InvA F) := fun n σ a b hn h ha hb => by
  obtain ⟨r, σ1, σ2, e1, e2, m, o⟩ := op_batch (F := F) hF (by omega) h.B h.P ha hb
  exact ⟨r, r, σ1, σ2, e1, e2, rfl, h.onlyP o m⟩
theorem sp24 {F : Nat} (hF : 1000 ≤ F) : Sp24 F (InvA F) := fun n σ a b c hn h ha hb hc => by
  have hR := h.R.1
  obtain ⟨r, σ1, σ2, e1, e2, o⟩ := op_worst (F := F) hF h.R h.t h.e h.W ha hb hc
  refine ⟨r, r, σ1, σ2, e1, e2, rfl, ?_⟩
  rcases o with o | ⟨k, o1, o2, o3, o4, o5, o6⟩
  · rw [o]; exact h.next
  · exact h.onlyW (by omega) o2 o4 o3 o5 o6
theorem sp25 {F : Nat} (hF : 1000 ≤ F) : Sp25 F (InvA F) := fun n σ a b hn h ha hb => by
  obtain ⟨r, σ1, σ2, e1, e2, m, o, e⟩ := op_come (F := F) (by omega) h.B h.R h.M h.e ha hb
  exact ⟨r, r, σ1, σ2, e1, e2, rfl, h.onlyME o m e⟩
theorem sp26 {F : Nat} (hF : 1000 ≤ F) : Sp26 F (InvA F) := fun n σ a b hn h ha hb => by
  obtain ⟨r, σ1, σ2, e1, e2, m, o, e⟩ := op_let (F := F) (by omega) h.B h.M h.e ha hb
  exact ⟨r, r, σ1, σ2, e1, e2, rfl, h.onlyME o m e⟩
theorem sp27 {F : Nat} (hF : 1000 ≤ F) : Sp27 F (InvA F) := fun n σ a hn h ha => by
  obtain ⟨r, σ1, σ2, e1, e2, m, o⟩ := op_leave (F := F) (by omega) h.B h.M ha
  exact ⟨r, r, σ1, σ2, e1, e2, rfl, h.onlyM o m⟩
theorem sp28 {F : Nat} (hF : 1000 ≤ F) : Sp28 F (InvA F) := fun n σ hn h => by
  obtain ⟨r, σ1, σ2, e1, e2, m, o⟩ := op_undo (F := F) (by omega) h.B h.M
  exact ⟨r, r, σ1, σ2, e1, e2, rfl, h.onlyM o m⟩
theorem sp29 {F : Nat} (hF : 1000 ≤ F) : Sp29 F (InvA F) := fun n σ a hn h ha => by
  obtain ⟨r, σ2, e1, e2, o, e⟩ := op_market (F := F) (by omega) h.B h.M h.e ha
  exact ⟨r, r, σ2, e1, e2, rfl, h.onlyE o e⟩
theorem sp30 {F : Nat} (hF : 1000 ≤ F) : Sp30 F (InvA F) := fun n σ a b c hn h ha hb hc => by
  obtain ⟨r, σ1, σ2, e1, e2, m, o⟩ := op_sheet (F := F) (by omega) h.S ha hb hc
  exact ⟨r, r, σ1, σ2, e1, e2, rfl, h.onlyS o m⟩
theorem sp31 {F : Nat} (hF : 1000 ≤ F) : Sp31 F (InvA F) := fun n σ a b c hn h ha hb hc => by
  obtain ⟨r, σ1, σ2, e1, e2, m, o⟩ := op_lay h.S ha hb hc
  exact ⟨r, r, σ1, σ2, e1, e2, rfl, h.onlyS o m⟩
theorem sp32 {F : Nat} (hF : 1000 ≤ F) : Sp32 F (InvA F) := fun n σ a b c hn h ha hb hc => by
  obtain ⟨r, σ1, σ2, e1, e2, b', m, g⟩ := op_net (F := F) (by omega) h.B h.M h.S ha hb hc
  exact ⟨r, r, σ1, σ2, e1, e2, rfl, h.chg b' m g⟩
theorem sp33 {F : Nat} (hF : 1000 ≤ F) : Sp33 F (InvA F) := fun n σ a hn h ha => by
  obtain ⟨r, e1, e2⟩ := op_count (F := F) (by omega) h.B h.R h.T h.S ha
  exact ⟨r, r, e1, e2, rfl, h.next⟩
theorem spec_all {F : Nat} (hF : 1000 ≤ F) : Spec F (InvA F) := ⟨sp0 hF, sp1 hF, sp2 hF, sp3 hF, sp4 hF, sp5 hF, sp6 hF, sp7 hF, sp8 hF, sp9 hF, sp10 hF, sp11 hF, sp12 hF, sp13 hF, sp14 hF, sp15 hF, sp16 hF, sp17 hF, sp18 hF, sp19 hF, sp20 hF, sp21 hF, sp22 hF, sp23 hF, sp24 hF, sp25 hF, sp26 hF, sp27 hF, sp28 hF, sp29 hF, sp30 hF, sp31 hF, sp32 hF, sp33 hF⟩
