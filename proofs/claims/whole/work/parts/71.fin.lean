/-! broken off, or going on: all four -/
theorem cs_break {state left tapeLen : Int32} {tapeB : Nat → Int32} {tLine : LineS} {tReader : ReaderS} {nodes : Nat → NodeS} {A0 A1 A2 A3 : NodeS} {K : WireS → Prop} (h0 : ∀ K : NodeS → Prop, K A0 → wp_X2_countFault (nodes 0) K) (h1 : ∀ K : NodeS → Prop, K A1 → wp_X2_countFault (nodes 1) K) (h2 : ∀ K : NodeS → Prop, K A2 → wp_X2_countFault (nodes 2) K) (h3 : ∀ K : NodeS → Prop, K A3 → wp_X2_countFault (nodes 3) K) (hK : K (2, 14, tapeLen, tapeB, tLine, tReader, va_up (va_up (va_up (va_up nodes 0 A0) 1 A1) 2 A2) 3 A3)) : wp_X4_breakOff (state, left, tapeLen, tapeB, tLine, tReader, nodes) K := by
  unfold wp_X4_breakOff wp_X4_breakOff_2_0
  refine h0 _ ?_
  unfold wp_X4_breakOff_2_1
  refine h1 _ ?_
  unfold wp_X4_breakOff_2_2
  refine h2 _ ?_
  unfold wp_X4_breakOff_2_3
  refine h3 _ ?_
  unfold wp_X4_breakOff_2_4
  exact hK
theorem ms_break_0 {K : ModelS → Prop} {M : ModelS} {v1 : Int32} (h : bk2 0 0 ((v1 >>> (0 &&& 31)) &&& 1 = 1) (fun M => wp_X5_breakOff_2_1 K M v1) M) : wp_X5_breakOff_2_0 K M v1 := by
  obtain ⟨mI, mA, mL⟩ := M
  unfold wp_X5_breakOff_2_0
  exact h
theorem ms_break_1 {K : ModelS → Prop} {M : ModelS} {v1 : Int32} (h : bk2 1 1 ((v1 >>> (1 &&& 31)) &&& 1 = 1) (fun M => wp_X5_breakOff_2_2 K M v1) M) : wp_X5_breakOff_2_1 K M v1 := by
  obtain ⟨mI, mA, mL⟩ := M
  unfold wp_X5_breakOff_2_1
  exact h
theorem ms_break_2 {K : ModelS → Prop} {M : ModelS} {v1 : Int32} (h : bk2 2 2 ((v1 >>> (2 &&& 31)) &&& 1 = 1) (fun M => wp_X5_breakOff_2_3 K M v1) M) : wp_X5_breakOff_2_2 K M v1 := by
  obtain ⟨mI, mA, mL⟩ := M
  unfold wp_X5_breakOff_2_2
  exact h
theorem ms_break_3 {K : ModelS → Prop} {M : ModelS} {v1 : Int32} (h : bk2 3 3 ((v1 >>> (3 &&& 31)) &&& 1 = 1) (fun M => wp_X5_breakOff_2_4 K M v1) M) : wp_X5_breakOff_2_3 K M v1 := by
  obtain ⟨mI, mA, mL⟩ := M
  unfold wp_X5_breakOff_2_3
  exact h
theorem fmask_bit (N : Nat → NodeS) : ((fmask N >>> (0 &&& 31)) &&& 1 = 1 ↔ ¬ nFound (N 0) = 0) ∧ ((fmask N >>> (1 &&& 31)) &&& 1 = 1 ↔ ¬ nFound (N 1) = 0) ∧ ((fmask N >>> (2 &&& 31)) &&& 1 = 1 ↔ ¬ nFound (N 2) = 0) ∧ ((fmask N >>> (3 &&& 31)) &&& 1 = 1 ↔ ¬ nFound (N 3) = 0) := by
  unfold fmask
  obtain ⟨a, b, c, d, -⟩ := msk (decide (¬ nFound (N 0) = 0)) (decide (¬ nFound (N 1) = 0)) (decide (¬ nFound (N 2) = 0)) (decide (¬ nFound (N 3) = 0))
  exact ⟨a.trans decide_eq_true_iff, b.trans decide_eq_true_iff, c.trans decide_eq_true_iff, d.trans decide_eq_true_iff⟩
theorem cmask_bit (N : Nat → NodeS) : ((cmask N >>> (0 &&& 31)) &&& 1 = 1 ↔ fv (N 0) = 9) ∧ ((cmask N >>> (1 &&& 31)) &&& 1 = 1 ↔ fv (N 1) = 9) ∧ ((cmask N >>> (2 &&& 31)) &&& 1 = 1 ↔ fv (N 2) = 9) ∧ ((cmask N >>> (3 &&& 31)) &&& 1 = 1 ↔ fv (N 3) = 9) := by
  unfold cmask
  obtain ⟨a, b, c, d, -⟩ := msk (decide (fv (N 0) = 9)) (decide (fv (N 1) = 9)) (decide (fv (N 2) = 9)) (decide (fv (N 3) = 9))
  exact ⟨a.trans decide_eq_true_iff, b.trans decide_eq_true_iff, c.trans decide_eq_true_iff, d.trans decide_eq_true_iff⟩
def PL4 (c g : Nat) (M : ModelS) (nodes : Nat → NodeS) : Prop := ∀ i, i < 4 → PLk c g i M (fv (nodes i)) (lfv (nodes i)) (nodes i)
set_option maxHeartbeats 2000000 in
theorem break_all {c g : Nat} {nodes : Nat → NodeS} (h : ∀ i, i < 4 → ∃ M2, PLk c g i M2 (fv (nodes i)) (lfv (nodes i)) (nodes i)) : ∃ nodes1 : Nat → NodeS, (∀ (state left tapeLen : Int32) (tapeB : Nat → Int32) (tLine : LineS) (tReader : ReaderS) (K : WireS → Prop), K (2, 14, tapeLen, tapeB, tLine, tReader, nodes1) → wp_X4_breakOff (state, left, tapeLen, tapeB, tLine, tReader, nodes) K) ∧ (∀ i, i < 4 → (nodes1 i).2.1 = 1) ∧ CI (c + 1) g nodes1 ∧ ∀ M1, PL4 c g M1 nodes → ∀ K : ModelS → Prop, (∀ M2, Base M1 M2 → (∀ i, i < 4 → ND (c + 1) g i M2 (nodes1 i)) → K (va_up (va_up M2.1 1 2) 2 14, M2.2.1, M2.2.2)) → wp_X5_breakOff M1 (fmask nodes) K := by
  obtain ⟨A0, a0, b0, c0⟩ := count_core (i := 0) (by omega) (h 0 (by omega)).choose_spec
  obtain ⟨A1, a1, b1, c1⟩ := count_core (i := 1) (by omega) (h 1 (by omega)).choose_spec
  obtain ⟨A2, a2, b2, c2⟩ := count_core (i := 2) (by omega) (h 2 (by omega)).choose_spec
  obtain ⟨A3, a3, b3, c3⟩ := count_core (i := 3) (by omega) (h 3 (by omega)).choose_spec
  refine ⟨va_up (va_up (va_up (va_up nodes 0 A0) 1 A1) 2 A2) 3 A3, fun state left tapeLen tapeB tLine tReader K hK => cs_break a0 a1 a2 a3 hK, all4 b0 b1 b2 b3, all4 (nv_bk2 (c0 _ _ (h 0 (by omega)).choose_spec (fun M2 => ND (c + 1) g 0 M2 A0) _ Iff.rfl (fun M2 _ k => k) 0 rfl)) (nv_bk2 (c1 _ _ (h 1 (by omega)).choose_spec (fun M2 => ND (c + 1) g 1 M2 A1) _ Iff.rfl (fun M2 _ k => k) 1 rfl)) (nv_bk2 (c2 _ _ (h 2 (by omega)).choose_spec (fun M2 => ND (c + 1) g 2 M2 A2) _ Iff.rfl (fun M2 _ k => k) 2 rfl)) (nv_bk2 (c3 _ _ (h 3 (by omega)).choose_spec (fun M2 => ND (c + 1) g 3 M2 A3) _ Iff.rfl (fun M2 _ k => k) 3 rfl)), fun M1 hM1 K hK => ?_⟩
  have hall : wp_X5_breakOff_2_0 K M1 (fmask nodes) := by
    refine chain4 (P := fun i M => PLk c g i M (fv (nodes i)) (lfv (nodes i)) (nodes i)) (Q := fun i M => ND (c + 1) g i M ((va_up (va_up (va_up (va_up nodes 0 A0) 1 A1) 2 A2) 3 A3 : Nat → NodeS) i)) (fun i M M1 e q => q.eqN e) (fun i M M1 e q => q.eqN e) (K0 := fun M => wp_X5_breakOff_2_0 K M (fmask nodes)) (K1 := fun M => wp_X5_breakOff_2_1 K M (fmask nodes)) (K2 := fun M => wp_X5_breakOff_2_2 K M (fmask nodes)) (K3 := fun M => wp_X5_breakOff_2_3 K M (fmask nodes)) (K4 := fun M => wp_X5_breakOff_2_4 K M (fmask nodes)) hM1 (fun M2 hM2 k => ms_break_0 (c0 M2 _ hM2 _ _ (fmask_bit nodes).1 k 0 rfl)) (fun M2 hM2 k => ms_break_1 (c1 M2 _ hM2 _ _ (fmask_bit nodes).2.1 k 1 rfl)) (fun M2 hM2 k => ms_break_2 (c2 M2 _ hM2 _ _ (fmask_bit nodes).2.2.1 k 2 rfl)) (fun M2 hM2 k => ms_break_3 (c3 M2 _ hM2 _ _ (fmask_bit nodes).2.2.2 k 3 rfl)) (fun M4 hb hq => ?_)
    have := hK M4 hb hq
    obtain ⟨mI, mA, mL⟩ := M4
    unfold wp_X5_breakOff_2_4
    exact this
  obtain ⟨mI, mA, mL⟩ := M1
  unfold wp_X5_breakOff
  exact hall
def sg (v role : Int32) : Int32 := if role = 1 then v else 1
def go4 (N : Nat → NodeS) : Int32 := sg (sg (sg (sg 0 (N 0).2.1) (N 1).2.1) (N 2).2.1) (N 3).2.1
theorem go4_sm (N : Nat → NodeS) : sm (sm (sm (sm 0 (N 0).2.1) (N 1).2.1) (N 2).2.1) (N 3).2.1 = go4 N ∧ (go4 N = 0 ↔ ∀ i, i < 4 → (N i).2.1 = 1) := by
  have one : ∀ v r, isB v → sm v r = sg v r ∧ isB (sg v r) ∧ (sg v r = 0 ↔ (v = 0 ∧ r = 1)) := by
    intro v r hv
    unfold sm sg
    by_cases h : r = 1
    · rw [if_pos h, if_pos h]
      refine ⟨?_, hv, fun q => ⟨q, h⟩, fun q => q.1⟩
      rcases hv with rfl | rfl <;> rfl
    · rw [if_neg h, if_neg h]
      refine ⟨?_, isB_1, fun q => absurd q (by decide), fun q => absurd q.2 h⟩
      split <;> rfl
  obtain ⟨a0, b0, c0⟩ := one 0 (N 0).2.1 isB_0
  obtain ⟨a1, b1, c1⟩ := one _ (N 1).2.1 b0
  obtain ⟨a2, b2, c2⟩ := one _ (N 2).2.1 b1
  obtain ⟨a3, b3, c3⟩ := one _ (N 3).2.1 b2
  unfold go4
  rw [a0, a1, a2, a3]
  refine ⟨rfl, ?_⟩
  rw [c3, c2, c1, c0]
  exact ⟨fun h => all4 h.1.1.1.2 h.1.1.2 h.1.2 h.2, fun h => ⟨⟨⟨⟨rfl, h 0 (by omega)⟩, h 1 (by omega)⟩, h 2 (by omega)⟩, h 3 (by omega)⟩⟩
theorem cs_goOn {state left tapeLen : Int32} {tapeB : Nat → Int32} {tLine : LineS} {tReader : ReaderS} {nodes : Nat → NodeS} {A0 A1 A2 A3 : NodeS} {K : WireS → Prop} (h0 : ∀ K : NodeS → Prop, K A0 → wp_X2_endFrame (nodes 0) K) (h1 : ∀ K : NodeS → Prop, K A1 → wp_X2_endFrame (nodes 1) K) (h2 : ∀ K : NodeS → Prop, K A2 → wp_X2_endFrame (nodes 2) K) (h3 : ∀ K : NodeS → Prop, K A3 → wp_X2_endFrame (nodes 3) K) (hK : wp_X4_goOn_4_4 K (state, left, tapeLen, tapeB, tLine, tReader, va_up (va_up (va_up (va_up nodes 0 A0) 1 A1) 2 A2) 3 A3) (go4 (va_up (va_up (va_up (va_up nodes 0 A0) 1 A1) 2 A2) 3 A3))) : wp_X4_goOn (state, left, tapeLen, tapeB, tLine, tReader, nodes) K := by
  have st : ∀ (A : NodeS) (v : Int32) (P : Int32 → Prop), P (sg v A.2.1) → (A.2.1 = 1 → P v) ∧ (¬ A.2.1 = 1 → P 1) := by
    intro A v P h
    unfold sg at h
    refine ⟨fun q => ?_, fun q => ?_⟩
    · rw [if_pos q] at h; exact h
    · rw [if_neg q] at h; exact h
  unfold wp_X4_goOn wp_X4_goOn_4_0
  refine h0 _ (st A0 0 (fun v => wp_X4_goOn_33_0 K (state, left, tapeLen, tapeB, tLine, tReader, va_up nodes 0 A0) v) ?_)
  unfold wp_X4_goOn_33_0 wp_X4_goOn_4_1
  refine h1 _ (st A1 _ (fun v => wp_X4_goOn_33_1 K (state, left, tapeLen, tapeB, tLine, tReader, va_up (va_up nodes 0 A0) 1 A1) v) ?_)
  unfold wp_X4_goOn_33_1 wp_X4_goOn_4_2
  refine h2 _ (st A2 _ (fun v => wp_X4_goOn_33_2 K (state, left, tapeLen, tapeB, tLine, tReader, va_up (va_up (va_up nodes 0 A0) 1 A1) 2 A2) v) ?_)
  unfold wp_X4_goOn_33_2 wp_X4_goOn_4_3
  refine h3 _ (st A3 _ (fun v => wp_X4_goOn_33_3 K (state, left, tapeLen, tapeB, tLine, tReader, va_up (va_up (va_up (va_up nodes 0 A0) 1 A1) 2 A2) 3 A3) v) ?_)
  unfold wp_X4_goOn_33_3
  exact hK
theorem ms_fin_0 {K : ModelS → Prop} {M : ModelS} {v1 v2 : Int32} (h : fn4 0 0 ((v1 >>> (0 &&& 31)) &&& 1 = 1) (fun M w => wp_X5_finish_4_1 K M v1 w) v2 M) : wp_X5_finish_4_0 K M v1 v2 := by
  obtain ⟨mI, mA, mL⟩ := M
  unfold wp_X5_finish_4_0
  exact h
theorem ms_fin_1 {K : ModelS → Prop} {M : ModelS} {v1 v2 : Int32} (h : fn4 1 1 ((v1 >>> (1 &&& 31)) &&& 1 = 1) (fun M w => wp_X5_finish_4_2 K M v1 w) v2 M) : wp_X5_finish_4_1 K M v1 v2 := by
  obtain ⟨mI, mA, mL⟩ := M
  unfold wp_X5_finish_4_1
  exact h
theorem ms_fin_2 {K : ModelS → Prop} {M : ModelS} {v1 v2 : Int32} (h : fn4 2 2 ((v1 >>> (2 &&& 31)) &&& 1 = 1) (fun M w => wp_X5_finish_4_3 K M v1 w) v2 M) : wp_X5_finish_4_2 K M v1 v2 := by
  obtain ⟨mI, mA, mL⟩ := M
  unfold wp_X5_finish_4_2
  exact h
theorem ms_fin_3 {K : ModelS → Prop} {M : ModelS} {v1 v2 : Int32} (h : fn4 3 3 ((v1 >>> (3 &&& 31)) &&& 1 = 1) (fun M w => wp_X5_finish_4_4 K M v1 w) v2 M) : wp_X5_finish_4_3 K M v1 v2 := by
  obtain ⟨mI, mA, mL⟩ := M
  unfold wp_X5_finish_4_3
  exact h
set_option maxHeartbeats 2000000 in
theorem finish_all {c g : Nat} (hc : c < 2 ^ 30) {nodes : Nat → NodeS} (h : ∀ i, i < 4 → ∃ M2, PLk c g i M2 (fv (nodes i)) (lfv (nodes i)) (nodes i)) (hf : ∀ i, i < 4 → nFound (nodes i) = 0) : ∃ nodes1 : Nat → NodeS, (∀ (state left tapeLen : Int32) (tapeB : Nat → Int32) (tLine : LineS) (tReader : ReaderS) (K : WireS → Prop), wp_X4_goOn_4_4 K (state, left, tapeLen, tapeB, tLine, tReader, nodes1) (go4 nodes1) → wp_X4_goOn (state, left, tapeLen, tapeB, tLine, tReader, nodes) K) ∧ (∀ i, i < 4 → (nodes i).2.1 = 1 → nodes1 i = nodes i) ∧ (∀ i, i < 4 → (nodes i).2.1 = 2 → ¬ (nRd (nodes i)).2.1 = 10 → (nodes1 i).2.1 = 2) ∧ (∀ i, i < 4 → (nodes i).2.1 = 3 → nNext (nodes i) = 1 → (nodes1 i).2.1 = 3) ∧ CI c g nodes1 ∧ ∀ M1, PL4 c g M1 nodes → ∀ K : ModelS → Prop, (∀ M2, Base M1 M2 → (∀ i, i < 4 → ND c g i M2 (nodes1 i)) → wp_X5_finish_4_4 K M2 (cmask nodes) (go4 nodes1)) → wp_X5_finish M1 (cmask nodes) K := by
  have PLn : ∀ i, i < 4 → ∀ M2, PLk c g i M2 (fv (nodes i)) (lfv (nodes i)) (nodes i) → PLk c g i M2 (fv (nodes i)) (nLast (nodes i)) (nodes i) := by
    intro i hi M2 q
    rw [show lfv (nodes i) = nLast (nodes i) from if_pos (hf i hi)] at q
    exact q
  obtain ⟨A0, E0⟩ := end_core (i := 0) (by omega) hc (PLn 0 (by omega) _ (h 0 (by omega)).choose_spec) (hf 0 (by omega))
  obtain ⟨A1, E1⟩ := end_core (i := 1) (by omega) hc (PLn 1 (by omega) _ (h 1 (by omega)).choose_spec) (hf 1 (by omega))
  obtain ⟨A2, E2⟩ := end_core (i := 2) (by omega) hc (PLn 2 (by omega) _ (h 2 (by omega)).choose_spec) (hf 2 (by omega))
  obtain ⟨A3, E3⟩ := end_core (i := 3) (by omega) hc (PLn 3 (by omega) _ (h 3 (by omega)).choose_spec) (hf 3 (by omega))
  refine ⟨va_up (va_up (va_up (va_up nodes 0 A0) 1 A1) 2 A2) 3 A3, fun state left tapeLen tapeB tLine tReader K hK => cs_goOn E0.1 E1.1 E2.1 E3.1 hK, all4 E0.2.1 E1.2.1 E2.2.1 E3.2.1, all4 E0.2.2.1 E1.2.2.1 E2.2.2.1 E3.2.2.1, all4 E0.2.2.2.1 E1.2.2.2.1 E2.2.2.2.1 E3.2.2.2.1, all4 (by obtain ⟨M2, -, q⟩ := nv_fn4 (E0.2.2.2.2 _ _ (PLn 0 (by omega) _ (h 0 (by omega)).choose_spec) (fun M2 _ => ND c g 0 M2 A0) _ 0 Iff.rfl (fun M2 _ k => k) 0 rfl); exact ⟨M2, q⟩) (by obtain ⟨M2, -, q⟩ := nv_fn4 (E1.2.2.2.2 _ _ (PLn 1 (by omega) _ (h 1 (by omega)).choose_spec) (fun M2 _ => ND c g 1 M2 A1) _ 0 Iff.rfl (fun M2 _ k => k) 1 rfl); exact ⟨M2, q⟩) (by obtain ⟨M2, -, q⟩ := nv_fn4 (E2.2.2.2.2 _ _ (PLn 2 (by omega) _ (h 2 (by omega)).choose_spec) (fun M2 _ => ND c g 2 M2 A2) _ 0 Iff.rfl (fun M2 _ k => k) 2 rfl); exact ⟨M2, q⟩) (by obtain ⟨M2, -, q⟩ := nv_fn4 (E3.2.2.2.2 _ _ (PLn 3 (by omega) _ (h 3 (by omega)).choose_spec) (fun M2 _ => ND c g 3 M2 A3) _ 0 Iff.rfl (fun M2 _ k => k) 3 rfl); exact ⟨M2, q⟩), fun M1 hM1 K hK => ?_⟩
  have hall : wp_X5_finish_4_0 K M1 (cmask nodes) 0 := by
    refine chain4 (P := fun i M => PLk c g i M (fv (nodes i)) (lfv (nodes i)) (nodes i)) (Q := fun i M => ND c g i M ((va_up (va_up (va_up (va_up nodes 0 A0) 1 A1) 2 A2) 3 A3 : Nat → NodeS) i)) (fun i M M1 e q => q.eqN e) (fun i M M1 e q => q.eqN e) (K0 := fun M => wp_X5_finish_4_0 K M (cmask nodes) 0) (K1 := fun M => wp_X5_finish_4_1 K M (cmask nodes) (sm 0 A0.2.1)) (K2 := fun M => wp_X5_finish_4_2 K M (cmask nodes) (sm (sm 0 A0.2.1) A1.2.1)) (K3 := fun M => wp_X5_finish_4_3 K M (cmask nodes) (sm (sm (sm 0 A0.2.1) A1.2.1) A2.2.1)) (K4 := fun M => wp_X5_finish_4_4 K M (cmask nodes) (sm (sm (sm (sm 0 A0.2.1) A1.2.1) A2.2.1) A3.2.1)) hM1 (fun M2 hM2 k => ms_fin_0 (E0.2.2.2.2 M2 _ (PLn 0 (by omega) _ hM2) _ _ _ (cmask_bit nodes).1 k 0 rfl)) (fun M2 hM2 k => ms_fin_1 (E1.2.2.2.2 M2 _ (PLn 1 (by omega) _ hM2) _ _ _ (cmask_bit nodes).2.1 k 1 rfl)) (fun M2 hM2 k => ms_fin_2 (E2.2.2.2.2 M2 _ (PLn 2 (by omega) _ hM2) _ _ _ (cmask_bit nodes).2.2.1 k 2 rfl)) (fun M2 hM2 k => ms_fin_3 (E3.2.2.2.2 M2 _ (PLn 3 (by omega) _ hM2) _ _ _ (cmask_bit nodes).2.2.2 k 3 rfl)) (fun M4 hb hq => ?_)
    have := hK M4 hb hq
    rw [← (go4_sm _).1] at this
    exact this
  obtain ⟨mI, mA, mL⟩ := M1
  unfold wp_X5_finish
  exact hall

