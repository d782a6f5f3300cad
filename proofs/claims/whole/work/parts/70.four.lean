/-! all four have looked; then the frame is broken off, or goes on -/
/-- the faulty ones, the complete ones, whether there is any -/
def fmask (N : Nat → NodeS) : Int32 := orb (orb (orb (orb 0 1 (decide (¬ nFound (N 0) = 0))) 2 (decide (¬ nFound (N 1) = 0))) 4 (decide (¬ nFound (N 2) = 0))) 8 (decide (¬ nFound (N 3) = 0))
def cmask (N : Nat → NodeS) : Int32 := orb (orb (orb (orb 0 1 (decide (fv (N 0) = 9))) 2 (decide (fv (N 1) = 9))) 4 (decide (fv (N 2) = 9))) 8 (decide (fv (N 3) = 9))
def any4 (v6 : Int32) (N : Nat → NodeS) : Int32 := anyv (anyv (anyv (anyv v6 (N 0)) (N 1)) (N 2)) (N 3)
def some4 (N : Nat → NodeS) : Int32 := fs (fs (fs (fs 0 (nFound (N 0))) (nFound (N 1))) (nFound (N 2))) (nFound (N 3))
theorem msk : ∀ b0 b1 b2 b3 : Bool, (((orb (orb (orb (orb 0 1 b0) 2 b1) 4 b2) 8 b3) >>> (0 &&& 31)) &&& 1 = 1 ↔ b0 = true) ∧ (((orb (orb (orb (orb 0 1 b0) 2 b1) 4 b2) 8 b3) >>> (1 &&& 31)) &&& 1 = 1 ↔ b1 = true) ∧ (((orb (orb (orb (orb 0 1 b0) 2 b1) 4 b2) 8 b3) >>> (2 &&& 31)) &&& 1 = 1 ↔ b2 = true) ∧ (((orb (orb (orb (orb 0 1 b0) 2 b1) 4 b2) 8 b3) >>> (3 &&& 31)) &&& 1 = 1 ↔ b3 = true) ∧ ((orb (orb (orb (orb 0 1 b0) 2 b1) 4 b2) 8 b3) ≤ 0 ↔ (b0 = false ∧ b1 = false ∧ b2 = false ∧ b3 = false)) := by
  decide
theorem some4_iff (N : Nat → NodeS) : some4 N = 0 ↔ ∀ i, i < 4 → nFound (N i) = 0 := by
  unfold some4 fs
  constructor
  · intro h
    refine all4 ?_ ?_ ?_ ?_ <;> refine Classical.byContradiction (fun q => ?_) <;> simp [q] at h
  · intro h
    rw [if_pos (h 3 (by omega)), if_pos (h 2 (by omega)), if_pos (h 1 (by omega)), if_pos (h 0 (by omega))]
theorem fmask_le (N : Nat → NodeS) : fmask N ≤ 0 ↔ some4 N = 0 := by
  rw [some4_iff]
  unfold fmask
  rw [(msk _ _ _ _).2.2.2.2]
  simp only [decide_eq_false_iff_not, Classical.not_not]
  exact ⟨fun h => all4 h.1 h.2.1 h.2.2.1 h.2.2.2, fun h => ⟨h 0 (by omega), h 1 (by omega), h 2 (by omega), h 3 (by omega)⟩⟩
theorem any4_iff (v6 : Int32) (N : Nat → NodeS) : any4 v6 N = 0 ↔ (v6 = 0 ∧ ∀ i, i < 4 → ¬ (N i).2.1 = 2) := by
  have one : ∀ v A, anyv v A = 0 ↔ (v = 0 ∧ ¬ A.2.1 = 2) := by
    intro v A
    unfold anyv
    by_cases h : ¬ v = 0 ∨ A.2.1 = 2
    · rw [if_pos h]
      exact ⟨fun q => absurd q (by decide), fun q => absurd h (fun z => z.elim (fun z => z q.1) q.2)⟩
    · rw [if_neg h]
      exact ⟨fun _ => ⟨Classical.byContradiction (fun z => h (Or.inl z)), fun z => h (Or.inr z)⟩, fun _ => rfl⟩
  unfold any4
  rw [one, one, one, one]
  exact ⟨fun h => ⟨h.1.1.1.1, all4 h.1.1.1.2 h.1.1.2 h.1.2 h.2⟩, fun h => ⟨⟨⟨⟨h.1, h.2 0 (by omega)⟩, h.2 1 (by omega)⟩, h.2 2 (by omega)⟩, h.2 3 (by omega)⟩⟩
theorem nv_so {i : Nat} {v : Int32} {KK : ModelS → Prop} {M : ModelS} (h : so i v KK M) : ∃ M2, KK M2 := by
  obtain ⟨r, h⟩ := nv_offer h
  refine em2' h (fun h1 => ⟨_, h1⟩) (fun h1 => em2 h1 (fun h2 => ⟨_, h2⟩) (fun h2 => ?_))
  obtain ⟨u, h3⟩ := nv_make h2.2
  exact nv_begin h3
theorem nv_lb106 {i : Nat} {v m : Int32} {KK : ModelS → Int32 → Int32 → Int32 → Prop} {v4 v5 v6 k0 : Int32} {M : ModelS} (h : lb106 i v m KK v4 v5 v6 k0 M) : ∃ M2 a b c, KK M2 a b c := by
  have h174 : ∀ v4 v6 v9 k0 M, lb174 i m KK v4 v6 v9 k0 M → ∃ M2 a b c, KK M2 a b c := fun v4 v6 v9 k0 M h => em2 h (fun h1 => ⟨_, _, _, _, h1⟩) (fun h1 => em2 h1 (fun h2 => ⟨_, _, _, _, h2⟩) (fun h2 => ⟨_, _, _, _, h2 _ rfl⟩))
  have h153 : ∀ v4 v5 v9 k0 M, lb153 i m KK v4 v5 v9 k0 M → ∃ M2 a b c, KK M2 a b c := fun v4 v5 v9 k0 M h => em2' h (fun h1 => h174 _ _ _ _ _ h1) (fun h1 => h174 _ _ _ _ _ h1)
  have h130 : ∀ v4 v5 v6 v9 M, lb130 i m KK v4 v5 v6 v9 M → ∃ M2 a b c, KK M2 a b c := fun v4 v5 v6 v9 M h => em2' h (fun h1 => h153 _ _ _ _ _ h1) (fun h1 => em2' h1 (fun h2 => h153 _ _ _ _ _ h2) (fun h2 => h153 _ _ _ _ _ h2))
  refine em2' h (fun h1 => ?_) (fun h1 => h130 _ _ _ _ _ h1)
  obtain ⟨r, u, h2⟩ := nv_sees h1
  exact h130 _ _ _ _ _ h2
theorem nv_fn4 {i : Nat} {v : Int32} {cb : Prop} {KK : ModelS → Int32 → Prop} {v2 : Int32} {M : ModelS} (h : fn4 i v cb KK v2 M) : ∃ M2 a, KK M2 a := by
  have h107 : ∀ M, fn107 i KK v2 M → ∃ M2 a, KK M2 a := fun M h => em2' h (fun h1 => ⟨_, _, h1⟩) (fun h1 => em2 h1 (fun h2 => ⟨_, _, h2⟩) (fun h2 => ⟨_, _, h2⟩))
  have h83 : ∀ M, fn83 i v cb KK v2 M → ∃ M2 a, KK M2 a := fun M h => em2' h (fun h1 => h107 _ h1) (fun h1 => em2' h1 (fun h2 => h107 _ h2) (fun h2 => by
    obtain ⟨u, h3⟩ := nv_keep h2
    exact h107 _ h3))
  refine em2' h (fun h1 => h83 _ h1) (fun h1 => em2' h1 (fun h2 => h83 _ h2) (fun h2 => ?_))
  obtain ⟨u, h3⟩ := nv_forget h2
  exact em2 h3 (fun h4 => h83 _ h4.2) (fun h4 => h83 _ h4.2)
theorem nv_bk2 {i : Nat} {v : Int32} {bt : Prop} {KK : ModelS → Prop} {M : ModelS} (h : bk2 i v bt KK M) : ∃ M2, KK M2 := by
  have h54 : ∀ M, bk54 i v KK M → ∃ M2, KK M2 := fun M h => em2 h (fun h1 => ⟨_, h1.2⟩) (fun h1 => em2 h1 (fun h2 => ⟨_, h2.2⟩) (fun h2 => ⟨_, h2.2⟩))
  exact em2' h (fun h1 => h54 _ h1) (fun h1 => em2' h1 (fun h2 => h54 _ h2) (fun h2 => h54 _ h2))
set_option maxHeartbeats 1000000 in
theorem start_all {c g : Nat} {nodes : Nat → NodeS} (h : CI c g nodes) (hr : ∀ i, i < 4 → (nodes i).2.1 = 1) : ∃ nodes1 : Nat → NodeS, (∀ (state left tapeLen : Int32) (tapeB : Nat → Int32) (tLine : LineS) (tReader : ReaderS) (K : WireS → Prop), K (state, left, tapeLen, tapeB, tLine, tReader, nodes1) → wp_X4_startSenders (state, left, tapeLen, tapeB, tLine, tReader, nodes) K) ∧ (∀ i, i < 4 → (nodes1 i).2.1 = 1 ∨ ((nodes1 i).2.1 = 3 ∧ nNext (nodes1 i) = 0)) ∧ CI c g nodes1 ∧ ∀ M1, (∀ i, i < 4 → ND c g i M1 (nodes i)) → ∀ KK : ModelS → Prop, (∀ M2, Base M1 M2 → (∀ i, i < 4 → ND c g i M2 (nodes1 i)) → KK M2) → wp_X5_offerAll M1 KK := by
  obtain ⟨A0, a0, b0, c0⟩ := start_core (i := 0) (by omega) (h 0 (by omega)).choose_spec (hr 0 (by omega))
  obtain ⟨A1, a1, b1, c1⟩ := start_core (i := 1) (by omega) (h 1 (by omega)).choose_spec (hr 1 (by omega))
  obtain ⟨A2, a2, b2, c2⟩ := start_core (i := 2) (by omega) (h 2 (by omega)).choose_spec (hr 2 (by omega))
  obtain ⟨A3, a3, b3, c3⟩ := start_core (i := 3) (by omega) (h 3 (by omega)).choose_spec (hr 3 (by omega))
  refine ⟨va_up (va_up (va_up (va_up nodes 0 A0) 1 A1) 2 A2) 3 A3, fun state left tapeLen tapeB tLine tReader K hK => cs_start a0 a1 a2 a3 hK, all4 b0 b1 b2 b3, all4 (nv_so (c0 _ (h 0 (by omega)).choose_spec (fun M2 => ND c g 0 M2 A0) (fun M2 _ k => k) 0 rfl)) (nv_so (c1 _ (h 1 (by omega)).choose_spec (fun M2 => ND c g 1 M2 A1) (fun M2 _ k => k) 1 rfl)) (nv_so (c2 _ (h 2 (by omega)).choose_spec (fun M2 => ND c g 2 M2 A2) (fun M2 _ k => k) 2 rfl)) (nv_so (c3 _ (h 3 (by omega)).choose_spec (fun M2 => ND c g 3 M2 A3) (fun M2 _ k => k) 3 rfl)), fun M1 hM1 KK hKK => ?_⟩
  have hall : wp_X5_offerAll_2_0 KK M1 := by
    refine chain4 (P := fun i M => ND c g i M (nodes i)) (Q := fun i M => ND c g i M ((va_up (va_up (va_up (va_up nodes 0 A0) 1 A1) 2 A2) 3 A3 : Nat → NodeS) i)) (fun i M M1 e q => q.eqN e) (fun i M M1 e q => q.eqN e) (K1 := wp_X5_offerAll_2_1 KK) (K2 := wp_X5_offerAll_2_2 KK) (K3 := wp_X5_offerAll_2_3 KK) (K4 := wp_X5_offerAll_2_4 KK) hM1 (fun M2 hM2 k => ms_start_0 (c0 M2 hM2 _ k 0 rfl)) (fun M2 hM2 k => ms_start_1 (c1 M2 hM2 _ k 1 rfl)) (fun M2 hM2 k => ms_start_2 (c2 M2 hM2 _ k 2 rfl)) (fun M2 hM2 k => ms_start_3 (c3 M2 hM2 _ k 3 rfl)) (fun M4 hb hq => ?_)
    have := hKK M4 hb hq
    obtain ⟨mI, mA, mL⟩ := M4
    unfold wp_X5_offerAll_2_4
    exact this
  obtain ⟨mI, mA, mL⟩ := M1
  unfold wp_X5_offerAll
  exact hall

set_option maxHeartbeats 2000000 in
theorem look_all {c g : Nat} {nodes : Nat → NodeS} (h : CI c g nodes) {l : Int32} (hl : isB l) (d : Int32) : ∃ nodes1 : Nat → NodeS, (∀ (state left tapeLen : Int32) (tapeB : Nat → Int32) (tLine : LineS) (tReader : ReaderS) (K : Int32 → WireS → Prop), K (some4 nodes1) (state, left, tapeLen, tapeB, tLine, tReader, nodes1) → wp_X4_someFindFaults (state, left, tapeLen, tapeB, tLine, tReader, nodes) l d K) ∧ (∀ i, i < 4 → ((nodes i).2.1 = 1 ∨ ((nodes i).2.1 = 3 ∧ nNext (nodes i) = 0)) → nFound (nodes1 i) = 0 → ((nodes1 i).2.1 = 1 ∨ ((nodes1 i).2.1 = 2 ∧ ¬ (nRd (nodes1 i)).2.1 = 10) ∨ ((nodes1 i).2.1 = 3 ∧ nNext (nodes1 i) = 1 ∧ (nodes i).2.1 = 3))) ∧ (∀ i, i < 4 → (nodes i).2.1 = 3 → nNext (nodes i) = 0 → nFound (nodes1 i) = 0 → (nodes1 i).2.1 = 3) ∧
    (∀ i, i < 4 → ∃ M2, PLk c g i M2 (fv (nodes1 i)) (lfv (nodes1 i)) (nodes1 i)) ∧ ∀ M1, (∀ i, i < 4 → ND c g i M1 (nodes i)) → ∀ (K : Int32 → ModelS → Prop) (v2 v6 : Int32), (∀ M2, Base M1 M2 → (∀ i, i < 4 → PLk c g i M2 (fv (nodes1 i)) (lfv (nodes1 i)) (nodes1 i)) → wp_X5_liveStep_83_4 K M2 d v2 l (fmask nodes1) (cmask nodes1) (any4 v6 nodes1)) → wp_X5_liveStep_83_0 K M1 d v2 l 0 0 v6 := by
  obtain ⟨A0, L0⟩ := look_core (b := l ^^^ ((d >>> (0 &&& 31)) &&& 1)) (i := 0) (by omega) (xor_seen hl (and1 _)).2 (h 0 (by omega)).choose_spec
  obtain ⟨A1, L1⟩ := look_core (b := l ^^^ ((d >>> (1 &&& 31)) &&& 1)) (i := 1) (by omega) (xor_seen hl (and1 _)).2 (h 1 (by omega)).choose_spec
  obtain ⟨A2, L2⟩ := look_core (b := l ^^^ ((d >>> (2 &&& 31)) &&& 1)) (i := 2) (by omega) (xor_seen hl (and1 _)).2 (h 2 (by omega)).choose_spec
  obtain ⟨A3, L3⟩ := look_core (b := l ^^^ ((d >>> (3 &&& 31)) &&& 1)) (i := 3) (by omega) (xor_seen hl (and1 _)).2 (h 3 (by omega)).choose_spec
  refine ⟨va_up (va_up (va_up (va_up nodes 0 A0) 1 A1) 2 A2) 3 A3, fun state left tapeLen tapeB tLine tReader K hK => cs_look L0.1 L1.1 L2.1 L3.1 hK, all4 L0.2.1 L1.2.1 L2.2.1 L3.2.1, all4 L0.2.2.1 L1.2.2.1 L2.2.2.1 L3.2.2.1, all4 (by obtain ⟨M2, -, -, -, q⟩ := nv_lb106 (lookb (KK := fun M2 _ _ _ => PLk c g 0 M2 (fv A0) (lfv A0) A0) (v := 0) (m := 1) (v4 := 0) (v5 := 0) (v6 := 0) rfl L0 (h 0 (by omega)).choose_spec (fun M2 _ q => q)); exact ⟨M2, q⟩) (by obtain ⟨M2, -, -, -, q⟩ := nv_lb106 (lookb (KK := fun M2 _ _ _ => PLk c g 1 M2 (fv A1) (lfv A1) A1) (v := 1) (m := 2) (v4 := 0) (v5 := 0) (v6 := 0) rfl L1 (h 1 (by omega)).choose_spec (fun M2 _ q => q)); exact ⟨M2, q⟩) (by obtain ⟨M2, -, -, -, q⟩ := nv_lb106 (lookb (KK := fun M2 _ _ _ => PLk c g 2 M2 (fv A2) (lfv A2) A2) (v := 2) (m := 4) (v4 := 0) (v5 := 0) (v6 := 0) rfl L2 (h 2 (by omega)).choose_spec (fun M2 _ q => q)); exact ⟨M2, q⟩) (by obtain ⟨M2, -, -, -, q⟩ := nv_lb106 (lookb (KK := fun M2 _ _ _ => PLk c g 3 M2 (fv A3) (lfv A3) A3) (v := 3) (m := 8) (v4 := 0) (v5 := 0) (v6 := 0) rfl L3 (h 3 (by omega)).choose_spec (fun M2 _ q => q)); exact ⟨M2, q⟩), fun M1 hM1 K v2 v6 hK => ?_⟩
  exact chain4 (P := fun i M => ND c g i M (nodes i)) (Q := fun i M => PLk c g i M (fv ((va_up (va_up (va_up (va_up nodes 0 A0) 1 A1) 2 A2) 3 A3 : Nat → NodeS) i)) (lfv ((va_up (va_up (va_up (va_up nodes 0 A0) 1 A1) 2 A2) 3 A3 : Nat → NodeS) i)) ((va_up (va_up (va_up (va_up nodes 0 A0) 1 A1) 2 A2) 3 A3 : Nat → NodeS) i)) (fun i M M1 e q => q.eqN e) (fun i M M1 e q => q.eqN e) (K0 := fun M => wp_X5_liveStep_83_0 K M d v2 l 0 0 v6) (K1 := fun M => wp_X5_liveStep_83_1 K M d v2 l (orb 0 1 (decide (¬ nFound A0 = 0))) (orb 0 1 (decide (fv A0 = 9))) (anyv v6 A0)) (K2 := fun M => wp_X5_liveStep_83_2 K M d v2 l (orb (orb 0 1 (decide (¬ nFound A0 = 0))) 2 (decide (¬ nFound A1 = 0))) (orb (orb 0 1 (decide (fv A0 = 9))) 2 (decide (fv A1 = 9))) (anyv (anyv v6 A0) A1)) (K3 := fun M => wp_X5_liveStep_83_3 K M d v2 l (orb (orb (orb 0 1 (decide (¬ nFound A0 = 0))) 2 (decide (¬ nFound A1 = 0))) 4 (decide (¬ nFound A2 = 0))) (orb (orb (orb 0 1 (decide (fv A0 = 9))) 2 (decide (fv A1 = 9))) 4 (decide (fv A2 = 9))) (anyv (anyv (anyv v6 A0) A1) A2)) (K4 := fun M => wp_X5_liveStep_83_4 K M d v2 l (orb (orb (orb (orb 0 1 (decide (¬ nFound A0 = 0))) 2 (decide (¬ nFound A1 = 0))) 4 (decide (¬ nFound A2 = 0))) 8 (decide (¬ nFound A3 = 0))) (orb (orb (orb (orb 0 1 (decide (fv A0 = 9))) 2 (decide (fv A1 = 9))) 4 (decide (fv A2 = 9))) 8 (decide (fv A3 = 9))) (anyv (anyv (anyv (anyv v6 A0) A1) A2) A3)) hM1 (fun M2 hM2 k => ms_look_0 hl (lookb rfl L0 hM2 (fun M3 l3 q3 => k M3 l3 q3))) (fun M2 hM2 k => ms_look_1 hl (lookb rfl L1 hM2 (fun M3 l3 q3 => k M3 l3 q3))) (fun M2 hM2 k => ms_look_2 hl (lookb rfl L2 hM2 (fun M3 l3 q3 => k M3 l3 q3))) (fun M2 hM2 k => ms_look_3 hl (lookb rfl L3 hM2 (fun M3 l3 q3 => k M3 l3 q3))) hK

