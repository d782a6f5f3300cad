/-! all four nodes -/
def Base (M M1 : ModelS) : Prop := (∀ k, uI k → M1.1 k = M.1 k) ∧ M1.2.1 31 = M.2.1 31
theorem Base.rf {M : ModelS} : Base M M := ⟨fun _ _ => rfl, rfl⟩
theorem Base.tr {M M1 M2 : ModelS} (a : Base M M1) (b : Base M1 M2) : Base M M2 := ⟨fun k h => (b.1 k h).trans (a.1 k h), b.2.trans a.2⟩
theorem Loc5.base {i : Nat} {M M1 : ModelS} (h : Loc5 i M M1) : Base M M1 := ⟨h.1, funext fun q => h.2.1 31 (by decide) q (Or.inl rfl)⟩
theorem all4 {P : Nat → Prop} (h0 : P 0) (h1 : P 1) (h2 : P 2) (h3 : P 3) : ∀ i, i < 4 → P i := by
  intro i hi
  rcases (show i = 0 ∨ i = 1 ∨ i = 2 ∨ i = 3 by omega) with rfl | rfl | rfl | rfl
  · exact h0
  · exact h1
  · exact h2
  · exact h3
/-- one node behind the other -/
theorem chain4 {P Q : Nat → ModelS → Prop} (hP : ∀ i M M1, EqN i M M1 → P i M → P i M1) (hQ : ∀ i M M1, EqN i M M1 → Q i M → Q i M1) {K0 K1 K2 K3 K4 : ModelS → Prop} {M : ModelS} (p : ∀ i, i < 4 → P i M) (s0 : ∀ M1, P 0 M1 → (∀ M2, Loc5 0 M1 M2 → Q 0 M2 → K1 M2) → K0 M1) (s1 : ∀ M1, P 1 M1 → (∀ M2, Loc5 1 M1 M2 → Q 1 M2 → K2 M2) → K1 M1) (s2 : ∀ M1, P 2 M1 → (∀ M2, Loc5 2 M1 M2 → Q 2 M2 → K3 M2) → K2 M1) (s3 : ∀ M1, P 3 M1 → (∀ M2, Loc5 3 M1 M2 → Q 3 M2 → K4 M2) → K3 M1)
    (fin : ∀ M4, Base M M4 → (∀ i, i < 4 → Q i M4) → K4 M4) : K0 M := by
  refine s0 M (p 0 (by omega)) (fun M1 l1 q0 => s1 M1 (hP 1 _ _ (l1.eqN (by decide)) (p 1 (by omega))) (fun M2 l2 q1 => s2 M2 (hP 2 _ _ ((l1.eqN (by decide)).tr (l2.eqN (by decide))) (p 2 (by omega))) (fun M3 l3 q2 => s3 M3 (hP 3 _ _ (((l1.eqN (by decide)).tr (l2.eqN (by decide))).tr (l3.eqN (by decide))) (p 3 (by omega))) (fun M4 l4 q3 => ?_))))
  refine fin M4 (((l1.base.tr l2.base).tr l3.base).tr l4.base) (all4 ?_ ?_ ?_ q3)
  · exact hQ 0 _ _ (((l2.eqN (by decide)).tr (l3.eqN (by decide))).tr (l4.eqN (by decide))) q0
  · exact hQ 1 _ _ ((l3.eqN (by decide)).tr (l4.eqN (by decide))) q1
  · exact hQ 2 _ _ (l4.eqN (by decide)) q2
/-! at rest: who has something begins -/
/-- each node goes with some state of the reference -/
def CI (c g : Nat) (nodes : Nat → NodeS) : Prop := ∀ i, i < 4 → ∃ M, ND c g i M (nodes i)
theorem cs_start {state left tapeLen : Int32} {tapeB : Nat → Int32} {tLine : LineS} {tReader : ReaderS} {nodes : Nat → NodeS} {A0 A1 A2 A3 : NodeS} {K : WireS → Prop} (h0 : ∀ K : NodeS → Prop, K A0 → wp_X2_startSending (nodes 0) K) (h1 : ∀ K : NodeS → Prop, K A1 → wp_X2_startSending (nodes 1) K) (h2 : ∀ K : NodeS → Prop, K A2 → wp_X2_startSending (nodes 2) K) (h3 : ∀ K : NodeS → Prop, K A3 → wp_X2_startSending (nodes 3) K) (hK : K (state, left, tapeLen, tapeB, tLine, tReader, va_up (va_up (va_up (va_up nodes 0 A0) 1 A1) 2 A2) 3 A3)) : wp_X4_startSenders (state, left, tapeLen, tapeB, tLine, tReader, nodes) K := by
  unfold wp_X4_startSenders wp_X4_startSenders_2_0
  refine h0 _ ?_
  unfold wp_X4_startSenders_2_1
  refine h1 _ ?_
  unfold wp_X4_startSenders_2_2
  refine h2 _ ?_
  unfold wp_X4_startSenders_2_3
  refine h3 _ ?_
  unfold wp_X4_startSenders_2_4
  exact hK
def so (i : Nat) (v1 : Int32) (KK : ModelS → Prop) (M1 : ModelS) : Prop := wp_X5_offer M1 v1 (fun r => (¬ M1.2.1 3 i = 1 → KK M1) ∧ (M1.2.1 3 i = 1 → ((r < 0 → KK M1) ∧ (¬ r < 0 → (vp_in r 16 ∧ wp_X5_make (M1.1, va_up (va_up (va_up M1.2.1 3 (upd (M1.2.1 3) i 3)) 22 (upd (M1.2.1 22) i (M1.2.1 23 r.toNatClampNeg))) 21 (upd (M1.2.1 21) i 0), M1.2.2) r v1 (fun u => wp_X5_begin u v1 KK))))))
theorem ms_start_0 {K : ModelS → Prop} {M : ModelS} (h : so 0 0 (fun M => wp_X5_offerAll_2_1 K M) M) : wp_X5_offerAll_2_0 K M := by
  obtain ⟨mI, mA, mL⟩ := M
  unfold wp_X5_offerAll_2_0
  exact h
theorem ms_start_1 {K : ModelS → Prop} {M : ModelS} (h : so 1 1 (fun M => wp_X5_offerAll_2_2 K M) M) : wp_X5_offerAll_2_1 K M := by
  obtain ⟨mI, mA, mL⟩ := M
  unfold wp_X5_offerAll_2_1
  exact h
theorem ms_start_2 {K : ModelS → Prop} {M : ModelS} (h : so 2 2 (fun M => wp_X5_offerAll_2_3 K M) M) : wp_X5_offerAll_2_2 K M := by
  obtain ⟨mI, mA, mL⟩ := M
  unfold wp_X5_offerAll_2_2
  exact h
theorem ms_start_3 {K : ModelS → Prop} {M : ModelS} (h : so 3 3 (fun M => wp_X5_offerAll_2_4 K M) M) : wp_X5_offerAll_2_3 K M := by
  obtain ⟨mI, mA, mL⟩ := M
  unfold wp_X5_offerAll_2_3
  exact h
/-! the level -/
def lvl4 (b0 b1 b2 b3 : Int32) : Int32 := ((((1 : Int32) &&& b0) &&& b1) &&& b2) &&& b3
def lv (v b : Int32) : Int32 := if b = 0 then 0 else v
theorem lvl4_eq {b0 b1 b2 b3 : Int32} (h0 : isB b0) (h1 : isB b1) (h2 : isB b2) (h3 : isB b3) : lvl4 b0 b1 b2 b3 = lv (lv (lv (lv 1 b0) b1) b2) b3 ∧ isB (lvl4 b0 b1 b2 b3) ∧ (lvl4 b0 b1 b2 b3 = 0 ↔ (b0 = 0 ∨ b1 = 0 ∨ b2 = 0 ∨ b3 = 0)) := by
  rcases h0 with rfl | rfl <;> rcases h1 with rfl | rfl <;> rcases h2 with rfl | rfl <;> rcases h3 with rfl | rfl <;> (unfold isB; decide)
theorem cs_level {state left tapeLen : Int32} {tapeB : Nat → Int32} {tLine : LineS} {tReader : ReaderS} {nodes : Nat → NodeS} {b0 b1 b2 b3 : Int32} {K : Int32 → Prop} (h0 : ∀ K : Int32 → Prop, K b0 → wp_X2_bitToSend (nodes 0) K) (h1 : ∀ K : Int32 → Prop, K b1 → wp_X2_bitToSend (nodes 1) K) (h2 : ∀ K : Int32 → Prop, K b2 → wp_X2_bitToSend (nodes 2) K) (h3 : ∀ K : Int32 → Prop, K b3 → wp_X2_bitToSend (nodes 3) K) (hK : K (lvl4 b0 b1 b2 b3)) : wp_X4_levelSent (state, left, tapeLen, tapeB, tLine, tReader, nodes) K := by
  unfold wp_X4_levelSent wp_X4_levelSent_4_0
  refine h0 _ (fun n0 e0 => ?_)
  unfold wp_X4_levelSent_4_1
  refine h1 _ (fun n1 e1 => ?_)
  unfold wp_X4_levelSent_4_2
  refine h2 _ (fun n2 e2 => ?_)
  unfold wp_X4_levelSent_4_3
  refine h3 _ (fun n3 e3 => ?_)
  unfold wp_X4_levelSent_4_4
  rw [e3, e2, e1, e0]
  exact hK
theorem ms_level_0 {K : Int32 → ModelS → Prop} {M : ModelS} {v1 v2 v3 b : Int32} (h : ∀ A B : Prop, (¬ b = 0 → A) → (b = 0 → B) → ∀ v : Int32, v = nI 0 → (M.2.1 3 0 = 0 → A) ∧ (¬ M.2.1 3 0 = 0 → wp_X5_sends M v (fun r => (¬ r = 0 → A) ∧ (r = 0 → B)))) (hK : wp_X5_liveStep_26_1 K M v1 v2 (lv v3 b)) : wp_X5_liveStep_26_0 K M v1 v2 v3 := by
  unfold lv at hK
  have h' := h (wp_X5_liveStep_55_0 K M v1 v2 v3) (wp_X5_liveStep_56_0 K M v1 v2 0) (fun q => ?_) (fun q => ?_) 0 rfl
  · obtain ⟨mI, mA, mL⟩ := M
    unfold wp_X5_liveStep_26_0
    exact h'
  · rw [if_neg q] at hK
    obtain ⟨mI, mA, mL⟩ := M
    unfold wp_X5_liveStep_55_0 wp_X5_liveStep_56_0
    exact hK
  · rw [if_pos q] at hK
    obtain ⟨mI, mA, mL⟩ := M
    unfold wp_X5_liveStep_56_0
    exact hK
theorem ms_level_1 {K : Int32 → ModelS → Prop} {M : ModelS} {v1 v2 v3 b : Int32} (h : ∀ A B : Prop, (¬ b = 0 → A) → (b = 0 → B) → ∀ v : Int32, v = nI 1 → (M.2.1 3 1 = 0 → A) ∧ (¬ M.2.1 3 1 = 0 → wp_X5_sends M v (fun r => (¬ r = 0 → A) ∧ (r = 0 → B)))) (hK : wp_X5_liveStep_26_2 K M v1 v2 (lv v3 b)) : wp_X5_liveStep_26_1 K M v1 v2 v3 := by
  unfold lv at hK
  have h' := h (wp_X5_liveStep_55_1 K M v1 v2 v3) (wp_X5_liveStep_56_1 K M v1 v2 0) (fun q => ?_) (fun q => ?_) 1 rfl
  · obtain ⟨mI, mA, mL⟩ := M
    unfold wp_X5_liveStep_26_1
    exact h'
  · rw [if_neg q] at hK
    obtain ⟨mI, mA, mL⟩ := M
    unfold wp_X5_liveStep_55_1 wp_X5_liveStep_56_1
    exact hK
  · rw [if_pos q] at hK
    obtain ⟨mI, mA, mL⟩ := M
    unfold wp_X5_liveStep_56_1
    exact hK
theorem ms_level_2 {K : Int32 → ModelS → Prop} {M : ModelS} {v1 v2 v3 b : Int32} (h : ∀ A B : Prop, (¬ b = 0 → A) → (b = 0 → B) → ∀ v : Int32, v = nI 2 → (M.2.1 3 2 = 0 → A) ∧ (¬ M.2.1 3 2 = 0 → wp_X5_sends M v (fun r => (¬ r = 0 → A) ∧ (r = 0 → B)))) (hK : wp_X5_liveStep_26_3 K M v1 v2 (lv v3 b)) : wp_X5_liveStep_26_2 K M v1 v2 v3 := by
  unfold lv at hK
  have h' := h (wp_X5_liveStep_55_2 K M v1 v2 v3) (wp_X5_liveStep_56_2 K M v1 v2 0) (fun q => ?_) (fun q => ?_) 2 rfl
  · obtain ⟨mI, mA, mL⟩ := M
    unfold wp_X5_liveStep_26_2
    exact h'
  · rw [if_neg q] at hK
    obtain ⟨mI, mA, mL⟩ := M
    unfold wp_X5_liveStep_55_2 wp_X5_liveStep_56_2
    exact hK
  · rw [if_pos q] at hK
    obtain ⟨mI, mA, mL⟩ := M
    unfold wp_X5_liveStep_56_2
    exact hK
theorem ms_level_3 {K : Int32 → ModelS → Prop} {M : ModelS} {v1 v2 v3 b : Int32} (h : ∀ A B : Prop, (¬ b = 0 → A) → (b = 0 → B) → ∀ v : Int32, v = nI 3 → (M.2.1 3 3 = 0 → A) ∧ (¬ M.2.1 3 3 = 0 → wp_X5_sends M v (fun r => (¬ r = 0 → A) ∧ (r = 0 → B)))) (hK : wp_X5_liveStep_26_4 K M v1 v2 (lv v3 b)) : wp_X5_liveStep_26_3 K M v1 v2 v3 := by
  unfold lv at hK
  have h' := h (wp_X5_liveStep_55_3 K M v1 v2 v3) (wp_X5_liveStep_56_3 K M v1 v2 0) (fun q => ?_) (fun q => ?_) 3 rfl
  · obtain ⟨mI, mA, mL⟩ := M
    unfold wp_X5_liveStep_26_3
    exact h'
  · rw [if_neg q] at hK
    obtain ⟨mI, mA, mL⟩ := M
    unfold wp_X5_liveStep_55_3 wp_X5_liveStep_56_3
    exact hK
  · rw [if_pos q] at hK
    obtain ⟨mI, mA, mL⟩ := M
    unfold wp_X5_liveStep_56_3
    exact hK
set_option maxHeartbeats 1000000 in
theorem level_all {c g : Nat} {nodes : Nat → NodeS} (h : CI c g nodes) : ∃ l : Int32, isB l ∧ (∀ (state left tapeLen : Int32) (tapeB : Nat → Int32) (tLine : LineS) (tReader : ReaderS) (K : Int32 → Prop), K l → wp_X4_levelSent (state, left, tapeLen, tapeB, tLine, tReader, nodes) K) ∧ (l = 0 → ∃ i, i < 4 ∧ ¬ (nodes i).2.1 = 1) ∧ (∀ i, i < 4 → (nodes i).2.1 = 3 → nNext (nodes i) = 0 → l = 0) ∧ ∀ M1, (∀ i, i < 4 → ND c g i M1 (nodes i)) → ∀ (K : Int32 → ModelS → Prop) (v1 v2 : Int32), wp_X5_liveStep_26_4 K M1 v1 v2 l → wp_X5_liveStep_26_0 K M1 v1 v2 1 := by
  obtain ⟨b0, i0, a0, d0, f0, c0⟩ := send_core (i := 0) (by omega) (h 0 (by omega)).choose_spec
  obtain ⟨b1, i1, a1, d1, f1, c1⟩ := send_core (i := 1) (by omega) (h 1 (by omega)).choose_spec
  obtain ⟨b2, i2, a2, d2, f2, c2⟩ := send_core (i := 2) (by omega) (h 2 (by omega)).choose_spec
  obtain ⟨b3, i3, a3, d3, f3, c3⟩ := send_core (i := 3) (by omega) (h 3 (by omega)).choose_spec
  obtain ⟨e, hB, hz⟩ := lvl4_eq i0 i1 i2 i3
  refine ⟨lvl4 b0 b1 b2 b3, hB, fun state left tapeLen tapeB tLine tReader K hK => cs_level a0 a1 a2 a3 hK, fun q => ?_, all4 (fun x y => hz.mpr (Or.inl (d0 x y))) (fun x y => hz.mpr (Or.inr (Or.inl (d1 x y)))) (fun x y => hz.mpr (Or.inr (Or.inr (Or.inl (d2 x y))))) (fun x y => hz.mpr (Or.inr (Or.inr (Or.inr (d3 x y))))), fun M1 hM1 K v1 v2 hK => ?_⟩
  · rcases hz.mp q with q | q | q | q
    · exact ⟨0, by omega, f0 q⟩
    · exact ⟨1, by omega, f1 q⟩
    · exact ⟨2, by omega, f2 q⟩
    · exact ⟨3, by omega, f3 q⟩
  · rw [e] at hK
    exact ms_level_0 (c0 M1 (hM1 0 (by omega))) (ms_level_1 (c1 M1 (hM1 1 (by omega))) (ms_level_2 (c2 M1 (hM1 2 (by omega))) (ms_level_3 (c3 M1 (hM1 3 (by omega))) hK)))
