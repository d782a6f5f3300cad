/-! a step; steps -/
set_option maxHeartbeats 1000000 in
theorem one_sim {c g : Nat} (hc : c < 2 ^ 30) {nodes : Nat → NodeS} (h : CI c g nodes) {state left : Int32} (hw : WS state left nodes) (d : Int32) : ∃ (r st1 lf1 : Int32) (nodes1 : Nat → NodeS), (∀ (tapeLen : Int32) (tapeB : Nat → Int32) (tLine : LineS) (tReader : ReaderS) (K : Int32 → WireS → Prop), K r (st1, lf1, tapeLen, tapeB, tLine, tReader, nodes1) → wp_X4_oneStep (state, left, tapeLen, tapeB, tLine, tReader, nodes) d K) ∧ WS st1 lf1 nodes1 ∧ CI (c + 1) g nodes1 ∧ ∀ M1, (∀ i, i < 4 → ND c g i M1 (nodes i)) → M1.1 1 = state → M1.1 2 = left → ∀ K : Int32 → ModelS → Prop, (∀ M2, Bs M1 M2 → M2.1 1 = st1 → M2.1 2 = lf1 → (∀ i, i < 4 → ND (c + 1) g i M2 (nodes1 i)) → K r M2) → wp_X5_oneStep M1 d K := by
  obtain ⟨w1, w2, w3⟩ := hw
  rcases w3 with hst | hst | hst | hst
  · -- at rest
    obtain ⟨N0, sc, sr, sex, sm0⟩ := start_all h (w2 (by rw [hst]; decide))
    obtain ⟨r, st1, lf1, N1, lc, lw, lex, lm⟩ := live37 hc sex (v2 := 1) (w1 (Or.inl hst)) (Or.inl ⟨rfl, hst, sr⟩) d
    refine ⟨r, st1, lf1, N1, fun tapeLen tapeB tLine tReader K hK => ?_, lw, lex, fun M1 hM1 e1 e2 K hK => ?_⟩
    · have hh := sc state left tapeLen tapeB tLine tReader (fun u11 => wp_X4_oneStep_37 K u11 d) (lc tapeLen tapeB tLine tReader K hK)
      unfold wp_X4_oneStep
      exact ⟨fun _ => ⟨fun _ => ⟨fun q => absurd hst q, fun _ => hh⟩, fun q => by rw [hst] at q; exact absurd q (by decide)⟩, fun q => by rw [hst] at q; exact absurd q (by decide)⟩
    · have hh : wp_X5_offerAll M1 (fun u65 => wp_X5_liveStep_21 (fun r2 u3 => K r2 (u3.1, u3.2.1, u3.2.2)) (u65.1, u65.2.1, u65.2.2) d 1) := by
        refine sm0 M1 hM1 _ (fun M2 hb hM2 => lm M2 hM2 ((hb.1 1 (by unfold uI; omega)).trans e1) ((hb.1 2 (by unfold uI; omega)).trans e2) _ (fun M3 b3 x1 x2 x3 => hK M3 (hb.bs.tr b3) x1 x2 x3))
      have e0 : M1.1 1 = 0 := e1.trans hst
      obtain ⟨mI, mA, mL⟩ := M1
      dsimp only at e0
      unfold wp_X5_oneStep wp_X5_oneStep_15 wp_X5_liveStep wp_X5_liveStep_12
      exact ⟨fun _ => ⟨fun q => absurd e0 q, fun _ => ⟨fun q => absurd q (by decide), fun _ => hh⟩⟩, fun q => absurd e0 q⟩
  · -- busy
    obtain ⟨r, st1, lf1, N1, lc, lw, lex, lm⟩ := live37 hc h (v2 := 0) (w1 (Or.inr hst)) (Or.inr ⟨rfl, hst⟩) d
    refine ⟨r, st1, lf1, N1, fun tapeLen tapeB tLine tReader K hK => ?_, lw, lex, fun M1 hM1 e1 e2 K hK => ?_⟩
    · have hh := lc tapeLen tapeB tLine tReader K hK
      unfold wp_X4_oneStep
      exact ⟨fun _ => ⟨fun _ => ⟨fun _ => hh, fun q => by rw [hst] at q; exact absurd q (by decide)⟩, fun q => by rw [hst] at q; exact absurd q (by decide)⟩, fun q => by rw [hst] at q; exact absurd q (by decide)⟩
    · have hh := lm M1 hM1 e1 e2 (fun r2 u3 => K r2 (u3.1, u3.2.1, u3.2.2)) (fun M3 b3 x1 x2 x3 => hK M3 b3 x1 x2 x3)
      have e0 : M1.1 1 = 1 := e1.trans hst
      obtain ⟨mI, mA, mL⟩ := M1
      dsimp only at e0
      have n0 : ¬ mI 1 = 0 := fun q => by rw [e0] at q; exact absurd q (by decide)
      unfold wp_X5_oneStep wp_X5_oneStep_15 wp_X5_liveStep wp_X5_liveStep_12
      exact ⟨fun q => absurd q n0, fun _ => ⟨fun q => absurd e0 q, fun _ => ⟨fun _ => ⟨fun _ => hh, fun q => absurd rfl q⟩, fun q => absurd q n0⟩⟩⟩
  · -- broken
    have hr1 := w2 (by rw [hst]; decide)
    refine ⟨(if left ≤ 8 then 1 else 0), (if left - 1 = 0 then 3 else 2), (if left - 1 = 0 then 3 else left - 1), nodes, fun tapeLen tapeB tLine tReader K hK => ?_, ?_, h.mono (by omega), fun M1 hM1 e1 e2 K hK => ?_⟩
    · have k14 : ∀ k0 : Int32, k0 = (if left ≤ 8 then 1 else 0) → wp_X4_brokenStep_14 (fun r14 u15 => K r14 u15) (state, left, tapeLen, tapeB, tLine, tReader, nodes) k0 := by
        intro k0 e
        rw [e]
        unfold wp_X4_brokenStep_14 wp_X4_brokenStep_36 wp_X4_beginPause
        refine ⟨fun q => ?_, fun q => ?_⟩
        · rw [if_neg q, if_neg q] at hK
          rw [hst]; exact hK
        · rw [if_pos q, if_pos q] at hK
          exact hK
      unfold wp_X4_oneStep wp_X4_brokenStep
      exact ⟨fun q => absurd hst q, fun _ => ⟨fun q => k14 1 (by rw [if_pos q]), fun q => k14 0 (by rw [if_neg q])⟩⟩
    · by_cases q : left - 1 = 0
      · rw [if_pos q, if_pos q]
        exact ⟨fun z => absurd z (by decide), fun _ => hr1, Or.inr (Or.inr (Or.inr rfl))⟩
      · rw [if_neg q, if_neg q]
        exact ⟨fun z => absurd z (by decide), fun _ => hr1, Or.inr (Or.inr (Or.inl rfl))⟩
    · have e1 : M1.1 1 = 2 := e1.trans hst
      obtain ⟨mI, mA, mL⟩ := M1
      dsimp only at e1 e2
      have n0 : ¬ mI 1 = 0 := fun q => by rw [e1] at q; exact absurd q (by decide)
      have n1 : ¬ mI 1 = 1 := fun q => by rw [e1] at q; exact absurd q (by decide)
      have hN : ∀ mI', ∀ i, i < 4 → ND (c + 1) g i (mI', mA, mL) (nodes i) := fun mI' i hi => (hM1 i hi).ints.mono (by omega) (Nat.le_refl _)
      have k43 : ∀ k0 : Int32, k0 = (if left ≤ 8 then 1 else 0) → wp_X5_oneStep_43 K (mI, mA, mL) k0 := by
        intro k0 e
        rw [e]
        unfold wp_X5_oneStep_43 wp_X5_oneStep_95 wp_X5_oneStep_75 wp_X5_oneStep_92 wp_X5_oneStep_95
        dsimp only
        rw [e2]
        refine ⟨fun q => hK _ ⟨rfl, rfl, rfl, rfl⟩ ?_ ?_ (hN _), fun q => ⟨fun z => absurd e1 z, fun _ => ⟨fun z => absurd e1 z, fun _ => hK _ ⟨rfl, rfl, rfl, rfl⟩ ?_ ?_ (hN _)⟩⟩⟩
        · rw [if_neg q]; exact e1
        · rw [if_neg q]; rfl
        · rw [if_pos q]; rfl
        · rw [if_pos q]; rfl
      unfold wp_X5_oneStep wp_X5_oneStep_42
      refine ⟨fun q => absurd q n0, fun _ => ⟨fun _ => ⟨fun q => absurd e1 q, fun _ => ⟨fun q => k43 1 ?_, fun q => k43 0 ?_⟩⟩, fun q => absurd q n1⟩⟩
      · rw [e2] at q; rw [if_pos q]
      · rw [e2] at q; rw [if_neg q]
  · -- the pause
    have hr1 := w2 (by rw [hst]; decide)
    refine ⟨1, (if left - 1 = 0 then 0 else 3), left - 1, nodes, fun tapeLen tapeB tLine tReader K hK => ?_, ?_, h.mono (by omega), fun M1 hM1 e1 e2 K hK => ?_⟩
    · unfold wp_X4_oneStep wp_X4_pauseStep wp_X4_pauseStep_22
      refine ⟨fun _ => ⟨fun q => absurd hst q, fun _ => ⟨fun q => ?_, fun q => ?_⟩⟩, fun q => by rw [hst] at q; exact absurd q (by decide)⟩
      · rw [if_neg q] at hK
        rw [hst]; exact hK
      · rw [if_pos q] at hK; exact hK
    · by_cases q : left - 1 = 0
      · rw [if_pos q]
        exact ⟨fun _ => q, fun _ => hr1, Or.inl rfl⟩
      · rw [if_neg q]
        exact ⟨fun z => absurd z (by decide), fun _ => hr1, Or.inr (Or.inr (Or.inr rfl))⟩
    · have e1 : M1.1 1 = 3 := e1.trans hst
      obtain ⟨mI, mA, mL⟩ := M1
      dsimp only at e1 e2
      have n0 : ¬ mI 1 = 0 := fun q => by rw [e1] at q; exact absurd q (by decide)
      have n1 : ¬ mI 1 = 1 := fun q => by rw [e1] at q; exact absurd q (by decide)
      have n2 : ¬ mI 1 = 2 := fun q => by rw [e1] at q; exact absurd q (by decide)
      have hN : ∀ mI', ∀ i, i < 4 → ND (c + 1) g i (mI', mA, mL) (nodes i) := fun mI' i hi => (hM1 i hi).ints.mono (by omega) (Nat.le_refl _)
      unfold wp_X5_oneStep wp_X5_oneStep_42 wp_X5_oneStep_43 wp_X5_oneStep_95 wp_X5_oneStep_75 wp_X5_oneStep_92 wp_X5_oneStep_95
      dsimp only
      rw [e2]
      refine ⟨fun q => absurd q n0, fun _ => ⟨fun _ => ⟨fun _ => ⟨fun q => hK _ ⟨rfl, rfl, rfl, rfl⟩ ?_ ?_ (hN _), fun q => ⟨fun _ => ⟨fun _ => hK _ ⟨rfl, rfl, rfl, rfl⟩ ?_ ?_ (hN _), fun z => absurd z n2⟩, fun z => absurd z n2⟩⟩, fun q => absurd q n2⟩, fun q => absurd q n1⟩⟩
      · rw [if_neg q]; exact e1
      · rfl
      · rw [if_pos q]; rfl
      · exact q.symm
set_option maxHeartbeats 1000000 in
theorem steps_sim {g n : Nat} (hn : n ≤ 200) : ∀ (m j c : Nat) (state left r0 : Int32) (nodes : Nat → NodeS), 1 ≤ j → j + m = n → c + m < 2 ^ 30 → WS state left nodes → CI c g nodes → ∃ (r st1 lf1 : Int32) (nodes1 : Nat → NodeS), (∀ (tapeLen : Int32) (tapeB : Nat → Int32) (tLine : LineS) (tReader : ReaderS) (K : Int32 → WireS → Prop) (KE : String → WireS → Prop) (fuel : Nat), m < fuel → K r (st1, lf1, tapeLen, tapeB, tLine, tReader, nodes1) → wp_X4_step_39 K KE fuel (state, left, tapeLen, tapeB, tLine, tReader, nodes) (nI n) r0 (nI j)) ∧ WS st1 lf1 nodes1 ∧ CI (c + m) g nodes1 ∧ ∀ M1, (∀ i, i < 4 → ND c g i M1 (nodes i)) → M1.1 1 = state → M1.1 2 = left → ∀ (K : Int32 → ModelS → Prop) (v2 : Int32) (fuel : Nat), m < fuel → (∀ M2, Bs M1 M2 → M2.1 1 = st1 → M2.1 2 = lf1 → (∀ i, i < 4 → ND (c + m) g i M2 (nodes1 i)) → K r M2) → wp_X5_step_45 K fuel M1 (nI n) v2 r0 (nI j) := by
  intro m
  induction m with
  | zero =>
    intro j c state left r0 nodes hj hm hc hw h
    refine ⟨r0, state, left, nodes, fun tapeLen tapeB tLine tReader K KE fuel hf hK => ?_, hw, h, fun M1 hM1 e1 e2 K v2 fuel hf hK => ?_⟩
    · cases fuel with
      | zero => omega
      | succ f =>
        unfold wp_X4_step_39
        exact pk_le n j (fun _ => hK) (fun q => by omega)
    · cases fuel with
      | zero => omega
      | succ f =>
        have kk := hK M1 Bs.rf e1 e2 hM1
        obtain ⟨mI, mA, mL⟩ := M1
        unfold wp_X5_step_45
        exact pk_le n j (fun _ => kk) (fun q => by omega)
  | succ m ih =>
    intro j c state left r0 nodes hj hm hc hw h
    obtain ⟨r, st1, lf1, N1, oc, ow, oex, om⟩ := one_sim (by omega) h hw 0
    obtain ⟨r2, st2, lf2, N2, ic, iw, iex, im⟩ := ih (j + 1) (c + 1) st1 lf1 r N1 (by omega) (by omega) (by omega) ow oex
    refine ⟨r2, st2, lf2, N2, fun tapeLen tapeB tLine tReader K KE fuel hf hK => ?_, iw, by rw [show c + (m + 1) = c + 1 + m by omega]; exact iex, fun M1 hM1 e1 e2 K v2 fuel hf hK => ?_⟩
    · cases fuel with
      | zero => omega
      | succ f =>
        have hh := ic tapeLen tapeB tLine tReader K KE f (by omega) hK
        unfold wp_X4_step_39
        refine pk_le n j (fun q => by omega) (fun _ => oc _ _ _ _ _ (fun n10 e10 => ?_))
        rw [e10, nI_1]
        exact hh
    · cases fuel with
      | zero => omega
      | succ f =>
        have hh : wp_X5_step_62 K (wp_X5_step_45 K f) M1 (nI n) v2 (nI j) 0 := by
          have ho := om M1 hM1 e1 e2 (fun r5 u6 => (∀ n7 : Int32, n7 = nI j + 1 → wp_X5_step_45 K f (u6.1, u6.2.1, u6.2.2) (nI n) v2 r5 n7)) (fun M2 b2 x1 x2 x3 n7 e7 => by
            rw [e7, nI_1]
            exact im M2 x3 x1 x2 K v2 f (by omega) (fun M3 b3 y1 y2 y3 => hK M3 (b2.tr b3) y1 y2 (by rw [show c + (m + 1) = c + 1 + m by omega]; exact y3)))
          obtain ⟨mI, mA, mL⟩ := M1
          unfold wp_X5_step_62
          exact ho
        obtain ⟨mI, mA, mL⟩ := M1
        unfold wp_X5_step_45
        refine pk_le n j (fun q => by omega) (fun _ => ⟨fun _ => hh, fun q => ?_⟩)
        rw [lit 0] at q
        have := (nI_eq (by omega) (by omega)).mp q
        omega
/-! the relation of the whole -/
def Sim (c : Nat) (S : WireS) (M : ModelS) : Prop := M.1 1 = S.1 ∧ M.1 2 = S.2.1 ∧ M.1 32 = S.2.2.1 ∧ (∃ z, z ≤ 200 ∧ S.2.2.1 = nI z) ∧ M.2.1 31 = S.2.2.2.1 ∧ (∀ j, isB (S.2.2.2.1 j)) ∧ WS S.1 S.2.1 S.2.2.2.2.2.2 ∧ ∃ g, M.1 24 = nI g ∧ g ≤ c ∧ ∀ i, i < 4 → ND c g i M (S.2.2.2.2.2.2 i)
def Sm (n : Nat) (S : WireS) (M : ModelS) : Prop := Sim (200 * n) S M
theorem Sim.mono {c c1 : Nat} {S : WireS} {M : ModelS} (h : Sim c S M) (hc : c ≤ c1) : Sim c1 S M := by
  obtain ⟨a1, a2, a3, a4, a5, a6, a7, g, a8, a9, a10⟩ := h
  exact ⟨a1, a2, a3, a4, a5, a6, a7, g, a8, by omega, fun i hi => (a10 i hi).mono hc (Nat.le_refl _)⟩
theorem Sm.next {n : Nat} {S : WireS} {M : ModelS} (h : Sm n S M) : Sm (n + 1) S M := Sim.mono h (by omega)
/-- what was thrown is no part of it -/
theorem Sim.thr {c : Nat} {S : WireS} {mI : Nat → Int32} {mA : Nat → Nat → Int32} {mL : Nat → Nat → Int64} (x : Int32) (h : Sim c S (mI, mA, mL)) : Sim c S (va_up mI 0 x, mA, mL) := by
  obtain ⟨a1, a2, a3, a4, a5, a6, a7, g, a8, a9, a10⟩ := h
  exact ⟨a1, a2, a3, a4, a5, a6, a7, g, a8, a9, fun i hi => (a10 i hi).ints⟩
set_option maxHeartbeats 1000000 in
theorem ok_step : OKstep Sm := by
  intro n hn S M f p0 p1 hS
  obtain ⟨state, left, tapeLen, tapeB, tLine, tReader, nodes⟩ := S
  obtain ⟨mI, mA, mL⟩ := M
  have bad : ∀ b : Int32, Sm (n + 1) (state, left, tapeLen, tapeB, tLine, tReader, nodes) (va_up mI 0 1, mA, mL) ∧ (va_up mI 0 1) 0 = 1 ∧ ((1 : Int32) = 0 → f 0 = b.toInt64) := fun b => ⟨(Sim.thr 1 hS).mono (by omega), rfl, fun q => absurd q (by decide)⟩
  unfold wl_step wp_X4_step wp_X4_step_22
  -- a refused call
  have rej : (p0 < 1 ∨ 200 < p0 ∨ p1 < 0 ∨ ¬ p1 ≤ 15) → wp_X5_step (mI, mA, mL) p0 p1 (fun b M1 => Sm (n + 1) (state, left, tapeLen, tapeB, tLine, tReader, nodes) M1 ∧ M1.1 0 = 1 ∧ ((1 : Int32) = 0 → f 0 = b.toInt64)) := by
    intro hr
    have k23 : wp_X5_step_23 (fun b M1 => Sm (n + 1) (state, left, tapeLen, tapeB, tLine, tReader, nodes) M1 ∧ M1.1 0 = 1 ∧ ((1 : Int32) = 0 → f 0 = b.toInt64)) (mI, mA, mL) p0 p1 := by
      unfold wp_X5_step_23 wp_X5_step_28
      exact ⟨fun q => absurd q (by decide), fun _ => bad 0⟩
    unfold wp_X5_step
    refine ⟨fun _ => k23, fun q1 => ⟨fun _ => k23, fun q2 => ⟨fun _ => k23, fun q3 => ⟨fun q4 => ?_, fun _ => k23⟩⟩⟩⟩
    rcases hr with hr | hr | hr | hr
    · exact absurd hr q1
    · exact absurd hr q2
    · exact absurd hr q3
    · exact absurd q4 hr
  refine ⟨fun q1 => ⟨rfl, rej (Or.inl q1)⟩, fun q1 => ⟨fun q2 => ⟨rfl, rej (Or.inr (Or.inl q2))⟩, fun q2 => ⟨fun q3 => ⟨rfl, rej (Or.inr (Or.inr (Or.inl q3)))⟩, fun q3 => ⟨fun q4 => ?_, fun q4 => ⟨rfl, rej (Or.inr (Or.inr (Or.inr q4)))⟩⟩⟩⟩⟩
  -- a good one
  obtain ⟨m, hm, rfl⟩ : ∃ m, m < 2 ^ 31 ∧ p0 = nI m := by
    refine nI_of (fun q => q1 ?_)
    rw [Int32.lt_iff_toInt_lt] at q ⊢
    have e0 : (0 : Int32).toInt = 0 := rfl
    have e1 : (1 : Int32).toInt = 1 := rfl
    omega
  have hm1 : 1 ≤ m := by
    refine Classical.byContradiction (fun z => q1 ?_)
    rw [show m = 0 by omega]; decide
  have hm2 : m ≤ 200 := by
    refine Classical.byContradiction (fun z => q2 ?_)
    rw [lit 200]
    exact nI_lt (by omega) hm
  obtain ⟨a1, a2, a3, a4, a5, a6, a7, g, a8, a9, a10⟩ := hS
  dsimp only at a1 a2 a3 a4 a5 a6 a7 a8 a10
  have hCI : CI (200 * n) g nodes := fun i hi => ⟨_, a10 i hi⟩
  obtain ⟨r, st1, lf1, N1, oc, ow, oex, om⟩ := one_sim (by omega) hCI a7 p1
  obtain ⟨r2, st2, lf2, N2, ic, iw, iex, im⟩ := steps_sim hm2 (m - 1) 1 (200 * n + 1) st1 lf1 r N1 (by omega) (by omega) (by omega) ow oex
  refine oc _ _ _ _ _ (ic _ _ _ _ _ _ 1000 (by omega) ?_)
  have k62 : wp_X5_step_62 (fun b M1 => Sm (n + 1) (st2, lf2, tapeLen, tapeB, tLine, tReader, N2) M1 ∧ M1.1 0 = 0 ∧ ((0 : Int32) = 0 → (vp_updL f 0 r2.toInt64) 0 = b.toInt64)) (wp_X5_step_45 (fun b M1 => Sm (n + 1) (st2, lf2, tapeLen, tapeB, tLine, tReader, N2) M1 ∧ M1.1 0 = 0 ∧ ((0 : Int32) = 0 → (vp_updL f 0 r2.toInt64) 0 = b.toInt64)) 999) (va_up mI 0 0, mA, mL) (nI m) p1 0 p1 := by
    unfold wp_X5_step_62
    refine om (va_up mI 0 0, mA, mL) (fun i hi => (a10 i hi).ints) a1 a2 _ (fun M2 b2 x1 x2 x3 n7 e7 => ?_)
    rw [e7]
    refine im M2 x3 x1 x2 _ p1 999 (by omega) (fun M3 b3 y1 y2 y3 => ?_)
    have b := b2.tr b3
    obtain ⟨z1, z2, z3, z4⟩ := b
    refine ⟨Sim.mono (c := 200 * n + 1 + (m - 1)) ⟨y1, y2, z3.trans a3, a4, z4.trans a5, a6, iw, g, z2.trans a8, by omega, y3⟩ (by omega), z1, fun _ => pk_uLs⟩
  have k45 : ∀ fuel : Nat, fuel = 1000 → wp_X5_step_45 (fun b M1 => Sm (n + 1) (st2, lf2, tapeLen, tapeB, tLine, tReader, N2) M1 ∧ M1.1 0 = 0 ∧ ((0 : Int32) = 0 → (vp_updL f 0 r2.toInt64) 0 = b.toInt64)) fuel (va_up mI 0 0, mA, mL) (nI m) p1 1 0 := by
    intro fuel hf
    obtain ⟨f', rfl⟩ : ∃ f', fuel = f' + 1 := ⟨fuel - 1, by omega⟩
    obtain rfl : f' = 999 := by omega
    unfold wp_X5_step_45
    exact pk_le m 0 (fun q => by omega) (fun _ => ⟨fun q => absurd rfl q, fun _ => k62⟩)
  unfold wp_X5_step wp_X5_step_28
  exact ⟨fun q => absurd q q1, fun _ => ⟨fun q => absurd q q2, fun _ => ⟨fun q => absurd q q3, fun _ => ⟨fun _ => ⟨fun _ => k45 1000 rfl, fun q => absurd (by decide) q⟩, fun q => absurd q4 q⟩⟩⟩⟩
