/-! a step while the wire is at rest or busy -/
/-- what a step leaves as it is, beside the nodes and the wire's own state -/
def Bs (M M1 : ModelS) : Prop := M1.1 0 = M.1 0 ∧ M1.1 24 = M.1 24 ∧ M1.1 32 = M.1 32 ∧ M1.2.1 31 = M.2.1 31
theorem Bs.rf {M : ModelS} : Bs M M := ⟨rfl, rfl, rfl, rfl⟩
theorem Bs.tr {M M1 M2 : ModelS} (a : Bs M M1) (b : Bs M1 M2) : Bs M M2 := ⟨b.1.trans a.1, b.2.1.trans a.2.1, b.2.2.1.trans a.2.2.1, b.2.2.2.trans a.2.2.2⟩
theorem Base.bs {M M1 : ModelS} (h : Base M M1) : Bs M M1 := ⟨h.1 0 (by unfold uI; omega), h.1 24 (by unfold uI; omega), h.1 32 (by unfold uI; omega), h.2⟩
/-- the wire's state as it may be -/
def WS (state left : Int32) (nodes : Nat → NodeS) : Prop := ((state = 0 ∨ state = 1) → left = 0) ∧ (¬ state = 1 → ∀ i, i < 4 → (nodes i).2.1 = 1) ∧ (state = 0 ∨ state = 1 ∨ state = 2 ∨ state = 3)
theorem ND.ints {c g i : Nat} {mI mI' : Nat → Int32} {mA : Nat → Nat → Int32} {mL : Nat → Nat → Int64} {N : NodeS} (h : ND c g i (mI, mA, mL) N) : ND c g i (mI', mA, mL) N := h.eqN ⟨fun _ _ _ _ _ => rfl, fun _ _ _ => rfl⟩
theorem PLk.nd1 {c g i : Nat} {M : ModelS} {f : Int32} {N : NodeS} (h : PLk c g i M f (nLast N) N) (hf : nFound N = 0) (hr : N.2.1 = 1) : ND c g i M N := by
  obtain ⟨on, role, wants, sndC, rcvC, nSent, nRcvd, lastF, found, sending, next, wanted, lastR, line, reader⟩ := N
  obtain ⟨a1, a2, a3, a4, a5, a6⟩ := h
  exact ⟨a1, a2, a3, a4, a5, Or.inl hr⟩
theorem CI.mono {c c1 g : Nat} {nodes : Nat → NodeS} (h : CI c g nodes) (hc : c ≤ c1) : CI c1 g nodes := fun i hi => ⟨(h i hi).choose, (h i hi).choose_spec.mono hc (Nat.le_refl _)⟩
theorem ls241 {K : Int32 → ModelS → Prop} {M : ModelS} {v3 : Int32} (h : K v3 M) : wp_X5_liveStep_241 K M v3 := by
  obtain ⟨mI, mA, mL⟩ := M
  exact h
set_option maxHeartbeats 2000000 in
theorem live37 {c g : Nat} (hc : c < 2 ^ 30) {nodes : Nat → NodeS} (h : CI c g nodes) {state left v2 : Int32} (hl : left = 0) (hv2 : (v2 = 1 ∧ state = 0 ∧ ∀ i, i < 4 → (nodes i).2.1 = 1 ∨ ((nodes i).2.1 = 3 ∧ nNext (nodes i) = 0)) ∨ (v2 = 0 ∧ state = 1)) (d : Int32) : ∃ (r st1 lf1 : Int32) (nodes1 : Nat → NodeS), (∀ (tapeLen : Int32) (tapeB : Nat → Int32) (tLine : LineS) (tReader : ReaderS) (K : Int32 → WireS → Prop), K r (st1, lf1, tapeLen, tapeB, tLine, tReader, nodes1) → wp_X4_oneStep_37 K (state, left, tapeLen, tapeB, tLine, tReader, nodes) d) ∧ WS st1 lf1 nodes1 ∧ CI (c + 1) g nodes1 ∧ ∀ M1, (∀ i, i < 4 → ND c g i M1 (nodes i)) → M1.1 1 = state → M1.1 2 = left → ∀ K : Int32 → ModelS → Prop, (∀ M2, Bs M1 M2 → M2.1 1 = st1 → M2.1 2 = lf1 → (∀ i, i < 4 → ND (c + 1) g i M2 (nodes1 i)) → K r M2) → wp_X5_liveStep_21 K M1 d v2 := by
  obtain ⟨l, lB, lc, lz, ls, lm⟩ := level_all h
  obtain ⟨N1, kc, kr, k3, kex, km⟩ := look_all h lB d
  -- the reference up to where all have looked
  have mod : ∀ M1, (∀ i, i < 4 → ND c g i M1 (nodes i)) → ∀ K : Int32 → ModelS → Prop, (∀ M2, Base M1 M2 → PL4 c g M2 N1 → wp_X5_liveStep_83_4 K M2 d v2 l (fmask N1) (cmask N1) (any4 (if l = 0 then 1 else 0) N1)) → wp_X5_liveStep_21 K M1 d v2 := by
    intro M1 hM1 K hK
    have e26 : wp_X5_liveStep_26_4 K M1 d v2 l := by
      have e83 : ∀ v6 : Int32, v6 = (if l = 0 then 1 else 0) → wp_X5_liveStep_83_0 K M1 d v2 l 0 0 v6 := by
        intro v6 e6
        rw [e6]
        exact km M1 hM1 K v2 _ hK
      obtain ⟨mI, mA, mL⟩ := M1
      unfold wp_X5_liveStep_26_4 wp_X5_liveStep_78
      exact ⟨fun q => e83 0 (by rw [if_neg q]), fun q => e83 1 (by rw [if_pos q])⟩
    have := lm M1 hM1 K d v2 e26
    obtain ⟨mI, mA, mL⟩ := M1
    unfold wp_X5_liveStep_21
    exact this
  by_cases hs : some4 N1 = 0
  · have hf := (some4_iff N1).mp hs
    obtain ⟨N2, gc, g1, g2, g3, gex, gm⟩ := finish_all hc kex hf
    have hgo := go4_sm N2
    -- the class
    have cls : ∀ (tapeLen : Int32) (tapeB : Nat → Int32) (tLine : LineS) (tReader : ReaderS) (K : Int32 → WireS → Prop), wp_X4_goOn_4_4 (K l) (state, left, tapeLen, tapeB, tLine, tReader, N2) (go4 N2) → wp_X4_oneStep_37 K (state, left, tapeLen, tapeB, tLine, tReader, nodes) d := by
      intro tapeLen tapeB tLine tReader K hK
      unfold wp_X4_oneStep_37
      refine lc _ _ _ _ _ _ _ (kc _ _ _ _ _ _ _ ⟨fun _ => gc _ _ _ _ _ _ _ ?_, fun q => absurd hs q⟩)
      exact hK
    -- the reference's end of a frame
    have fin : ∀ M1 M2, (∀ i, i < 4 → ND c g i M1 (nodes i)) → Base M1 M2 → PL4 c g M2 N1 → ∀ K : Int32 → ModelS → Prop, (∀ M3, Bs M1 M3 → M3.1 1 = (if go4 N2 = 0 then 3 else 1) → M3.1 2 = (if go4 N2 = 0 then 3 else 0) → (∀ i, i < 4 → ND c g i M3 (N2 i)) → K l M3) → wp_X5_liveStep_235 K M2 l (cmask N1) := by
      intro M1 M2 hM1 hb hP K hK
      have hfin : wp_X5_finish M2 (cmask N1) (fun u38 => wp_X5_liveStep_241 K (u38.1, u38.2.1, u38.2.2) l) := by
        refine gm M2 hP _ (fun M3 hb3 hN3 => ?_)
        have hbs := (hb.tr hb3).bs
        obtain ⟨mI, mA, mL⟩ := M3
        unfold wp_X5_finish_4_4 wp_X5_finish_143 wp_X5_finish_156
        refine ⟨fun q => ⟨fun _ => hK _ hbs ?_ ?_ (fun i hi => (hN3 i hi).ints), fun z => absurd q z⟩, fun q => ⟨fun z => absurd z q, fun _ => hK _ hbs ?_ ?_ (fun i hi => (hN3 i hi).ints)⟩⟩
        · rw [if_pos q]; rfl
        · rw [if_pos q]; rfl
        · rw [if_neg q]; rfl
        · rw [if_neg q]; rfl
      obtain ⟨mI, mA, mL⟩ := M2
      unfold wp_X5_liveStep_235
      exact hfin
    rcases hv2 with ⟨hv, hst, hrn⟩ | ⟨hv, hst⟩
    · -- it was at rest
      have hroles : ∀ i, i < 4 → ((N1 i).2.1 = 1 ∨ ((N1 i).2.1 = 2 ∧ ¬ (nRd (N1 i)).2.1 = 10) ∨ ((N1 i).2.1 = 3 ∧ nNext (N1 i) = 1 ∧ (nodes i).2.1 = 3)) := fun i hi => kr i hi (hrn i hi) (hf i hi)
      by_cases ha : any4 (if l = 0 then 1 else 0) N1 = 0
      · -- and is at rest still
        obtain ⟨ha1, ha2⟩ := (any4_iff _ _).mp ha
        have hl0 : ¬ l = 0 := fun q => by rw [if_pos q] at ha1; exact absurd ha1 (by decide)
        have h1 : ∀ i, i < 4 → (N1 i).2.1 = 1 := by
          intro i hi
          rcases hroles i hi with q | ⟨q, -⟩ | ⟨-, -, q⟩
          · exact q
          · exact absurd q (ha2 i hi)
          · rcases hrn i hi with z | ⟨z, z2⟩
            · rw [z] at q; exact absurd q (by decide)
            · exact absurd (ls i hi z z2) hl0
        have h2 : ∀ i, i < 4 → N2 i = N1 i := fun i hi => g1 i hi (h1 i hi)
        have hgo0 : go4 N2 = 0 := hgo.2.mpr (fun i hi => by rw [h2 i hi]; exact h1 i hi)
        refine ⟨l, 0, 0, N2, fun tapeLen tapeB tLine tReader K hK => cls tapeLen tapeB tLine tReader K ?_, ⟨fun _ => rfl, fun _ i hi => by rw [h2 i hi]; exact h1 i hi, Or.inl rfl⟩, gex.mono (by omega), fun M1 hM1 e1 e2 K hK => mod M1 hM1 K (fun M2 hb hP => ?_)⟩
        · unfold wp_X4_goOn_4_4
          refine ⟨fun _ => ⟨fun _ => ?_, fun q => ?_⟩, fun q => absurd hgo0 q⟩
          · rw [hst, hl]; exact hK
          · rw [hst] at q; exact absurd q (by decide)
        · have kk : K l M2 := hK M2 hb.bs ((hb.1 1 (by unfold uI; omega)).trans (e1.trans hst)) ((hb.1 2 (by unfold uI; omega)).trans (e2.trans hl)) (fun i hi => by
            rw [h2 i hi]
            have q := hP i hi
            rw [show lfv (N1 i) = nLast (N1 i) from if_pos (hf i hi)] at q
            exact (q.nd1 (hf i hi) (h1 i hi)).mono (by omega) (Nat.le_refl _))
          have k241 := ls241 (K := K) (v3 := l) kk
          obtain ⟨mI, mA, mL⟩ := M2
          unfold wp_X5_liveStep_83_4
          refine ⟨fun _ => ⟨fun q => ?_, fun _ => ⟨fun _ => k241, fun q => absurd ha q⟩⟩, fun q => absurd ((fmask_le N1).mpr hs) q⟩
          rw [hv] at q; exact absurd q (by decide)
      · -- somebody is there
        have hgo1 : ¬ go4 N2 = 0 := by
          intro q
          have q := hgo.2.mp q
          refine ha ((any4_iff _ _).mpr ⟨?_, fun i hi z => ?_⟩)
          · rw [if_neg]
            intro l0
            obtain ⟨i, hi, hne⟩ := lz l0
            have h3 : (nodes i).2.1 = 3 ∧ nNext (nodes i) = 0 := (hrn i hi).elim (fun z => absurd z hne) id
            have h4 : (N1 i).2.1 = 3 := k3 i hi h3.1 h3.2 (hf i hi)
            rcases hroles i hi with z | ⟨z, -⟩ | ⟨-, z, -⟩
            · rw [h4] at z; exact absurd z (by decide)
            · rw [h4] at z; exact absurd z (by decide)
            · have := g3 i hi h4 z
              rw [q i hi] at this
              exact absurd this (by decide)
          · rcases hroles i hi with y | ⟨-, y⟩ | ⟨y, -⟩
            · rw [z] at y; exact absurd y (by decide)
            · have := g2 i hi z y
              rw [q i hi] at this
              exact absurd this (by decide)
            · rw [z] at y; exact absurd y (by decide)
        refine ⟨l, 1, 0, N2, fun tapeLen tapeB tLine tReader K hK => cls tapeLen tapeB tLine tReader K ?_, ⟨fun _ => rfl, fun q => absurd rfl q, Or.inr (Or.inl rfl)⟩, gex.mono (by omega), fun M1 hM1 e1 e2 K hK => mod M1 hM1 K (fun M2 hb hP => ?_)⟩
        · unfold wp_X4_goOn_4_4
          refine ⟨fun q => absurd q hgo1, fun _ => ?_⟩
          rw [hl]; exact hK
        · have k235 := fin M1 M2 hM1 hb hP K (fun M3 b3 x1 x2 hN3 => hK M3 b3 (by rw [x1, if_neg hgo1]) (by rw [x2, if_neg hgo1]) (fun i hi => (hN3 i hi).mono (by omega) (Nat.le_refl _)))
          obtain ⟨mI, mA, mL⟩ := M2
          unfold wp_X5_liveStep_83_4
          refine ⟨fun _ => ⟨fun q => ?_, fun _ => ⟨fun q => absurd q ha, fun _ => k235⟩⟩, fun q => absurd ((fmask_le N1).mpr hs) q⟩
          rw [hv] at q; exact absurd q (by decide)
    · -- it was busy
      refine ⟨l, (if go4 N2 = 0 then 3 else 1), (if go4 N2 = 0 then 3 else 0), N2, fun tapeLen tapeB tLine tReader K hK => cls tapeLen tapeB tLine tReader K ?_, ?_, gex.mono (by omega), fun M1 hM1 e1 e2 K hK => mod M1 hM1 K (fun M2 hb hP => ?_)⟩
      · unfold wp_X4_goOn_4_4 wp_X4_beginPause
        refine ⟨fun q => ⟨fun z => absurd hst z, fun _ => ?_⟩, fun q => ?_⟩
        · rw [if_pos q, if_pos q] at hK; exact hK
        · rw [if_neg q, if_neg q] at hK
          rw [hl]; exact hK
      · by_cases q : go4 N2 = 0
        · rw [if_pos q, if_pos q]
          exact ⟨fun z => absurd z (by decide), fun _ => hgo.2.mp q, Or.inr (Or.inr (Or.inr rfl))⟩
        · rw [if_neg q, if_neg q]
          exact ⟨fun _ => rfl, fun z => absurd rfl z, Or.inr (Or.inl rfl)⟩
      · have k235 := fin M1 M2 hM1 hb hP K (fun M3 b3 x1 x2 hN3 => hK M3 b3 x1 x2 (fun i hi => (hN3 i hi).mono (by omega) (Nat.le_refl _)))
        obtain ⟨mI, mA, mL⟩ := M2
        unfold wp_X5_liveStep_83_4
        exact ⟨fun _ => ⟨fun _ => k235, fun q => absurd hv q⟩, fun q => absurd ((fmask_le N1).mpr hs) q⟩
  · -- a fault was found
    obtain ⟨N2, gc, g1, gex, gm⟩ := break_all kex
    refine ⟨l, 2, 14, N2, fun tapeLen tapeB tLine tReader K hK => ?_, ⟨fun z => absurd z (by decide), fun _ => g1, Or.inr (Or.inr (Or.inl rfl))⟩, gex, fun M1 hM1 e1 e2 K hK => mod M1 hM1 K (fun M2 hb hP => ?_)⟩
    · unfold wp_X4_oneStep_37
      refine lc _ _ _ _ _ _ _ (kc _ _ _ _ _ _ _ ⟨fun q => absurd q hs, fun _ => gc _ _ _ _ _ _ _ ?_⟩)
      exact hK
    · have hbr : wp_X5_breakOff M2 (fmask N1) (fun u40 => wp_X5_liveStep_241 K (u40.1, u40.2.1, u40.2.2) l) := by
        refine gm M2 hP _ (fun M3 hb3 hN3 => ?_)
        have hbs := (hb.tr hb3).bs
        obtain ⟨mI, mA, mL⟩ := M3
        exact hK _ hbs rfl rfl (fun i hi => (hN3 i hi).ints)
      obtain ⟨mI, mA, mL⟩ := M2
      unfold wp_X5_liveStep_83_4
      exact ⟨fun q => absurd ((fmask_le N1).mp q) hs, fun _ => hbr⟩
