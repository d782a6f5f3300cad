/-! join, node, received -/
theorem bad4 {p0 : Int32} {K : Int32 → Prop} (h : p0 < 0 ∨ nI 4 ≤ p0) (hK : K 0) : wp_X4_isNode p0 K := by
  unfold wp_X4_isNode wp_X4_isNode_13
  exact ⟨fun _ => hK, fun q => ⟨fun _ => hK, fun z => h.elim (fun y => absurd y q) (fun y => absurd y z)⟩⟩
theorem good4 {p0 : Int32} {i : Nat} {K : Int32 → Prop} (hi : i < 4) (h : p0 = nI i) (hK : K 1) : wp_X4_isNode p0 K := by
  unfold wp_X4_isNode wp_X4_isNode_13
  rw [h]
  exact ⟨fun q => absurd q (nI_pos (by omega)), fun _ => ⟨fun q => absurd q (nI_ge (a := i) (b := 4) (by omega) (by omega)), fun _ => hK⟩⟩
theorem bad5 {p0 : Int32} {K : Int32 → Prop} (h : p0 < 0 ∨ nI 4 ≤ p0) (hK : K 0) : wp_X5_isNode p0 K := by
  unfold wp_X5_isNode wp_X5_isNode_13
  exact ⟨fun _ => hK, fun q => ⟨fun _ => hK, fun z => h.elim (fun y => absurd y q) (fun y => absurd y z)⟩⟩
theorem good5 {p0 : Int32} {i : Nat} {K : Int32 → Prop} (hi : i < 4) (h : p0 = nI i) (hK : K 1) : wp_X5_isNode p0 K := by
  unfold wp_X5_isNode wp_X5_isNode_13
  rw [h]
  exact ⟨fun q => absurd q (nI_pos (by omega)), fun _ => ⟨fun q => absurd q (nI_ge (a := i) (b := 4) (by omega) (by omega)), fun _ => hK⟩⟩
theorem node_ix (p0 : Int32) : (p0 < 0 ∨ nI 4 ≤ p0) ∨ ∃ i, i < 4 ∧ p0 = nI i := by
  rcases pk_ix p0 (n := 4) (by omega) with q | q | q
  · exact Or.inl (Or.inl q)
  · exact Or.inl (Or.inr q)
  · exact Or.inr q
/-- the branch of node i among the four -/
theorem br4 {i : Nat} (hi : i < 4) {p0 : Int32} (h : p0 = nI i) {X : Nat → Prop} (hX : X i) : (p0 = 0 → X 0) ∧ (p0 = 1 → X 1) ∧ (p0 = 2 → X 2) ∧ (p0 = 3 → X 3) := by
  have one : ∀ j : Nat, j < 4 → p0 = nI j → X j := by
    intro j hj e
    have := (nI_eq (by omega) (by omega)).mp (h.symm.trans e)
    rw [← this]
    exact hX
  exact ⟨fun e => one 0 (by omega) e, fun e => one 1 (by omega) e, fun e => one 2 (by omega) e, fun e => one 3 (by omega) e⟩
theorem Sim.nd {c c1 : Nat} {state left tapeLen : Int32} {tapeB : Nat → Int32} {tLine : LineS} {tReader : ReaderS} {nodes : Nat → NodeS} {M M1 : ModelS} (h : Sim c (state, left, tapeLen, tapeB, tLine, tReader, nodes) M) {i : Nat} {N1 : NodeS} (hw : WS state left (va_up nodes i N1)) (i1 : M1.1 1 = M.1 1) (i2 : M1.1 2 = M.1 2) (i32 : M1.1 32 = M.1 32) (h31 : M1.2.1 31 = M.2.1 31) (hc : c ≤ c1) (hE : ∀ j, j < 4 → j ≠ i → EqN j M M1) (hg : ∀ g, M.1 24 = nI g → g ≤ c → (∀ j, j < 4 → ND c g j M (nodes j)) → ∃ g1, g ≤ g1 ∧ M1.1 24 = nI g1 ∧ g1 ≤ c1 ∧ ND c1 g1 i M1 N1) : Sim c1 (state, left, tapeLen, tapeB, tLine, tReader, va_up nodes i N1) M1 := by
  obtain ⟨a1, a2, a3, a4, a5, a6, a7, g, a8, a9, a10⟩ := h
  obtain ⟨g1, x1, x2, x3, x4⟩ := hg g a8 a9 a10
  refine ⟨i1.trans a1, i2.trans a2, i32.trans a3, a4, h31.trans a5, a6, hw, g1, x2, x3, fun j hj => ?_⟩
  show ND c1 g1 j M1 (va_up nodes i N1 j)
  by_cases e : j = i
  · subst e
    rw [up_s]
    exact x4
  · rw [up_n e]
    exact ((a10 j hj).eqN (hE j hj e)).mono hc x1
theorem cls_join {state left tapeLen : Int32} {tapeB : Nat → Int32} {tLine : LineS} {tReader : ReaderS} {nodes : Nat → NodeS} {K : Int32 → WireS → Prop} {KE : String → WireS → Prop} {i : Nat} (hi : i < 4) {p0 : Int32} (e : p0 = nI i) (h0 : (nodes i).1 = 0 → wp_X2_switchOn (nodes i) (fun u4 => K 1 (state, left, tapeLen, tapeB, tLine, tReader, va_up nodes i u4))) (h1 : ¬ (nodes i).1 = 0 → K 0 (state, left, tapeLen, tapeB, tLine, tReader, nodes)) : wp_X4_join (state, left, tapeLen, tapeB, tLine, tReader, nodes) p0 K KE := by
  unfold wp_X4_join
  exact good4 hi e ⟨fun _ => ⟨pk_in i 4 hi e, br4 hi e (X := fun j => ((nodes j).1 = 0 → wp_X2_switchOn (nodes j) (fun u4 => K 1 (state, left, tapeLen, tapeB, tLine, tReader, va_up nodes j u4))) ∧ (¬ (nodes j).1 = 0 → K 0 (state, left, tapeLen, tapeB, tLine, tReader, nodes))) ⟨h0, h1⟩⟩, fun z => absurd z (by decide)⟩
set_option maxHeartbeats 1000000 in
theorem ok_join : OKjoin Sm := by
  intro n hn S M f p0 h
  have h1 := fun x => (Sim.thr (mI := M.1) (mA := M.2.1) (mL := M.2.2) x h).mono (c1 := 200 * (n + 1)) (by omega)
  have hS := h
  obtain ⟨a1, a2, a3, a4, a5, a6, a7, g, a8, a9, a10⟩ := h
  obtain ⟨state, left, tapeLen, tapeB, tLine, tReader, nodes⟩ := S
  obtain ⟨mI, mA, mL⟩ := M
  dsimp only at h1 a7 a8 a10
  unfold wl_join
  rcases node_ix p0 with q | ⟨i, hi, e⟩
  · unfold wp_X4_join
    refine bad4 q ⟨fun z => absurd rfl z, fun _ => ⟨rfl, ?_⟩⟩
    unfold wp_X5_join
    refine bad5 q ⟨fun _ => ?_, fun z => absurd rfl z⟩
    unfold wp_X5_join_13 wp_X5_join_32
    exact ⟨fun _ => ⟨h1 1, rfl, fun z => absurd z (by decide)⟩, fun z => absurd (by decide) z⟩
  · have hin : vp_in p0 4 := pk_in i 4 hi e
    have hcl : p0.toNatClampNeg = i := pk_cl i e
    have hND := a10 i hi
    have hmod : ∀ (S1 : WireS) (f1 : Nat → Int64), ((mA 3 i = 0 → Sm (n + 1) S1 (va_up mI 0 0, va_up (va_up (va_up mA 3 (upd (mA 3) i 1)) 4 (upd (mA 4) i 0)) 5 (upd (mA 5) i 0), mL) ∧ f1 0 = 1)) → (¬ mA 3 i = 0 → Sm (n + 1) S1 (va_up mI 0 0, mA, mL) ∧ f1 0 = 0) → wp_X5_join (mI, mA, mL) p0 (fun b M1 => Sm (n + 1) S1 M1 ∧ M1.1 0 = 0 ∧ ((0 : Int32) = 0 → (b = 0 → f1 0 = 0) ∧ (¬ b = 0 → f1 0 = 1))) := by
      intro S1 f1 k1 k0
      unfold wp_X5_join
      refine good5 hi e ⟨fun z => absurd z (by decide), fun _ => ?_⟩
      unfold wp_X5_join_13 wp_X5_join_32 wp_X5_join_55
      dsimp only
      rw [hcl]
      refine ⟨fun z => absurd z (by decide), fun _ => ⟨hin, fun z => ⟨hin, hin, hin, (k1 z).1, rfl, fun _ => ⟨fun y => absurd y (by decide), fun _ => (k1 z).2⟩⟩, fun z => ⟨(k0 z).1, rfl, fun _ => ⟨fun _ => (k0 z).2, fun y => absurd rfl y⟩⟩⟩⟩
    generalize hNi : nodes i = N at hND
    obtain ⟨on, role, wants, sndC, rcvC, nSent, nRcvd, lastF, found, sending, next, wanted, lastR, line, reader⟩ := N
    obtain ⟨b1, b2, b3, b4, b5, b6⟩ := hND
    dsimp only at b4
    refine cls_join hi e (fun q => ?_) (fun q => ⟨fun _ => hmod _ _ (fun z => ?_) (fun _ => ⟨h1 0, pk_uLs⟩), fun z => absurd rfl z⟩)
    · rw [hNi] at q ⊢
      have q : on = 0 := q
      have hr : role = 1 := b5 q
      unfold wp_X2_switchOn
      refine ⟨fun z => absurd z (by decide), fun _ => hmod _ _ (fun _ => ⟨?_, pk_uLs⟩) (fun z => absurd (by rw [b4, if_pos q]) z)⟩
      have l1 : Loc5 i (mI, mA, mL) (mI, va_up mA 3 (upd (mA 3) i 1), mL) := Loc5.one rfl (by decide)
      have l2 : Loc5 i (mI, va_up mA 3 (upd (mA 3) i 1), mL) (mI, va_up (va_up mA 3 (upd (mA 3) i 1)) 4 (upd (mA 4) i 0), mL) := Loc5.one (f0 := 4) rfl (by decide)
      have l3 : Loc5 i (mI, va_up (va_up mA 3 (upd (mA 3) i 1)) 4 (upd (mA 4) i 0), mL) (mI, va_up (va_up (va_up mA 3 (upd (mA 3) i 1)) 4 (upd (mA 4) i 0)) 5 (upd (mA 5) i 0), mL) := Loc5.one (f0 := 5) rfl (by decide)
      have lall := (l1.tr l2).tr l3
      refine Sim.nd (c := 200 * n) hS ?_ rfl rfl rfl rfl (by omega) (fun j hj hji => ?_) (fun g' x1 x2 x3 => ⟨g', Nat.le_refl _, x1, by omega, ?_⟩)
      · obtain ⟨y1, y2, y3⟩ := a7
        refine ⟨y1, fun z j hj => ?_, y3⟩
        by_cases ej : j = i
        · subst ej
          rw [up_s]
          exact hr
        · rw [up_n ej]
          exact y2 z j hj
      · have := lall.eqN (Ne.symm hji)
        exact ⟨this.1, this.2⟩
      · have hNi' := x3 i hi
        rw [hNi] at hNi'
        obtain ⟨c1, c2, c3, c4, c5, c6⟩ := hNi'
        refine ⟨⟨Or.inr rfl, pk_us.symm, pk_us.symm, c1.2.2.2.1, c1.2.2.2.2.1, c1.2.2.2.2.2.1, ⟨0, rfl, by omega, fun _ => by omega⟩, 0, rfl, by omega⟩, ?_, c3, ?_, fun z => absurd z (by decide), Or.inl hr⟩
        · exact c2
        · rw [if_neg (by decide), hr]
          exact pk_us
    · rw [hNi] at q
      have q : ¬ on = 0 := q
      exfalso
      rw [b4, if_neg q] at z
      rcases b6 with y | ⟨y, -⟩ | ⟨y, -⟩ <;> rw [y] at z <;> exact absurd z (by decide)
/-! node -/
theorem cls_node {state left tapeLen : Int32} {tapeB : Nat → Int32} {tLine : LineS} {tReader : ReaderS} {nodes : Nat → NodeS} {K : Int32 → WireS → Prop} {KE : String → WireS → Prop} {i : Nat} (hi : i < 4) {p0 p1 : Int32} (e : p0 = nI i) (h : (p1.toInt < 0 ∨ 6 < p1.toInt → KE "java/lang/IndexOutOfBoundsException" (state, left, tapeLen, tapeB, tLine, tReader, nodes)) ∧ (p1.toInt = 0 → (((nodes i).1 = 0 → K 0 (state, left, tapeLen, tapeB, tLine, tReader, nodes)) ∧ (¬ (nodes i).1 = 0 → K ((nodes i).2.1) (state, left, tapeLen, tapeB, tLine, tReader, nodes)))) ∧ (p1.toInt = 1 → K ((nodes i).2.2.2.1) (state, left, tapeLen, tapeB, tLine, tReader, nodes)) ∧ (p1.toInt = 2 → K ((nodes i).2.2.2.2.1) (state, left, tapeLen, tapeB, tLine, tReader, nodes)) ∧ (p1.toInt = 3 → K ((nodes i).2.2.1) (state, left, tapeLen, tapeB, tLine, tReader, nodes)) ∧ (p1.toInt = 4 → K ((nodes i).2.2.2.2.2.1) (state, left, tapeLen, tapeB, tLine, tReader, nodes)) ∧ (p1.toInt = 5 → K ((nodes i).2.2.2.2.2.2.1) (state, left, tapeLen, tapeB, tLine, tReader, nodes)) ∧ (p1.toInt = 6 → K ((nodes i).2.2.2.2.2.2.2.1) (state, left, tapeLen, tapeB, tLine, tReader, nodes))) : wp_X4_node (state, left, tapeLen, tapeB, tLine, tReader, nodes) p0 p1 K KE := by
  unfold wp_X4_node
  exact good4 hi e ⟨fun _ => ⟨pk_in i 4 hi e, br4 hi e (X := fun j => (p1.toInt < 0 ∨ 6 < p1.toInt → KE "java/lang/IndexOutOfBoundsException" (state, left, tapeLen, tapeB, tLine, tReader, nodes)) ∧ (p1.toInt = 0 → (((nodes j).1 = 0 → K 0 (state, left, tapeLen, tapeB, tLine, tReader, nodes)) ∧ (¬ (nodes j).1 = 0 → K ((nodes j).2.1) (state, left, tapeLen, tapeB, tLine, tReader, nodes)))) ∧ (p1.toInt = 1 → K ((nodes j).2.2.2.1) (state, left, tapeLen, tapeB, tLine, tReader, nodes)) ∧ (p1.toInt = 2 → K ((nodes j).2.2.2.2.1) (state, left, tapeLen, tapeB, tLine, tReader, nodes)) ∧ (p1.toInt = 3 → K ((nodes j).2.2.1) (state, left, tapeLen, tapeB, tLine, tReader, nodes)) ∧ (p1.toInt = 4 → K ((nodes j).2.2.2.2.2.1) (state, left, tapeLen, tapeB, tLine, tReader, nodes)) ∧ (p1.toInt = 5 → K ((nodes j).2.2.2.2.2.2.1) (state, left, tapeLen, tapeB, tLine, tReader, nodes)) ∧ (p1.toInt = 6 → K ((nodes j).2.2.2.2.2.2.2.1) (state, left, tapeLen, tapeB, tLine, tReader, nodes))) h⟩, fun z => absurd z (by decide)⟩
theorem lt0 {x : Int32} : x < 0 ↔ x.toInt < 0 := by
  rw [Int32.lt_iff_toInt_lt]
  exact Iff.rfl
theorem leN {x y : Int32} {k : Int} (hy : y.toInt = k) : x ≤ y ↔ x.toInt ≤ k := by
  rw [Int32.le_iff_toInt_le, hy]
set_option maxHeartbeats 1000000 in
theorem ok_node : OKnode Sm := by
  intro n hn S M f p0 p1 h
  have h1 := fun x => (Sim.thr (mI := M.1) (mA := M.2.1) (mL := M.2.2) x h).mono (c1 := 200 * (n + 1)) (by omega)
  obtain ⟨a1, a2, a3, a4, a5, a6, a7, g, a8, a9, a10⟩ := h
  obtain ⟨state, left, tapeLen, tapeB, tLine, tReader, nodes⟩ := S
  obtain ⟨mI, mA, mL⟩ := M
  dsimp only at h1 a10
  have e6 := leN (x := p1) (y := 6) (k := 6) rfl
  have e0 := lt0 (x := p1)
  unfold wl_node
  -- a refused call
  have rej : ((p0 < 0 ∨ nI 4 ≤ p0) ∨ ((∃ i, i < 4 ∧ p0 = nI i) ∧ (p1.toInt < 0 ∨ 6 < p1.toInt))) → wp_X5_node (mI, mA, mL) p0 p1 (fun b M1 => Sm (n + 1) (state, left, tapeLen, tapeB, tLine, tReader, nodes) M1 ∧ M1.1 0 = 1 ∧ ((1 : Int32) = 0 → f 0 = b.toInt64)) := by
    intro q
    have k18 : wp_X5_node_18 (fun b M1 => Sm (n + 1) (state, left, tapeLen, tapeB, tLine, tReader, nodes) M1 ∧ M1.1 0 = 1 ∧ ((1 : Int32) = 0 → f 0 = b.toInt64)) (mI, mA, mL) p0 p1 := by
      unfold wp_X5_node_18 wp_X5_node_23
      exact ⟨fun z => absurd z (by decide), fun _ => ⟨h1 1, rfl, fun z => absurd z (by decide)⟩⟩
    unfold wp_X5_node
    rcases q with q | ⟨⟨i, hi, e⟩, q⟩
    · exact bad5 q ⟨fun _ => k18, fun z => absurd rfl z⟩
    · refine good5 hi e ⟨fun z => absurd z (by decide), fun _ => ⟨fun _ => k18, fun z => ⟨fun y => ?_, fun _ => k18⟩⟩⟩
      rw [e0] at z
      rw [e6] at y
      omega
  rcases node_ix p0 with q | ⟨i, hi, e⟩
  · unfold wp_X4_node
    exact bad4 q ⟨fun z => absurd rfl z, fun _ => ⟨rfl, rej (Or.inl q)⟩⟩
  · have hin : vp_in p0 4 := pk_in i 4 hi e
    have hcl : p0.toNatClampNeg = i := pk_cl i e
    have hND := a10 i hi
    have good : ∀ r : Int32, 0 ≤ p1.toInt → p1.toInt ≤ 6 → (p1.toInt = 0 → mA 3 i = r) → (p1.toInt = 1 → mA 4 i = r) → (p1.toInt = 2 → mA 5 i = r) → (p1.toInt = 3 → mA 9 i = r) → (p1.toInt = 4 → mA 6 i = r) → (p1.toInt = 5 → mA 7 i = r) → (p1.toInt = 6 → mA 8 i = r) → wp_X5_node (mI, mA, mL) p0 p1 (fun b M1 => Sm (n + 1) (state, left, tapeLen, tapeB, tLine, tReader, nodes) M1 ∧ M1.1 0 = 0 ∧ ((0 : Int32) = 0 → (vp_updL f 0 r.toInt64) 0 = b.toInt64)) := by
      intro r g0 g6 k0 k1 k2 k3 k4 k5 k6
      have fin : ∀ b : Int32, b = r → Sm (n + 1) (state, left, tapeLen, tapeB, tLine, tReader, nodes) (va_up mI 0 0, mA, mL) ∧ (va_up mI 0 0) 0 = 0 ∧ ((0 : Int32) = 0 → (vp_updL f 0 r.toInt64) 0 = b.toInt64) := fun b eb => ⟨h1 0, rfl, fun _ => by rw [pk_uLs, eb]⟩
      unfold wp_X5_node wp_X5_node_23
      refine good5 hi e ⟨fun z => absurd z (by decide), fun _ => ⟨fun z => ?_, fun _ => ⟨fun _ => ⟨fun _ => ?_, fun z => absurd (by decide) z⟩, fun z => absurd (e6.mpr g6) z⟩⟩⟩
      · rw [e0] at z
        omega
      · rw [hcl]
        exact ⟨fun z => ⟨hin, fin _ (k6 (by omega))⟩, fun z => ⟨hin, fin _ (k0 z)⟩, fun z => ⟨hin, fin _ (k1 z)⟩, fun z => ⟨hin, fin _ (k2 z)⟩, fun z => ⟨hin, fin _ (k3 z)⟩, fun z => ⟨hin, fin _ (k4 z)⟩, fun z => ⟨hin, fin _ (k5 z)⟩⟩
    refine cls_node hi e ?_
    generalize nodes i = N at hND
    obtain ⟨on, role, wants, sndC, rcvC, nSent, nRcvd, lastF, found, sending, next, wanted, lastR, line, reader⟩ := N
    obtain ⟨b1, b2, b3, b4, b5, b6⟩ := hND
    obtain ⟨w, w1, w2, -⟩ := b2
    refine ⟨fun z => ⟨rfl, rej (Or.inr ⟨⟨i, hi, e⟩, z⟩)⟩, fun z => ⟨fun y => good 0 (by omega) (by omega) (fun _ => by rw [show mA 3 i = _ from b4, if_pos y]) (fun x => by omega) (fun x => by omega) (fun x => by omega) (fun x => by omega) (fun x => by omega) (fun x => by omega), fun y => good role (by omega) (by omega) (fun _ => by rw [show mA 3 i = _ from b4, if_neg y]) (fun x => by omega) (fun x => by omega) (fun x => by omega) (fun x => by omega) (fun x => by omega) (fun x => by omega)⟩, fun z => good sndC (by omega) (by omega) (fun x => by omega) (fun _ => b1.2.1.symm) (fun x => by omega) (fun x => by omega) (fun x => by omega) (fun x => by omega) (fun x => by omega), fun z => good rcvC (by omega) (by omega) (fun x => by omega) (fun x => by omega) (fun _ => b1.2.2.1.symm) (fun x => by omega) (fun x => by omega) (fun x => by omega) (fun x => by omega), fun z => good wants (by omega) (by omega) (fun x => by omega) (fun x => by omega) (fun x => by omega) (fun _ => by rw [w1]; exact w2) (fun x => by omega) (fun x => by omega) (fun x => by omega), fun z => good nSent (by omega) (by omega) (fun x => by omega) (fun x => by omega) (fun x => by omega) (fun x => by omega) (fun _ => b1.2.2.2.1.symm) (fun x => by omega) (fun x => by omega), fun z => good nRcvd (by omega) (by omega) (fun x => by omega) (fun x => by omega) (fun x => by omega) (fun x => by omega) (fun x => by omega) (fun _ => b1.2.2.2.2.1.symm) (fun x => by omega), fun z => good lastF (by omega) (by omega) (fun x => by omega) (fun x => by omega) (fun x => by omega) (fun x => by omega) (fun x => by omega) (fun x => by omega) (fun _ => b3.symm)⟩
/-! received -/
abbrev nLR (N : NodeS) : FrameS := N.2.2.2.2.2.2.2.2.2.2.2.2.1
theorem cls_received {state left tapeLen : Int32} {tapeB : Nat → Int32} {tLine : LineS} {tReader : ReaderS} {nodes : Nat → NodeS} {K : Int64 → WireS → Prop} {KE : String → WireS → Prop} {i : Nat} (hi : i < 4) {p0 p1 : Int32} (e : p0 = nI i) (h0 : p1 < 0 ∨ ¬ p1 ≤ 3 → KE "java/lang/IndexOutOfBoundsException" (state, left, tapeLen, tapeB, tLine, tReader, nodes)) (h : ¬ p1 < 0 → p1 ≤ 3 → ((¬ (nodes i).2.2.2.2.2.2.1 = 0 → ((p1.toInt < 0 ∨ 2 < p1.toInt → K ((nLR (nodes i)).2.2.1) (state, left, tapeLen, tapeB, tLine, tReader, nodes)) ∧ (p1.toInt = 0 → K (((nLR (nodes i)).2.1).toInt64) (state, left, tapeLen, tapeB, tLine, tReader, nodes)) ∧ (p1.toInt = 1 → (((nLR (nodes i)).1 = 0 → K 0 (state, left, tapeLen, tapeB, tLine, tReader, nodes)) ∧ (¬ (nLR (nodes i)).1 = 0 → K 1 (state, left, tapeLen, tapeB, tLine, tReader, nodes)))) ∧ (p1.toInt = 2 → K (((nLR (nodes i)).2.2.2).toInt64) (state, left, tapeLen, tapeB, tLine, tReader, nodes)))) ∧ ((nodes i).2.2.2.2.2.2.1 = 0 → KE "java/util/NoSuchElementException" (state, left, tapeLen, tapeB, tLine, tReader, nodes)))) : wp_X4_received (state, left, tapeLen, tapeB, tLine, tReader, nodes) p0 p1 K KE := by
  unfold wp_X4_received wp_X4_received_16
  exact good4 hi e ⟨fun z => absurd z (by decide), fun _ => ⟨fun q => h0 (Or.inl q), fun q => ⟨fun q2 => ⟨pk_in i 4 hi e, br4 hi e (X := fun j => ((¬ (nodes j).2.2.2.2.2.2.1 = 0 → ((p1.toInt < 0 ∨ 2 < p1.toInt → K ((nLR (nodes j)).2.2.1) (state, left, tapeLen, tapeB, tLine, tReader, nodes)) ∧ (p1.toInt = 0 → K (((nLR (nodes j)).2.1).toInt64) (state, left, tapeLen, tapeB, tLine, tReader, nodes)) ∧ (p1.toInt = 1 → (((nLR (nodes j)).1 = 0 → K 0 (state, left, tapeLen, tapeB, tLine, tReader, nodes)) ∧ (¬ (nLR (nodes j)).1 = 0 → K 1 (state, left, tapeLen, tapeB, tLine, tReader, nodes)))) ∧ (p1.toInt = 2 → K (((nLR (nodes j)).2.2.2).toInt64) (state, left, tapeLen, tapeB, tLine, tReader, nodes)))) ∧ ((nodes j).2.2.2.2.2.2.1 = 0 → KE "java/util/NoSuchElementException" (state, left, tapeLen, tapeB, tLine, tReader, nodes)))) (h q q2)⟩, fun q2 => h0 (Or.inr q2)⟩⟩⟩
theorem eqN {x : Int32} {y : Int32} {k : Int} (hy : y.toInt = k) : x = y ↔ x.toInt = k := by
  rw [← hy]
  exact Int32.toInt_inj.symm
set_option maxHeartbeats 1000000 in
theorem ok_received : OKreceived Sm := by
  intro n hn S M f p0 p1 h
  have h1 := fun x => (Sim.thr (mI := M.1) (mA := M.2.1) (mL := M.2.2) x h).mono (c1 := 200 * (n + 1)) (by omega)
  obtain ⟨a1, a2, a3, a4, a5, a6, a7, g, a8, a9, a10⟩ := h
  obtain ⟨state, left, tapeLen, tapeB, tLine, tReader, nodes⟩ := S
  obtain ⟨mI, mA, mL⟩ := M
  dsimp only at h1 a10
  have e3 := leN (x := p1) (y := 3) (k := 3) rfl
  have e0 := lt0 (x := p1)
  have q0 := eqN (x := p1) (y := 0) (k := 0) rfl
  have q1 := eqN (x := p1) (y := 1) (k := 1) rfl
  have q2 := eqN (x := p1) (y := 2) (k := 2) rfl
  unfold wl_received
  have bad : ∀ k0 : Int32, ¬ k0 ≤ 0 → ∀ v1 v2 : Int32, wp_X5_received_35 (fun b M1 => Sm (n + 1) (state, left, tapeLen, tapeB, tLine, tReader, nodes) M1 ∧ M1.1 0 = k0 ∧ (k0 = 0 → f 0 = b)) (mI, mA, mL) v1 v2 k0 := by
    intro k0 hk v1 v2
    unfold wp_X5_received_35
    exact ⟨fun z => absurd z hk, fun _ => ⟨h1 k0, rfl, fun z => absurd (by rw [z]; decide) hk⟩⟩
  rcases node_ix p0 with q | ⟨i, hi, e⟩
  · unfold wp_X4_received wp_X4_received_16
    refine bad4 q ⟨fun _ => Or.inl ⟨rfl, ?_⟩, fun z => absurd rfl z⟩
    unfold wp_X5_received wp_X5_received_17
    exact bad5 q ⟨fun _ => bad 1 (by decide) _ _, fun z => absurd rfl z⟩
  · have hin : vp_in p0 4 := pk_in i 4 hi e
    have hcl : p0.toNatClampNeg = i := pk_cl i e
    have hND := a10 i hi
    refine cls_received hi e (fun z => Or.inl ⟨rfl, ?_⟩) (fun z1 z2 => ?_)
    · unfold wp_X5_received wp_X5_received_17
      refine good5 hi e ⟨fun y => absurd y (by decide), fun _ => ⟨fun _ => bad 1 (by decide) _ _, fun y => ⟨fun x => ?_, fun _ => bad 1 (by decide) _ _⟩⟩⟩
      rcases z with z | z
      · exact absurd z y
      · exact absurd x z
    · generalize nodes i = N at hND
      obtain ⟨on, role, wants, sndC, rcvC, nSent, nRcvd, lastF, found, sending, next, wanted, lastR, line, reader⟩ := N
      obtain ⟨b1, b2, b3, b4, b5, b6⟩ := hND
      have e7 : mA 7 i = nRcvd := b1.2.2.2.2.1.symm
      have eL : lastR = (mA 14 i, mA 15 i, mL 16 i, mA 17 i) := b1.2.2.2.2.2.1
      refine ⟨fun y => ?_, fun y => Or.inr ⟨rfl, ?_⟩⟩
      · have y : ¬ nRcvd = 0 := y
        have good : ∀ r : Int64, (p1.toInt = 0 → (mA 15 i).toInt64 = r) → (p1.toInt = 1 → (mA 14 i = 0 → r = 0) ∧ (¬ mA 14 i = 0 → r = 1)) → (p1.toInt = 2 → (mA 17 i).toInt64 = r) → (2 < p1.toInt → mL 16 i = r) → wp_X5_received (mI, mA, mL) p0 p1 (fun b M1 => Sm (n + 1) (state, left, tapeLen, tapeB, tLine, tReader, nodes) M1 ∧ M1.1 0 = 0 ∧ ((0 : Int32) = 0 → (vp_updL f 0 r) 0 = b)) := by
          intro r k0 k1 k2 k3
          have fin : ∀ b : Int64, b = r → Sm (n + 1) (state, left, tapeLen, tapeB, tLine, tReader, nodes) (va_up mI 0 0, mA, mL) ∧ (va_up mI 0 0) 0 = 0 ∧ ((0 : Int32) = 0 → (vp_updL f 0 r) 0 = b) := fun b eb => ⟨h1 0, rfl, fun _ => by rw [pk_uLs, eb]⟩
          unfold wp_X5_received wp_X5_received_35
          refine good5 hi e ⟨fun x => absurd x (by decide), fun _ => ⟨fun x => absurd x z1, fun _ => ⟨fun _ => ⟨hin, fun _ => ⟨fun _ => ?_, fun x => absurd (by decide) x⟩, fun x => ?_⟩, fun x => absurd z2 x⟩⟩⟩
          · rw [hcl]
            refine ⟨fun x0 => ⟨fun x1 => ⟨fun x2 => ⟨hin, fin _ (k3 ?_)⟩, fun x2 => ⟨hin, fin _ (k2 (q2.mp x2))⟩⟩, fun x1 => ⟨hin, fun w => fin _ ((k1 (q1.mp x1)).1 w).symm, fun w => fin _ ((k1 (q1.mp x1)).2 w).symm⟩⟩, fun x0 => ⟨hin, fin _ (k0 (q0.mp x0))⟩⟩
            rw [q0] at x0
            rw [q1] at x1
            rw [q2] at x2
            rw [e0] at z1
            omega
          · rw [hcl, e7] at x
            exact absurd x y
        show (p1.toInt < 0 ∨ 2 < p1.toInt → _) ∧ (p1.toInt = 0 → _) ∧ (p1.toInt = 1 → (lastR.1 = 0 → _) ∧ (¬ lastR.1 = 0 → _)) ∧ (p1.toInt = 2 → _)
        refine ⟨fun x => good lastR.2.2.1 (fun _ => ?_) (fun _ => ?_) (fun _ => ?_) (fun _ => by rw [eL]), fun x => good lastR.2.1.toInt64 (fun _ => by rw [eL]) (fun _ => by omega) (fun _ => by omega) (fun _ => by omega), fun x => ⟨fun w => good 0 (fun _ => by omega) (fun _ => ⟨fun _ => rfl, fun v => ?_⟩) (fun _ => by omega) (fun _ => by omega), fun w => good 1 (fun _ => by omega) (fun _ => ⟨fun v => ?_, fun _ => rfl⟩) (fun _ => by omega) (fun _ => by omega)⟩, fun x => good lastR.2.2.2.toInt64 (fun _ => by omega) (fun _ => by omega) (fun _ => by rw [eL]) (fun _ => by omega)⟩
        · rw [e0] at z1; omega
        · rw [e0] at z1; omega
        · rw [e0] at z1; omega
        · rw [eL] at w; exact absurd w v
        · rw [eL] at w; exact absurd v w
      · have y : nRcvd = 0 := y
        unfold wp_X5_received wp_X5_received_17
        refine good5 hi e ⟨fun x => absurd x (by decide), fun _ => ⟨fun x => absurd x z1, fun _ => ⟨fun _ => ⟨hin, fun x => ?_, fun _ => bad 2 (by decide) _ _⟩, fun x => absurd z2 x⟩⟩⟩
        rw [hcl, e7] at x
        exact absurd y x
