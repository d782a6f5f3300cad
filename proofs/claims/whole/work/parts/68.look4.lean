/-! all four look -/
/-- what the reference says of a node that has looked -/
def fv (N : NodeS) : Int32 := if nFound N = 0 then (if N.2.1 = 2 ∧ (nRd N).2.1 = 10 then 9 else 0) else nFound N
abbrev lfv (N : NodeS) : Int32 := if nFound N = 0 then nLast N else nFound N
theorem PLk.fvo {c g i : Nat} {M : ModelS} {f lf : Int32} {N : NodeS} (h : PLk c g i M f lf N) : f = fv N ∧ (nFound N = 0 → f = 0 ∨ f = 9) ∧ (¬ nFound N = 0 → ¬ f ≤ 0 ∧ ¬ 9 ≤ f ∧ ¬ f = 9) ∧ (M.2.1 3 i = 2 ↔ N.2.1 = 2) := by
  obtain ⟨on, role, wants, sndC, rcvC, nSent, nRcvd, lastF, found, sending, next, wanted, lastR, line, reader⟩ := N
  obtain ⟨-, -, -, a4, a5, a6⟩ := h
  have hro : M.2.1 3 i = 2 ↔ role = 2 := by
    rw [a4]
    by_cases z : on = 0
    · rw [if_pos z, a5 z]
      exact ⟨fun q => absurd q (by decide), fun q => absurd q (by decide)⟩
    · rw [if_neg z]
  unfold fv
  show f = (if found = 0 then (if role = 2 ∧ reader.2.1 = 10 then 9 else 0) else found) ∧ (found = 0 → f = 0 ∨ f = 9) ∧ (¬ found = 0 → _) ∧ (_ ↔ role = 2)
  rcases a6 with ⟨q, q2⟩ | ⟨q, q2, q3⟩
  · rw [if_pos q]
    rcases q2 with ⟨x, y⟩ | ⟨x, ⟨y, ρ, z1, z2, z3, z4⟩ | ⟨y, z⟩⟩ | ⟨x, y, -⟩
    · rw [if_neg (fun z => by rw [x] at z; exact absurd z.1 (by decide))]
      exact ⟨y, fun _ => Or.inl y, fun z => absurd q z, hro⟩
    · rw [if_neg (fun z => z3.tail z4 z.2)]
      exact ⟨y, fun _ => Or.inl y, fun z => absurd q z, hro⟩
    · rw [if_pos ⟨x, z.choose_spec.2.2.2.2⟩]
      exact ⟨y, fun _ => Or.inr y, fun z => absurd q z, hro⟩
    · rw [if_neg (fun z => by rw [x] at z; exact absurd z.1 (by decide))]
      exact ⟨y, fun _ => Or.inl y, fun z => absurd q z, hro⟩
  · have hf0 : ¬ found = 0 := by
      intro z
      rw [z] at q3
      exact absurd q3 (by decide)
    rw [if_neg hf0, q]
    refine ⟨rfl, fun z => absurd z hf0, fun _ => ?_, hro⟩
    rcases q3 with q3 | q3 | q3 | q3 | q3 <;> rw [q3] <;> decide
def orb (v m : Int32) (b : Bool) : Int32 := if b = true then v ||| m else v
def lb174 (i : Nat) (m : Int32) (KK : ModelS → Int32 → Int32 → Int32 → Prop) (v4 v6 v9 k0 : Int32) (M : ModelS) : Prop := (v9 ≤ 0 → KK M v4 k0 v6) ∧ (¬ v9 ≤ 0 → ((9 ≤ v9 → KK M v4 k0 v6) ∧ (¬ 9 ≤ v9 → (∀ n42 : Int32, n42 = v4 ||| m → KK (M.1, va_up M.2.1 8 (upd (M.2.1 8) i v9), M.2.2) n42 k0 v6))))
def lb153 (i : Nat) (m : Int32) (KK : ModelS → Int32 → Int32 → Int32 → Prop) (v4 v5 v9 k0 : Int32) (M : ModelS) : Prop := (¬ v9 = 9 → lb174 i m KK v4 k0 v9 v5 M) ∧ (v9 = 9 → lb174 i m KK v4 k0 v9 (v5 ||| m) M)
def lb130 (i : Nat) (m : Int32) (KK : ModelS → Int32 → Int32 → Int32 → Prop) (v4 v5 v6 v9 : Int32) (M : ModelS) : Prop := (¬ v6 = 0 → lb153 i m KK v4 v5 v9 1 M) ∧ (v6 = 0 → ((¬ M.2.1 3 i = 2 → lb153 i m KK v4 v5 v9 0 M) ∧ (M.2.1 3 i = 2 → lb153 i m KK v4 v5 v9 1 M)))
def lb106 (i : Nat) (v m : Int32) (KK : ModelS → Int32 → Int32 → Int32 → Prop) (v4 v5 v6 k0 : Int32) (M : ModelS) : Prop := (¬ M.2.1 3 i = 0 → wp_X5_sees M v k0 (fun r u => lb130 i m KK v4 v5 v6 r u)) ∧ (M.2.1 3 i = 0 → lb130 i m KK v4 v5 v6 0 M)
def anyv (v6 : Int32) (N : NodeS) : Int32 := if ¬ v6 = 0 ∨ N.2.1 = 2 then 1 else 0
theorem lookb {c g i : Nat} {N N1 : NodeS} {b v m v4 v5 v6 : Int32} {KK : ModelS → Int32 → Int32 → Int32 → Prop} (hv : v = nI i) (h : LookC c g i b N N1) {M1 : ModelS} (hM1 : ND c g i M1 N) (hKK : ∀ M2, Loc5 i M1 M2 → PLk c g i M2 (fv N1) (lfv N1) N1 → KK M2 (orb v4 m (decide (¬ nFound N1 = 0))) (orb v5 m (decide (fv N1 = 9))) (anyv v6 N1)) : lb106 i v m KK v4 v5 v6 b M1 := by
  refine h.2.2.2 M1 hM1 (fun f M2 => lb130 i m KK v4 v5 v6 f M2) (fun f M2 lk hP => ?_) v hv
  obtain ⟨e, p1, p2, p3⟩ := hP.fvo
  subst e
  have k174 : ∀ v5' : Int32, v5' = orb v5 m (decide (fv N1 = 9)) → lb174 i m KK v4 (anyv v6 N1) (fv N1) v5' M2 := by
    intro v5' e5
    rw [e5]
    by_cases hf : nFound N1 = 0
    · have ho : orb v4 m (decide (¬ nFound N1 = 0)) = v4 := by
        unfold orb
        rw [if_neg]
        simpa using hf
      have hl : lfv N1 = nLast N1 := if_pos hf
      have kk := hKK M2 lk.1 (by rw [hl]; exact hP)
      rw [ho] at kk
      refine ⟨fun _ => kk, fun q => ⟨fun _ => kk, fun z => ?_⟩⟩
      rcases p1 hf with y | y
      · rw [y] at q; exact absurd (by decide) q
      · rw [y] at z; exact absurd (by decide) z
    · have ho : orb v4 m (decide (¬ nFound N1 = 0)) = v4 ||| m := by
        unfold orb
        rw [if_pos]
        simpa using hf
      obtain ⟨y1, y2, y3⟩ := p2 hf
      refine ⟨fun q => absurd q y1, fun _ => ⟨fun q => absurd q y2, fun _ n42 e42 => ?_⟩⟩
      rw [e42, ← ho]
      have l2 : Lk i M2 (M2.1, va_up M2.2.1 8 (upd (M2.2.1 8) i (fv N1)), M2.2.2) := Lk.one (f0 := 8) (by unfold T0; omega) rfl (by decide)
      refine hKK _ (lk.1.tr l2.1) ?_
      have hfe : fv N1 = nFound N1 := if_neg hf
      have hl : lfv N1 = nFound N1 := if_neg hf
      rw [hl]
      obtain ⟨on, role, wants, sndC, rcvC, nSent, nRcvd, lastF, found, sending, next, wanted, lastR, line, reader⟩ := N1
      obtain ⟨a1, a2, a3, a4, a5, a6⟩ := hP
      refine ⟨a1.lk l2, a2.lk l2, ?_, a4, a5, ?_⟩
      · exact hfe.symm.trans pk_us.symm
      · rcases a6 with ⟨q, -⟩ | q
        · exact absurd q hf
        · exact Or.inr q
  have k153 : lb153 i m KK v4 v5 (fv N1) (anyv v6 N1) M2 := by
    refine ⟨fun q => k174 _ ?_, fun q => k174 _ ?_⟩
    · unfold orb
      rw [if_neg]
      simpa using q
    · unfold orb
      rw [if_pos]
      simpa using q
  refine ⟨fun q => ?_, fun q => ⟨fun z => ?_, fun z => ?_⟩⟩
  · have : anyv v6 N1 = 1 := if_pos (Or.inl q)
    rw [this] at k153
    exact k153
  · have : anyv v6 N1 = 0 := if_neg (fun y => y.elim (fun y => y q) (fun y => z (p3.mpr y)))
    rw [this] at k153
    exact k153
  · have : anyv v6 N1 = 1 := if_pos (Or.inr (p3.mp z))
    rw [this] at k153
    exact k153
theorem xor_seen {l d : Int32} (hl : isB l) (hd : isB d) : l ^^^ d = (if d = 1 then 1 - l else l) ∧ isB (l ^^^ d) := by
  rcases hl with rfl | rfl <;> rcases hd with rfl | rfl <;> (unfold isB; decide)
def fs (v f : Int32) : Int32 := if f = 0 then v else 1
theorem cs_look {state left tapeLen : Int32} {tapeB : Nat → Int32} {tLine : LineS} {tReader : ReaderS} {nodes : Nat → NodeS} {A0 A1 A2 A3 : NodeS} {l d : Int32} {K : Int32 → WireS → Prop} (h0 : ∀ K : NodeS → Prop, K A0 → wp_X2_look (nodes 0) (l ^^^ ((d >>> (0 &&& 31)) &&& 1)) K) (h1 : ∀ K : NodeS → Prop, K A1 → wp_X2_look (nodes 1) (l ^^^ ((d >>> (1 &&& 31)) &&& 1)) K) (h2 : ∀ K : NodeS → Prop, K A2 → wp_X2_look (nodes 2) (l ^^^ ((d >>> (2 &&& 31)) &&& 1)) K) (h3 : ∀ K : NodeS → Prop, K A3 → wp_X2_look (nodes 3) (l ^^^ ((d >>> (3 &&& 31)) &&& 1)) K) (hK : K (fs (fs (fs (fs 0 (nFound A0)) (nFound A1)) (nFound A2)) (nFound A3)) (state, left, tapeLen, tapeB, tLine, tReader, va_up (va_up (va_up (va_up nodes 0 A0) 1 A1) 2 A2) 3 A3)) : wp_X4_someFindFaults (state, left, tapeLen, tapeB, tLine, tReader, nodes) l d K := by
  have hz : ∀ v f : Int32, bz v → bz (fs v f) := by
    intro v f hv
    unfold fs
    split
    · exact hv
    · exact bz_1
  have st : ∀ (A : NodeS) (v : Int32) (P : Int32 → Prop), P (fs v (nFound A)) → (nFound A = 0 → P v) ∧ (¬ nFound A = 0 → P 1) := by
    intro A v P h
    unfold fs at h
    refine ⟨fun q => ?_, fun q => ?_⟩
    · rw [if_pos q] at h; exact h
    · rw [if_neg q] at h; exact h
  unfold wp_X4_someFindFaults wp_X4_someFindFaults_5_0
  refine h0 _ (st A0 0 (fun v => wp_X4_someFindFaults_44_0 K (state, left, tapeLen, tapeB, tLine, tReader, va_up nodes 0 A0) l d v) ?_)
  unfold wp_X4_someFindFaults_44_0 wp_X4_someFindFaults_5_1
  refine h1 _ (st A1 _ (fun v => wp_X4_someFindFaults_44_1 K (state, left, tapeLen, tapeB, tLine, tReader, va_up (va_up nodes 0 A0) 1 A1) l d v) ?_)
  unfold wp_X4_someFindFaults_44_1 wp_X4_someFindFaults_5_2
  refine h2 _ (st A2 _ (fun v => wp_X4_someFindFaults_44_2 K (state, left, tapeLen, tapeB, tLine, tReader, va_up (va_up (va_up nodes 0 A0) 1 A1) 2 A2) l d v) ?_)
  unfold wp_X4_someFindFaults_44_2 wp_X4_someFindFaults_5_3
  refine h3 _ (st A3 _ (fun v => wp_X4_someFindFaults_44_3 K (state, left, tapeLen, tapeB, tLine, tReader, va_up (va_up (va_up (va_up nodes 0 A0) 1 A1) 2 A2) 3 A3) l d v) ?_)
  unfold wp_X4_someFindFaults_44_3 wp_X4_someFindFaults_5_4
  exact ⟨hz _ _ (hz _ _ (hz _ _ (hz _ _ bz_0))), hK⟩
theorem ms_look_0 {K : Int32 → ModelS → Prop} {M : ModelS} {v1 v2 v3 v4 v5 v6 : Int32} (hv3 : isB v3) (h : lb106 0 0 1 (fun M v4 v5 v6 => wp_X5_liveStep_83_1 K M v1 v2 v3 v4 v5 v6) v4 v5 v6 (v3 ^^^ ((v1 >>> (0 &&& 31)) &&& 1)) M) : wp_X5_liveStep_83_0 K M v1 v2 v3 v4 v5 v6 := by
  have e := (xor_seen hv3 (and1 (v1 >>> (0 &&& 31)))).1
  obtain ⟨mI, mA, mL⟩ := M
  unfold wp_X5_liveStep_83_0
  refine ⟨fun q => ?_, fun q => ?_⟩
  · rw [if_neg q] at e
    rw [e] at h
    exact h
  · rw [if_pos q] at e
    rw [e] at h
    exact h
theorem ms_look_1 {K : Int32 → ModelS → Prop} {M : ModelS} {v1 v2 v3 v4 v5 v6 : Int32} (hv3 : isB v3) (h : lb106 1 1 2 (fun M v4 v5 v6 => wp_X5_liveStep_83_2 K M v1 v2 v3 v4 v5 v6) v4 v5 v6 (v3 ^^^ ((v1 >>> (1 &&& 31)) &&& 1)) M) : wp_X5_liveStep_83_1 K M v1 v2 v3 v4 v5 v6 := by
  have e := (xor_seen hv3 (and1 (v1 >>> (1 &&& 31)))).1
  obtain ⟨mI, mA, mL⟩ := M
  unfold wp_X5_liveStep_83_1
  refine ⟨fun q => ?_, fun q => ?_⟩
  · rw [if_neg q] at e
    rw [e] at h
    exact h
  · rw [if_pos q] at e
    rw [e] at h
    exact h
theorem ms_look_2 {K : Int32 → ModelS → Prop} {M : ModelS} {v1 v2 v3 v4 v5 v6 : Int32} (hv3 : isB v3) (h : lb106 2 2 4 (fun M v4 v5 v6 => wp_X5_liveStep_83_3 K M v1 v2 v3 v4 v5 v6) v4 v5 v6 (v3 ^^^ ((v1 >>> (2 &&& 31)) &&& 1)) M) : wp_X5_liveStep_83_2 K M v1 v2 v3 v4 v5 v6 := by
  have e := (xor_seen hv3 (and1 (v1 >>> (2 &&& 31)))).1
  obtain ⟨mI, mA, mL⟩ := M
  unfold wp_X5_liveStep_83_2
  refine ⟨fun q => ?_, fun q => ?_⟩
  · rw [if_neg q] at e
    rw [e] at h
    exact h
  · rw [if_pos q] at e
    rw [e] at h
    exact h
theorem ms_look_3 {K : Int32 → ModelS → Prop} {M : ModelS} {v1 v2 v3 v4 v5 v6 : Int32} (hv3 : isB v3) (h : lb106 3 3 8 (fun M v4 v5 v6 => wp_X5_liveStep_83_4 K M v1 v2 v3 v4 v5 v6) v4 v5 v6 (v3 ^^^ ((v1 >>> (3 &&& 31)) &&& 1)) M) : wp_X5_liveStep_83_3 K M v1 v2 v3 v4 v5 v6 := by
  have e := (xor_seen hv3 (and1 (v1 >>> (3 &&& 31)))).1
  obtain ⟨mI, mA, mL⟩ := M
  unfold wp_X5_liveStep_83_3
  refine ⟨fun q => ?_, fun q => ?_⟩
  · rw [if_neg q] at e
    rw [e] at h
    exact h
  · rw [if_pos q] at e
    rw [e] at h
    exact h
