/-! want -/
theorem add2 {on role wants sndC rcvC nSent nRcvd lastF found sending next : Int32} {wanted : Nat → FrameS} {lastR : FrameS} {line : LineS} {reader : ReaderS} {p0 p1 p3 : Int32} {p2 : Int64} {K : NodeS → Prop} {w : Nat} (hw : wants = nI w) (h4 : w < 4) (hz : bz p0) (hK : K (on, role, nI (w + 1), sndC, rcvC, nSent, nRcvd, lastF, found, sending, next, va_up wanted w (p0, p1, p2, p3), lastR, line, reader)) : wp_X2_addWanted (on, role, wants, sndC, rcvC, nSent, nRcvd, lastF, found, sending, next, wanted, lastR, line, reader) p0 p1 p2 p3 K := by
  have hset : ∀ (F : FrameS) (K : FrameS → Prop), K (p0, p1, p2, p3) → wp_X0_set F p0 p1 p2 p3 K := by
    intro F K h
    obtain ⟨fLong, fId, fData, fSize⟩ := F
    exact ⟨hz, h⟩
  have one : ∀ j : Nat, j < 4 → wants = nI j → K (on, role, nI (j + 1), sndC, rcvC, nSent, nRcvd, lastF, found, sending, next, va_up wanted j (p0, p1, p2, p3), lastR, line, reader) := by
    intro j hj e
    have := (nI_eq (by omega) (by omega)).mp (hw.symm.trans e)
    subst this
    exact hK
  unfold wp_X2_addWanted
  refine ⟨fun q => ?_, fun _ => ⟨pk_in w 4 h4 hw, fun e => hset _ _ (one 0 (by omega) e), fun e => hset _ _ (one 1 (by omega) e), fun e => hset _ _ (one 2 (by omega) e), fun e => hset _ _ (one 3 (by omega) e)⟩⟩
  rw [hw, lit 4] at q
  exact absurd q (nI_ge h4 (by omega))
theorem cls_want26 {state left tapeLen : Int32} {tapeB : Nat → Int32} {tLine : LineS} {tReader : ReaderS} {nodes : Nat → NodeS} {K : Int32 → WireS → Prop} {KE : String → WireS → Prop} {i : Nat} (hi : i < 4) {v1 v2 v3 v6 k0 : Int32} {v4 : Int64} (e : v1 = nI i) (h0 : (v3 < 0 ∨ 1 <<< (k0 &&& 31) ≤ v3 ∨ v6 < 0 ∨ ¬ v6 ≤ 8) → KE "java/lang/IllegalArgumentException" (state, left, tapeLen, tapeB, tLine, tReader, nodes)) (h : ¬ v3 < 0 → ¬ 1 <<< (k0 &&& 31) ≤ v3 → ¬ v6 < 0 → v6 ≤ 8 → (((nodes i).2.2.1 < 4 → wp_X2_addWanted (nodes i) v2 v3 v4 v6 (fun u9 => K u9.2.2.1 (state, left, tapeLen, tapeB, tLine, tReader, va_up nodes i u9))) ∧ (¬ (nodes i).2.2.1 < 4 → KE "java/lang/UnsupportedOperationException" (state, left, tapeLen, tapeB, tLine, tReader, nodes)))) : wp_X4_want_26 K KE (state, left, tapeLen, tapeB, tLine, tReader, nodes) v1 v2 v3 v4 v6 k0 := by
  unfold wp_X4_want_26 wp_X4_want_52
  exact ⟨fun q => h0 (Or.inl q), fun q1 => ⟨fun q => h0 (Or.inr (Or.inl q)), fun q2 => ⟨fun q => h0 (Or.inr (Or.inr (Or.inl q))), fun q3 => ⟨fun q4 => ⟨pk_in i 4 hi e, br4 hi e (X := fun j => (((nodes j).2.2.1 < 4 → wp_X2_addWanted (nodes j) v2 v3 v4 v6 (fun u9 => K u9.2.2.1 (state, left, tapeLen, tapeB, tLine, tReader, va_up nodes j u9))) ∧ (¬ (nodes j).2.2.1 < 4 → KE "java/lang/UnsupportedOperationException" (state, left, tapeLen, tapeB, tLine, tReader, nodes)))) (h q1 q2 q3 q4)⟩, fun q => h0 (Or.inr (Or.inr (Or.inr q)))⟩⟩⟩⟩
/-- the reference's cells behind a want -/
def Wd (i w : Nat) (F : FrameS) (x : Int32) (M M1 : ModelS) : Prop := (∀ k, k ≠ 0 → k ≠ 24 → M1.1 k = M.1 k) ∧ M1.2.1 9 = upd (M.2.1 9) i (nI (w + 1)) ∧ M1.2.1 10 = upd (M.2.1 10) (4 * i + w) F.1 ∧ M1.2.1 11 = upd (M.2.1 11) (4 * i + w) F.2.1 ∧ M1.2.2 12 = vp_updL (M.2.2 12) (4 * i + w) F.2.2.1 ∧ M1.2.1 13 = upd (M.2.1 13) (4 * i + w) F.2.2.2 ∧ M1.2.1 23 = upd (M.2.1 23) (4 * i + w) x ∧ (∀ f, f ≠ 9 → ¬ sf f → M1.2.1 f = M.2.1 f) ∧ ∀ f, f ≠ 12 → M1.2.2 f = M.2.2 f
theorem Wd.loc {i w : Nat} {F : FrameS} {x : Int32} {M M1 : ModelS} (h : Wd i w F x M M1) (hw : w < 4) {j : Nat} (hj : j ≠ i) : EqN j M M1 := by
  obtain ⟨h0, h9, h10, h11, h12, h13, h23, hr, hl⟩ := h
  refine ⟨fun f hf31 _ q hq => ?_, fun f q hq => ?_⟩
  · by_cases e9 : f = 9
    · subst e9
      rw [h9]
      exact pk_un (fun z => hj ((own_1 (f := 9) rfl).mp hq ▸ z))
    · by_cases es : sf f
      · have h4 : 4 * j ≤ q ∧ q < 4 * j + 4 := by
          unfold sf at es
          unfold own wd at hq
          rw [if_pos (by omega)] at hq
          exact hq
        have hne : q ≠ 4 * i + w := fun z => blk_ne (w := 4) (i := j) (j := i) (q := q) hj h4 (by omega)
        rcases es with rfl | rfl | rfl | rfl
        · rw [h10]; exact pk_un hne
        · rw [h11]; exact pk_un hne
        · rw [h13]; exact pk_un hne
        · rw [h23]; exact pk_un hne
      · rw [hr f e9 es]
  · by_cases e12 : f = 12
    · subst e12
      have h4 : 4 * j ≤ q ∧ q < 4 * j + 4 := hq
      rw [h12]
      exact pk_uLn (fun z => blk_ne (w := 4) (i := j) (j := i) (q := q) hj h4 (by omega))
    · rw [hl f e12]
theorem NWt.add {g i w : Nat} {M M1 : ModelS} {W : Nat → FrameS} {F : FrameS} {sz : Nat} (hg : g < 2 ^ 31) (h4 : w < 4) (hWn : Wn i M W w) (h5 : ∀ k, k < w → ∃ v, v < g ∧ M.2.1 23 (4 * i + k) = nI v) (h6 : ∀ j k, j < k → k < w → ¬ M.2.1 23 (4 * i + j) = M.2.1 23 (4 * i + k)) (ho : okF F sz) (h : Wd i w F (nI g) M M1) : NWt (g + 1) i M1 (nI (w + 1)) (va_up W w F) := by
  obtain ⟨h0, h9, h10, h11, h12, h13, h23, hr, hl⟩ := h
  refine ⟨w + 1, rfl, by rw [h9, pk_us], by omega, fun k hk => ?_, fun k hk => ?_, fun j k hjk hk => ?_⟩
  · unfold FrM
    rw [h10, h11, h12, h13]
    by_cases e : k = w
    · subst e
      rw [up_s, pk_us, pk_us, pk_uLs, pk_us]
      exact ⟨⟨rfl, rfl, rfl, rfl⟩, sz, ho⟩
    · rw [up_n e, pk_un (by omega), pk_un (by omega), pk_uLn (by omega), pk_un (by omega)]
      exact hWn k (by omega)
  · rw [h23]
    by_cases e : k = w
    · subst e
      exact ⟨g, by omega, pk_us⟩
    · rw [pk_un (by omega)]
      obtain ⟨v, x, y⟩ := h5 k (by omega)
      exact ⟨v, by omega, y⟩
  · rw [h23, pk_un (show 4 * i + j ≠ 4 * i + w by omega)]
    by_cases e : k = w
    · subst e
      rw [pk_us]
      obtain ⟨v, x, y⟩ := h5 j hjk
      rw [y]
      intro z
      have := (nI_eq (by omega) (by omega)).mp z
      omega
    · rw [pk_un (by omega)]
      exact h6 j k hjk (by omega)
theorem Wd.row {i w : Nat} {F : FrameS} {x : Int32} {M M1 : ModelS} (h : Wd i w F x M M1) {f : Nat} (h9 : f ≠ 9) (hs : ¬ sf f) : M1.2.1 f = M.2.1 f := h.2.2.2.2.2.2.2.1 f h9 hs
theorem RowIs.wd {i w : Nat} {F : FrameS} {x : Int32} {M M1 : ModelS} {ρ : RowS} (h : Wd i w F x M M1) (hR : RowIs M i ρ) : RowIs M1 i ρ := hR.same (fun f hf => h.row (by unfold PT at hf; omega) (by unfold PT at hf; unfold sf; omega))
set_option maxHeartbeats 1000000 in
theorem ND.add {c g i : Nat} {M M1 : ModelS} {on role wants sndC rcvC nSent nRcvd lastF found sending next : Int32} {wanted : Nat → FrameS} {lastR : FrameS} {line : LineS} {reader : ReaderS} {F : FrameS} {sz w : Nat} (hg : g < 2 ^ 31) (hw : wants = nI w) (h4 : w < 4) (hND : ND c g i M (on, role, wants, sndC, rcvC, nSent, nRcvd, lastF, found, sending, next, wanted, lastR, line, reader)) (ho : okF F sz) (h : Wd i w F (nI g) M M1) : ND c (g + 1) i M1 (on, role, nI (w + 1), sndC, rcvC, nSent, nRcvd, lastF, found, sending, next, va_up wanted w F, lastR, line, reader) := by
  obtain ⟨b1, ⟨w', w1, w2, w3, w4, w5, w6⟩, b3, b4, b5, b6⟩ := hND
  have hww : w' = w := (nI_eq (by omega) (by omega)).mp (w1.symm.trans hw)
  subst hww
  have hl16 : M1.2.2 16 = M.2.2 16 := h.2.2.2.2.2.2.2.2 16 (by decide)
  refine ⟨?_, NWt.add hg h4 w4 w5 w6 ho h, ?_, ?_, b5, ?_⟩
  · unfold NC
    rw [h.row (f := 4) (by decide) (by unfold sf; omega), h.row (f := 5) (by decide) (by unfold sf; omega), h.row (f := 6) (by decide) (by unfold sf; omega), h.row (f := 7) (by decide) (by unfold sf; omega), h.row (f := 14) (by decide) (by unfold sf; omega), h.row (f := 15) (by decide) (by unfold sf; omega), h.row (f := 17) (by decide) (by unfold sf; omega), hl16]
    exact b1
  · rw [h.row (f := 8) (by decide) (by unfold sf; omega)]; exact b3
  · rw [h.row (f := 3) (by decide) (by unfold sf; omega)]; exact b4
  · rcases b6 with q | ⟨q, ρ, r1, r2⟩ | ⟨q, hS⟩
    · exact Or.inl q
    · exact Or.inr (Or.inl ⟨q, ρ, r1.wd h, r2⟩)
    · obtain ⟨w2', s, p, n, sz', L0, ρ, c1, c2, c3, c4, c5, c6, c7, c8, c9, c10, c11, c12, c13, c14, c15, c16, c17⟩ := hS
      have hw2 : w2' = w' := (nI_eq (by omega) (by omega)).mp (c1.symm.trans hw)
      subst hw2
      have es : va_up wanted w2' F s = wanted s := up_n (by omega)
      refine Or.inr (Or.inr ⟨q, w2' + 1, s, p, n, sz', L0, ρ, rfl, by omega, c3, by omega, ?_, ?_, ?_, ?_, ?_, c10, c11, ?_, c13, c14.wd h, c15, c16, ?_⟩)
      · rw [es]; exact c5
      · rw [h.2.2.2.2.2.2.1, pk_un (by omega), h.row (f := 22) (by decide) (by unfold sf; omega)]; exact c6
      · rw [es]; exact c7
      · rw [es]
        exact c8.same (h.row (by decide) (by unfold sf; omega)) (h.row (by decide) (by unfold sf; omega)) (h.row (by decide) (by unfold sf; omega))
      · rw [es]; exact c9
      · rw [h.row (f := 21) (by decide) (by unfold sf; omega)]; exact c12
      · rw [es]; exact c17
/-- the reference's want: refused, or done -/
theorem wp_want5 {K : Int32 → ModelS → Prop} {M : ModelS} {p0 p1 p2 p4 : Int32} {p3 : Int64} (hz : bz p1) (k1 : (p0 < 0 ∨ nI 4 ≤ p0) → K 0 (va_up M.1 0 1, M.2.1, M.2.2)) (k2 : ∀ i, i < 4 → p0 = nI i → (p2 < 0 ∨ (p1 = 0 ∧ 2048 ≤ p2) ∨ (¬ p1 = 0 ∧ 536870912 ≤ p2) ∨ p4 < 0 ∨ 9 ≤ p4) → K 0 (va_up M.1 0 2, M.2.1, M.2.2)) (k3 : ∀ i, i < 4 → p0 = nI i → ¬ (p2 < 0 ∨ (p1 = 0 ∧ 2048 ≤ p2) ∨ (¬ p1 = 0 ∧ 536870912 ≤ p2) ∨ p4 < 0 ∨ 9 ≤ p4) → M.2.1 9 i = 4 → K 0 (va_up M.1 0 3, M.2.1, M.2.2)) (k0 : ∀ i w, i < 4 → p0 = nI i → ¬ (p2 < 0 ∨ (p1 = 0 ∧ 2048 ≤ p2) ∨ (¬ p1 = 0 ∧ 536870912 ≤ p2) ∨ p4 < 0 ∨ 9 ≤ p4) → w < 4 → M.2.1 9 i = nI w → ∀ M1, Wd i w (p1, p2, p3, p4) (M.1 24) M M1 → M1.1 0 = 0 → M1.1 24 = M.1 24 + 1 → K (nI (w + 1)) M1) (hw : ∀ i, i < 4 → ∃ w, w ≤ 4 ∧ M.2.1 9 i = nI w) : wp_X5_want M p0 p1 p2 p3 p4 K := by
  obtain ⟨mI, mA, mL⟩ := M
  dsimp only at k1 k2 k3 k0 hw
  have k79 : ∀ k0' : Int32, ¬ k0' ≤ 0 → K 0 (va_up mI 0 k0', mA, mL) → wp_X5_want_79 K (mI, mA, mL) p0 p1 p2 p3 p4 k0' := by
    intro k0' h hK
    unfold wp_X5_want_79
    exact ⟨fun q => absurd q h, fun _ => hK⟩
  have k41 : ∀ rt : Int32, ((¬ rt = 0) ↔ ¬ (p2 < 0 ∨ (p1 = 0 ∧ 2048 ≤ p2) ∨ (¬ p1 = 0 ∧ 536870912 ≤ p2) ∨ p4 < 0 ∨ 9 ≤ p4)) → wp_X5_want_41 K (mI, mA, mL) p0 p1 p2 p3 p4 rt := by
    intro rt hrt
    unfold wp_X5_want_41
    rcases node_ix p0 with q | ⟨i, hi, e⟩
    · exact bad5 q ⟨fun z => absurd rfl z, fun _ => k79 1 (by decide) (k1 q)⟩
    · have hin : vp_in p0 4 := pk_in i 4 hi e
      have hcl : p0.toNatClampNeg = i := pk_cl i e
      refine good5 hi e ⟨fun _ => ⟨fun hr => ⟨hin, fun h9 => ?_, fun h9 => ?_⟩, fun hr => k79 2 (by decide) (k2 i hi e (Classical.byContradiction (fun z => hrt.mpr z hr)))⟩, fun z => absurd z (by decide)⟩
      · rw [hcl] at h9
        obtain ⟨w, w4, we⟩ := hw i hi
        have hw4 : w < 4 := by
          refine Classical.byContradiction (fun z => h9 ?_)
          rw [we, show w = 4 by omega]
          rfl
        unfold wp_X5_want_79 wp_X5_want_128 wp_X5_want_168
        refine ⟨fun _ => ⟨hin, fun n9 e9 => ?_⟩, fun z => absurd (by decide) z⟩
        rw [hcl, we, e, lit 4, pk_mul, nI_add] at e9
        have i9 : vp_in n9 16 := pk_in (4 * i + w) 16 (by omega) e9
        have c9 : n9.toNatClampNeg = 4 * i + w := pk_cl (4 * i + w) e9
        refine ⟨i9, hz, i9, i9, i9, i9, hin, hin, hin, ?_⟩
        try dsimp only
        rw [c9, hcl]
        have e99 : (va_up (va_up (va_up (va_up (va_up mA 10 (upd (mA 10) (4 * i + w) p1)) 11 (upd (mA 11) (4 * i + w) p2)) 13 (upd ((va_up (va_up mA 10 (upd (mA 10) (4 * i + w) p1)) 11 (upd (mA 11) (4 * i + w) p2)) 13) (4 * i + w) p4)) 23 (upd ((va_up (va_up mA 10 (upd (mA 10) (4 * i + w) p1)) 11 (upd (mA 11) (4 * i + w) p2)) 23) (4 * i + w) ((va_up mI 0 0) 24))) 9 (upd ((va_up (va_up mA 10 (upd (mA 10) (4 * i + w) p1)) 11 (upd (mA 11) (4 * i + w) p2)) 9) i (((va_up (va_up mA 10 (upd (mA 10) (4 * i + w) p1)) 11 (upd (mA 11) (4 * i + w) p2)) 9 i) + 1))) 9 i = nI (w + 1) := by
          refine pk_us.trans ?_
          show mA 9 i + 1 = _
          rw [we, nI_1]
        rw [e99]
        refine k0 i w hi e (hrt.mp hr) hw4 we _ ⟨fun k x y => ?_, ?_, rfl, rfl, rfl, rfl, rfl, fun f x y => ?_, fun f x => up_n x⟩ rfl rfl
        · show va_up (va_up mI 0 0) 24 _ k = mI k
          rw [up_n y, up_n x]
        · show upd (mA 9) i (mA 9 i + 1) = _
          rw [we, nI_1]
        · have y' : ¬ (f = 10 ∨ f = 11 ∨ f = 13 ∨ f = 23) := y
          show va_up (va_up (va_up (va_up (va_up mA 10 _) 11 _) 13 _) 23 _) 9 _ f = mA f
          rw [up_n (by omega), up_n (by omega), up_n (by omega), up_n (by omega), up_n (by omega)]
      · rw [hcl] at h9
        exact k79 3 (by decide) (k3 i hi e (hrt.mp hr) h9)
  have k40 : (p2 < 0 ∨ (p1 = 0 ∧ 2048 ≤ p2) ∨ (¬ p1 = 0 ∧ 536870912 ≤ p2) ∨ p4 < 0 ∨ 9 ≤ p4) → wp_X5_want_40 K (mI, mA, mL) p0 p1 p2 p3 p4 := by
    intro h
    unfold wp_X5_want_40
    exact k41 0 ⟨fun z => absurd rfl z, fun z => absurd h z⟩
  have k24 : ¬ p2 < 0 → ¬ (p1 = 0 ∧ 2048 ≤ p2) → ¬ (¬ p1 = 0 ∧ 536870912 ≤ p2) → wp_X5_want_24 K (mI, mA, mL) p0 p1 p2 p3 p4 := by
    intro h1 h2 h3
    unfold wp_X5_want_24
    refine ⟨fun q => k40 (Or.inr (Or.inr (Or.inr (Or.inl q)))), fun q => ⟨fun q2 => k40 (Or.inr (Or.inr (Or.inr (Or.inr q2)))), fun q2 => k41 1 ⟨fun _ z => ?_, fun _ => by decide⟩⟩⟩
    rcases z with z | z | z | z | z
    · exact h1 z
    · exact h2 z
    · exact h3 z
    · exact q z
    · exact q2 z
  unfold wp_X5_want
  exact ⟨fun q => k40 (Or.inl q), fun q => ⟨fun z => ⟨fun y => k40 (Or.inr (Or.inl ⟨z, y⟩)), fun y => k24 q (fun x => y x.2) (fun x => x.1 z)⟩, fun z => ⟨fun y => k40 (Or.inr (Or.inr (Or.inl ⟨z, y⟩))), fun y => k24 q (fun x => z x.1) (fun x => y x.2)⟩⟩⟩
set_option maxHeartbeats 1000000 in
theorem ok_want : OKwant Sm := by
  intro n hn S M f p0 p1 p2 p3 p4 hp1 h
  have h1 := fun x => (Sim.thr (mI := M.1) (mA := M.2.1) (mL := M.2.2) x h).mono (c1 := 200 * (n + 1)) (by omega)
  have hS := h
  obtain ⟨a1, a2, a3, a4, a5, a6, a7, g, a8, a9, a10⟩ := h
  obtain ⟨state, left, tapeLen, tapeB, tLine, tReader, nodes⟩ := S
  dsimp only at h1 a7 a10
  have hz : bz p1 := by
    rcases hp1 with q | q <;> rw [q]
    · exact bz_0
    · exact bz_1
  have hw : ∀ i, i < 4 → ∃ w, w ≤ 4 ∧ M.2.1 9 i = nI w := by
    intro i hi
    have hND := a10 i hi
    generalize nodes i = N at hND
    obtain ⟨on, role, wants, sndC, rcvC, nSent, nRcvd, lastF, found, sending, next, wanted, lastR, line, reader⟩ := N
    obtain ⟨-, ⟨w, -, w2, w3, -⟩, -⟩ := hND
    exact ⟨w, w3, w2⟩
  have bad : ∀ x b : Int32, ¬ x = 0 → Sm (n + 1) (state, left, tapeLen, tapeB, tLine, tReader, nodes) (va_up M.1 0 x, M.2.1, M.2.2) ∧ (va_up M.1 0 x) 0 = x ∧ (x = 0 → f 0 = b.toInt64) := fun x b hx => ⟨h1 x, rfl, fun z => absurd z hx⟩
  unfold wl_want wp_X4_want
  rcases node_ix p0 with q | ⟨i, hi, e⟩
  · refine bad4 q ⟨fun z => absurd rfl z, fun _ => Or.inl ⟨rfl, ?_⟩⟩
    have no : ∀ i, i < 4 → ¬ p0 = nI i := by
      intro i hi e
      rcases q with q | q
      · rw [e] at q; exact absurd q (nI_pos (by omega))
      · rw [e] at q; exact absurd q (nI_ge (a := i) (b := 4) (by omega) (by omega))
    exact wp_want5 hz (fun _ => bad 1 0 (by decide)) (fun i hi e => absurd e (no i hi)) (fun i hi e => absurd e (no i hi)) (fun i w hi e => absurd e (no i hi)) hw
  · have yes : ¬ (p0 < 0 ∨ nI 4 ≤ p0) := by
      intro q
      rcases q with q | q
      · rw [e] at q; exact absurd q (nI_pos (by omega))
      · rw [e] at q; exact absurd q (nI_ge (a := i) (b := 4) (by omega) (by omega))
    have e8 : p4 ≤ 8 ↔ ¬ 9 ≤ p4 := by
      rw [leN (y := 8) (k := 8) rfl, Int32.le_iff_toInt_le, show (9 : Int32).toInt = 9 from rfl]
      omega
    -- whichever form: the same conditions
    have go26 : ∀ k0 : Int32, ((p1 = 0 ∧ k0 = 11) ∨ (¬ p1 = 0 ∧ k0 = 29)) → wp_X4_want_26 (fun r u => wp_X5_want M p0 p1 p2 p3 p4 (fun b M1 => Sm (n + 1) u M1 ∧ M1.1 0 = 0 ∧ ((0 : Int32) = 0 → (vp_updL f 0 r.toInt64) 0 = b.toInt64))) (fun E u => (E = "java/lang/IndexOutOfBoundsException" ∧ wp_X5_want M p0 p1 p2 p3 p4 (fun b M1 => Sm (n + 1) u M1 ∧ M1.1 0 = 1 ∧ ((1 : Int32) = 0 → f 0 = b.toInt64))) ∨ (E = "java/lang/IllegalArgumentException" ∧ wp_X5_want M p0 p1 p2 p3 p4 (fun b M1 => Sm (n + 1) u M1 ∧ M1.1 0 = 2 ∧ ((2 : Int32) = 0 → f 0 = b.toInt64))) ∨ (E = "java/lang/UnsupportedOperationException" ∧ wp_X5_want M p0 p1 p2 p3 p4 (fun b M1 => Sm (n + 1) u M1 ∧ M1.1 0 = 3 ∧ ((3 : Int32) = 0 → f 0 = b.toInt64)))) (state, left, tapeLen, tapeB, tLine, tReader, nodes) p0 p1 p2 p3 p4 k0 := by
      intro k0 hk0
      have cond : (p2 < 0 ∨ 1 <<< (k0 &&& 31) ≤ p2 ∨ p4 < 0 ∨ ¬ p4 ≤ 8) ↔ (p2 < 0 ∨ (p1 = 0 ∧ 2048 ≤ p2) ∨ (¬ p1 = 0 ∧ 536870912 ≤ p2) ∨ p4 < 0 ∨ 9 ≤ p4) := by
        rw [e8, Classical.not_not]
        rcases hk0 with ⟨x, y⟩ | ⟨x, y⟩
        · rw [y, show (1 : Int32) <<< ((11 : Int32) &&& 31) = 2048 from rfl]
          constructor
          · rintro (z | z | z | z)
            · exact Or.inl z
            · exact Or.inr (Or.inl ⟨x, z⟩)
            · exact Or.inr (Or.inr (Or.inr (Or.inl z)))
            · exact Or.inr (Or.inr (Or.inr (Or.inr z)))
          · rintro (z | ⟨-, z⟩ | ⟨z, -⟩ | z | z)
            · exact Or.inl z
            · exact Or.inr (Or.inl z)
            · exact absurd x z
            · exact Or.inr (Or.inr (Or.inl z))
            · exact Or.inr (Or.inr (Or.inr z))
        · rw [y, show (1 : Int32) <<< ((29 : Int32) &&& 31) = 536870912 from rfl]
          constructor
          · rintro (z | z | z | z)
            · exact Or.inl z
            · exact Or.inr (Or.inr (Or.inl ⟨x, z⟩))
            · exact Or.inr (Or.inr (Or.inr (Or.inl z)))
            · exact Or.inr (Or.inr (Or.inr (Or.inr z)))
          · rintro (z | ⟨z, -⟩ | ⟨-, z⟩ | z | z)
            · exact Or.inl z
            · exact absurd z x
            · exact Or.inr (Or.inl z)
            · exact Or.inr (Or.inr (Or.inl z))
            · exact Or.inr (Or.inr (Or.inr z))
      refine cls_want26 hi e (fun z => Or.inr (Or.inl ⟨rfl, ?_⟩)) (fun z1 z2 z3 z4 => ?_)
      · have z := cond.mp z
        exact wp_want5 hz (fun q => absurd q yes) (fun _ _ _ _ => bad 2 0 (by decide)) (fun _ _ _ q => absurd z q) (fun _ _ _ _ q => absurd z q) hw
      · have zz : ¬ (p2 < 0 ∨ (p1 = 0 ∧ 2048 ≤ p2) ∨ (¬ p1 = 0 ∧ 536870912 ≤ p2) ∨ p4 < 0 ∨ 9 ≤ p4) := by
          intro z
          rcases cond.mpr z with z | z | z | z
          · exact z1 z
          · exact z2 z
          · exact z3 z
          · exact z z4
        have hND := a10 i hi
        generalize hNi : nodes i = N at hND ⊢
        obtain ⟨on, role, wants, sndC, rcvC, nSent, nRcvd, lastF, found, sending, next, wanted, lastR, line, reader⟩ := N
        have hND0 := hND
        obtain ⟨b1, ⟨w, w1, w2, w3, w4, w5, w6⟩, b3, b4, b5, b6⟩ := hND
        have ixe : ∀ i', i' < 4 → p0 = nI i' → i' = i := fun i' hi' e' => (nI_eq (by omega) (by omega)).mp (e'.symm.trans e)
        refine ⟨fun q => ?_, fun q => Or.inr (Or.inr ⟨rfl, ?_⟩)⟩
        · have q : wants < 4 := q
          have hw4 : w < 4 := by
            rw [w1, lit 4] at q
            exact (nI_ltI (by omega) (by omega)).mp q
          obtain ⟨sz, hsz8, hszE⟩ : ∃ sz, sz ≤ 8 ∧ p4 = nI sz := by
            obtain ⟨j, hj, ej⟩ := nI_of z3
            refine ⟨j, ?_, ej⟩
            rw [ej, lit 8] at z4
            exact (nI_leI (by omega) (by omega)).mp z4
          have ho : okF (p1, p2, p3, p4) sz := by
            refine ⟨hszE, hsz8, ?_⟩
            obtain ⟨j, hj, ej⟩ := nI_of z1
            rcases hp1 with x | x
            · refine Or.inl ⟨x, j, ?_, ej⟩
              refine Classical.byContradiction (fun y => zz (Or.inr (Or.inl ⟨x, ?_⟩)))
              rw [ej, lit 2048]
              exact nI_le (by omega) hj
            · refine Or.inr ⟨x, j, ?_, ej⟩
              refine Classical.byContradiction (fun y => zz (Or.inr (Or.inr (Or.inl ⟨by rw [x]; decide, ?_⟩))))
              rw [ej, lit 536870912]
              exact nI_le (by omega) hj
          refine add2 w1 hw4 hz ?_
          refine wp_want5 hz (fun q => absurd q yes) (fun _ _ _ q => absurd q zz) (fun i' hi' e' _ h9 => ?_) (fun i' w' hi' e' _ hw' h9 M1 hWd x0 x24 => ?_) hw
          · rw [ixe i' hi' e', w2, lit 4] at h9
            have := (nI_eq (by omega) (by omega)).mp h9
            omega
          · have ei := ixe i' hi' e'
            subst ei
            have ew : w' = w := (nI_eq (by omega) (by omega)).mp (h9.symm.trans w2)
            subst ew
            refine ⟨?_, x0, fun _ => pk_uLs⟩
            refine Sim.nd (c := 200 * n) hS ?_ (hWd.1 1 (by decide) (by decide)) (hWd.1 2 (by decide) (by decide)) (hWd.1 32 (by decide) (by decide)) (hWd.row (by decide) (by unfold sf; omega)) (by omega) (fun j hj hji => hWd.loc hw4 hji) (fun g' y1 y2 y3 => ⟨g' + 1, by omega, by rw [x24, y1, nI_1], by omega, ?_⟩)
            · obtain ⟨y1, y2, y3⟩ := a7
              refine ⟨y1, fun z j hj => ?_, y3⟩
              by_cases ej : j = i'
              · subst ej
                rw [up_s]
                have := y2 z j hj
                rw [hNi] at this
                exact this
              · rw [up_n ej]
                exact y2 z j hj
            · have hN := y3 i' hi
              rw [hNi] at hN
              rw [y1] at hWd
              exact (ND.add (by omega) w1 hw4 hN ho hWd).mono (by omega) (Nat.le_refl _)
        · have q : ¬ wants < 4 := q
          have hw4 : w = 4 := by
            refine Classical.byContradiction (fun y => q ?_)
            rw [w1, lit 4]
            exact nI_lt (by omega) (by omega)
          refine wp_want5 hz (fun q => absurd q yes) (fun _ _ _ q => absurd q zz) (fun _ _ _ _ _ => bad 3 0 (by decide)) (fun i' w' hi' e' _ hw' h9 => ?_) hw
          rw [ixe i' hi' e', w2] at h9
          have := (nI_eq (by omega) (by omega)).mp h9
          omega
    exact good4 hi e ⟨fun _ => ⟨fun z => go26 11 (Or.inl ⟨z, rfl⟩), fun z => go26 29 (Or.inr ⟨z, rfl⟩)⟩, fun z => absurd z (by decide)⟩
theorem ok_all : OKall Sm := ⟨fun _ _ _ h => h.next, ok_want, ok_step, ok_join, ok_wire, ok_node, ok_received, ok_tape, ok_put, ok_bit, ok_flip, ok_wipe, ok_read⟩
