/-! the frame is broken off: the counts -/
def bk85 (v : Int32) (KK : ModelS → Prop) (M : ModelS) (k0 : Int32) : Prop := vp_in v 4 ∧ KK (M.1, va_up M.2.1 3 (upd (M.2.1 3) v.toNatClampNeg k0), M.2.2)
def bk54 (i : Nat) (v : Int32) (KK : ModelS → Prop) (M : ModelS) : Prop := (M.2.1 3 i = 0 → bk85 v KK M 0) ∧ (¬ M.2.1 3 i = 0 → ((M.2.1 4 i ≤ 255 → bk85 v KK M 1) ∧ (¬ M.2.1 4 i ≤ 255 → bk85 v KK M 0)))
def bk2 (i : Nat) (v : Int32) (bt : Prop) (KK : ModelS → Prop) (M : ModelS) : Prop := (¬ bt → bk54 i v KK M) ∧ (bt → ((¬ M.2.1 3 i = 3 → bk54 i v KK (M.1, va_up M.2.1 5 (upd (M.2.1 5) i ((M.2.1 5 i) + 1)), M.2.2)) ∧ (M.2.1 3 i = 3 → bk54 i v KK (M.1, va_up M.2.1 4 (upd (M.2.1 4) i ((M.2.1 4 i) + 8)), M.2.2))))
theorem Loc5.c5 {i : Nat} {f0 : Nat} {x : Int32} (M : ModelS) (hf : wd f0 = 1) (h31 : f0 ≠ 31) : Loc5 i M (M.1, va_up M.2.1 f0 (upd (M.2.1 f0) i x), M.2.2) := Loc5.one hf h31
section CF
variable {on role wants sndC rcvC nSent nRcvd lastF found sending next : Int32} {wanted : Nat → FrameS} {lastR : FrameS} {line : LineS} {reader : ReaderS}
theorem cnt47 {K : NodeS → Prop} (hK : K ((if sndC ≤ 255 then on else 0), 1, wants, sndC, rcvC, nSent, nRcvd, lastF, found, sending, next, wanted, lastR, line, reader)) : wp_X2_countFault_47 K (on, role, wants, sndC, rcvC, nSent, nRcvd, lastF, found, sending, next, wanted, lastR, line, reader) := by
  unfold wp_X2_countFault_47 wp_X2_countFault_62
  refine ⟨fun q => ?_, fun q => ?_⟩
  · rw [if_pos q] at hK; exact hK
  · rw [if_neg q] at hK; exact hK
theorem cnt54 {i : Nat} (hi : i < 4) {v : Int32} (hv : v = nI i) {KK : ModelS → Prop} {M : ModelS} (h4 : M.2.1 4 i = sndC) (h3 : M.2.1 3 i = 0 ↔ on = 0) (hK : KK (M.1, va_up M.2.1 3 (upd (M.2.1 3) i (if (if sndC ≤ 255 then on else 0) = 0 then 0 else 1)), M.2.2)) : bk54 i v KK M := by
  have hcl : v.toNatClampNeg = i := pk_cl i hv
  have hin : vp_in v 4 := pk_in i 4 hi hv
  unfold bk54 bk85
  rw [hcl, h4]
  refine ⟨fun q => ⟨hin, ?_⟩, fun q => ⟨fun z => ⟨hin, ?_⟩, fun z => ⟨hin, ?_⟩⟩⟩
  · by_cases z : sndC ≤ 255
    · rw [if_pos z, if_pos (h3.mp q)] at hK; exact hK
    · rw [if_neg z, if_pos rfl] at hK; exact hK
  · rw [if_pos z, if_neg (fun y => q (h3.mpr y))] at hK; exact hK
  · rw [if_neg z, if_pos rfl] at hK; exact hK
set_option maxHeartbeats 1000000 in
/-- what a node's counts become: both sides, once the counts themselves are moved -/
theorem cntE {c g i : Nat} {M1 M : ModelS} {lf : Int32} {a b0 : Nat} (hon : on = 0 ∨ on = 1) (hs : sndC = nI a) (ha : a ≤ 263) (hr : rcvC = nI b0) (hb : b0 ≤ c) (hW : NWt g i M1 wants wanted) (h4 : M.2.1 4 i = sndC) (h5 : M.2.1 5 i = rcvC) (h6 : nSent = M1.2.1 6 i) (h7 : nRcvd = M1.2.1 7 i) (hL : lastR = (M1.2.1 14 i, M1.2.1 15 i, M1.2.2 16 i, M1.2.1 17 i)) (hlf : lf = M1.2.1 8 i) (hrow : ∀ f, f ≠ 4 → f ≠ 5 → M.2.1 f = M1.2.1 f) (hlong : M.2.2 = M1.2.2) : ND c g i (M.1, va_up M.2.1 3 (upd (M.2.1 3) i (if (if sndC ≤ 255 then on else 0) = 0 then 0 else 1)), M.2.2) ((if sndC ≤ 255 then on else 0), 1, wants, sndC, rcvC, nSent, nRcvd, lf, found, sending, next, wanted, lastR, line, reader) := by
  obtain ⟨mI, mA, mL⟩ := M
  dsimp only at h4 h5 hrow hlong
  refine ⟨⟨?_, h4.symm, h5.symm, ?_, ?_, ?_, ⟨a, hs, ha, fun q => ?_⟩, b0, hr, hb⟩, ?_, ?_, pk_us, fun _ => rfl, Or.inl rfl⟩
  · split
    · exact hon
    · exact Or.inl rfl
  · show nSent = mA 6 i
    rw [hrow 6 (by decide) (by decide)]; exact h6
  · show nRcvd = mA 7 i
    rw [hrow 7 (by decide) (by decide)]; exact h7
  · show lastR = (mA 14 i, mA 15 i, mL 16 i, mA 17 i)
    rw [hrow 14 (by decide) (by decide), hrow 15 (by decide) (by decide), hrow 17 (by decide) (by decide), hlong]; exact hL
  · split at q
    · next z =>
      rw [hs, lit 255] at z
      exact (nI_leI (by omega) (by omega)).mp z
    · exact absurd q (by decide)
  · show NWt g i (mI, va_up mA 3 _, mL) wants wanted
    obtain ⟨w, w1, w2, w3, w4, w5, w6⟩ := hW
    refine ⟨w, w1, ?_, w3, fun k hk => ⟨?_, (w4 k hk).2⟩, fun k hk => ?_, fun j k x y => ?_⟩
    · show mA 9 i = nI w
      rw [hrow 9 (by decide) (by decide)]; exact w2
    · show mA 10 (4 * i + k) = _ ∧ mA 11 (4 * i + k) = _ ∧ mL 12 (4 * i + k) = _ ∧ mA 13 (4 * i + k) = _
      rw [hrow 10 (by decide) (by decide), hrow 11 (by decide) (by decide), hrow 13 (by decide) (by decide), hlong]; exact (w4 k hk).1
    · show ∃ v, v < g ∧ mA 23 (4 * i + k) = nI v
      rw [hrow 23 (by decide) (by decide)]; exact w5 k hk
    · show ¬ mA 23 (4 * i + j) = mA 23 (4 * i + k)
      rw [hrow 23 (by decide) (by decide)]; exact w6 j k x y
  · show lf = mA 8 i
    rw [hrow 8 (by decide) (by decide)]; exact hlf
end CF
set_option maxHeartbeats 1000000 in
theorem count_core {c g i : Nat} (hi : i < 4) {M : ModelS} {N : NodeS} {f : Int32} (h : PLk c g i M f (if nFound N = 0 then nLast N else nFound N) N) : ∃ N1 : NodeS, (∀ K : NodeS → Prop, K N1 → wp_X2_countFault N K) ∧ N1.2.1 = 1 ∧ ∀ M1 f1, PLk c g i M1 f1 (if nFound N = 0 then nLast N else nFound N) N → ∀ (KK : ModelS → Prop) (bt : Prop), (bt ↔ ¬ nFound N = 0) → (∀ M2, Loc5 i M1 M2 → ND (c + 1) g i M2 N1 → KK M2) → ∀ v : Int32, v = nI i → bk2 i v bt KK M1 := by
  obtain ⟨on, role, wants, sndC, rcvC, nSent, nRcvd, lastF, found, sending, next, wanted, lastR, line, reader⟩ := N
  have hPL := h
  obtain ⟨a1, a2, a3, a4, a5, a6⟩ := h
  obtain ⟨n1, n2, n3, n4, n5, n6, ⟨a, n7, n8, n9⟩, b0, n10, n11⟩ := a1
  have h23 : ∀ M1 f1, PLk c g i M1 f1 (if nFound (on, role, wants, sndC, rcvC, nSent, nRcvd, lastF, found, sending, next, wanted, lastR, line, reader) = 0 then nLast (on, role, wants, sndC, rcvC, nSent, nRcvd, lastF, found, sending, next, wanted, lastR, line, reader) else nFound (on, role, wants, sndC, rcvC, nSent, nRcvd, lastF, found, sending, next, wanted, lastR, line, reader)) (on, role, wants, sndC, rcvC, nSent, nRcvd, lastF, found, sending, next, wanted, lastR, line, reader) → (M1.2.1 3 i = 0 ↔ on = 0) := by
    intro M1 f1 hE
    obtain ⟨-, -, -, a4, -, a6⟩ := hE
    rw [a4]
    constructor
    · intro q
      by_cases z : on = 0
      · exact z
      · rw [if_neg z] at q
        rcases a6 with ⟨-, ⟨y, -⟩ | ⟨y, -⟩ | ⟨y, -⟩⟩ | ⟨-, y | y, -⟩ <;> rw [y] at q <;> exact absurd q (by decide)
    · intro z
      rw [if_pos z]
  by_cases hf : found = 0
  · refine ⟨((if sndC ≤ 255 then on else 0), 1, wants, sndC, rcvC, nSent, nRcvd, lastF, found, sending, next, wanted, lastR, line, reader), fun K hK => ?_, rfl, fun M1 f1 hE KK bt hbt hKK v hv => ?_⟩
    · unfold wp_X2_countFault
      exact ⟨fun _ => cnt47 hK, fun q => absurd hf q⟩
    · have hE0 := hE
      obtain ⟨e1, e2, e3, e4, e5, e6⟩ := hE
      rw [if_pos (show nFound (on, role, wants, sndC, rcvC, nSent, nRcvd, lastF, found, sending, next, wanted, lastR, line, reader) = 0 from hf)] at e3
      refine ⟨fun _ => cnt54 hi hv e1.2.1.symm (h23 M1 f1 hE0) (hKK _ (Loc5.c5 M1 rfl (by decide)) ?_), fun q => absurd hf (hbt.mp q)⟩
      exact cntE n1 n7 n8 n10 (by omega) e2 e1.2.1.symm e1.2.2.1.symm e1.2.2.2.1 e1.2.2.2.2.1 e1.2.2.2.2.2.1 e3 (fun _ _ _ => rfl) rfl
  · have hr : (role = 2 ∨ role = 3) ∧ ¬ on = 0 := by
      rcases a6 with ⟨q, -⟩ | ⟨-, q, -⟩
      · exact absurd q hf
      · refine ⟨q, fun z => ?_⟩
        have := a5 z
        rw [this] at q
        exact absurd q (by decide)
    have hon1 : on = 1 := n1.elim (fun q => absurd q hr.2) id
    by_cases h3 : role = 3
    · refine ⟨((if sndC + 8 ≤ 255 then on else 0), 1, wants, sndC + 8, rcvC, nSent, nRcvd, found, found, sending, next, wanted, lastR, line, reader), fun K hK => ?_, rfl, fun M1 f1 hE KK bt hbt hKK v hv => ?_⟩
      · unfold wp_X2_countFault
        exact ⟨fun q => absurd q hf, fun _ => ⟨fun q => absurd h3 q, fun _ => cnt47 hK⟩⟩
      · have hE0 := hE
        obtain ⟨e1, e2, e3, e4, e5, e6⟩ := hE
        rw [if_neg (show ¬ nFound (on, role, wants, sndC, rcvC, nSent, nRcvd, lastF, found, sending, next, wanted, lastR, line, reader) = 0 from hf)] at e3
        have e33 : M1.2.1 3 i = 3 := by rw [e4, if_neg hr.2]; exact h3
        have e4' : M1.2.1 4 i = sndC := e1.2.1.symm
        refine ⟨fun q => absurd (hbt.mpr hf) q, fun _ => ⟨fun q => absurd e33 q, fun _ => ?_⟩⟩
        rw [e4']
        have l1 : Loc5 i M1 (M1.1, va_up M1.2.1 4 (upd (M1.2.1 4) i (sndC + 8)), M1.2.2) := Loc5.c5 M1 rfl (by decide)
        refine cnt54 (M := (M1.1, va_up M1.2.1 4 (upd (M1.2.1 4) i (sndC + 8)), M1.2.2)) (sndC := sndC + 8) (on := on) hi hv pk_us (h23 M1 f1 hE0) (hKK _ (l1.tr (Loc5.c5 _ rfl (by decide))) ?_)
        exact cntE (M := (M1.1, va_up M1.2.1 4 (upd (M1.2.1 4) i (sndC + 8)), M1.2.2)) (a := a + 8) n1 (by rw [n7, lit 8, nI_add]) (by have := n9 hon1; omega) n10 (by omega) e2 pk_us e1.2.2.1.symm e1.2.2.2.1 e1.2.2.2.2.1 e1.2.2.2.2.2.1 e3 (fun f x y => up_n x) rfl
    · refine ⟨((if sndC ≤ 255 then on else 0), 1, wants, sndC, rcvC + 1, nSent, nRcvd, found, found, sending, next, wanted, lastR, line, reader), fun K hK => ?_, rfl, fun M1 f1 hE KK bt hbt hKK v hv => ?_⟩
      · unfold wp_X2_countFault
        exact ⟨fun q => absurd q hf, fun _ => ⟨fun _ => cnt47 hK, fun q => absurd q h3⟩⟩
      · have hE0 := hE
        obtain ⟨e1, e2, e3, e4, e5, e6⟩ := hE
        rw [if_neg (show ¬ nFound (on, role, wants, sndC, rcvC, nSent, nRcvd, lastF, found, sending, next, wanted, lastR, line, reader) = 0 from hf)] at e3
        have e33 : ¬ M1.2.1 3 i = 3 := by rw [e4, if_neg hr.2]; exact h3
        have e5' : M1.2.1 5 i = rcvC := e1.2.2.1.symm
        refine ⟨fun q => absurd (hbt.mpr hf) q, fun _ => ⟨fun _ => ?_, fun q => absurd q e33⟩⟩
        rw [e5']
        have l1 : Loc5 i M1 (M1.1, va_up M1.2.1 5 (upd (M1.2.1 5) i (rcvC + 1)), M1.2.2) := Loc5.c5 M1 rfl (by decide)
        refine cnt54 (M := (M1.1, va_up M1.2.1 5 (upd (M1.2.1 5) i (rcvC + 1)), M1.2.2)) (sndC := sndC) (on := on) hi hv e1.2.1.symm (h23 M1 f1 hE0) (hKK _ (l1.tr (Loc5.c5 _ rfl (by decide))) ?_)
        exact cntE (M := (M1.1, va_up M1.2.1 5 (upd (M1.2.1 5) i (rcvC + 1)), M1.2.2)) (a := a) (b0 := b0 + 1) n1 n7 n8 (by rw [n10, nI_1]) (by omega) e2 e1.2.1.symm pk_us e1.2.2.2.1 e1.2.2.2.2.1 e1.2.2.2.2.2.1 e3 (fun f x y => up_n y) rfl
