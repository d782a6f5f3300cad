/-! a frame's end -/
def fn107 (i : Nat) (KK : ModelS → Int32 → Prop) (v2 : Int32) (M : ModelS) : Prop := (¬ v2 = 0 → KK M 1) ∧ (v2 = 0 → ((M.2.1 3 i ≤ 1 → KK M 0) ∧ (¬ M.2.1 3 i ≤ 1 → KK M 1)))
def fn83 (i : Nat) (v : Int32) (cb : Prop) (KK : ModelS → Int32 → Prop) (v2 : Int32) (M : ModelS) : Prop := (¬ M.2.1 3 i = 2 → fn107 i KK v2 M) ∧ (M.2.1 3 i = 2 → ((¬ cb → fn107 i KK v2 M) ∧ (cb → wp_X5_keep M v (fun u => fn107 i KK v2 u))))
def fn75 (i : Nat) (v : Int32) (cb : Prop) (KK : ModelS → Int32 → Prop) (v2 : Int32) (M : ModelS) (k0 : Int32) : Prop := vp_in v 4 ∧ fn83 i v cb KK v2 (M.1, va_up (va_up M.2.1 4 (upd (M.2.1 4) v.toNatClampNeg k0)) 3 (upd (M.2.1 3) i 1), M.2.2)
def fn4 (i : Nat) (v : Int32) (cb : Prop) (KK : ModelS → Int32 → Prop) (v2 : Int32) (M : ModelS) : Prop := (¬ M.2.1 3 i = 3 → fn83 i v cb KK v2 M) ∧ (M.2.1 3 i = 3 → ((¬ M.2.1 21 i = M.2.1 20 i → fn83 i v cb KK v2 M) ∧ (M.2.1 21 i = M.2.1 20 i → wp_X5_forget M v (fun u => ((u.2.1 4 i ≤ 0 → fn75 i v cb KK v2 (u.1, va_up u.2.1 6 (upd (u.2.1 6) i ((u.2.1 6 i) + 1)), u.2.2) 0) ∧ (¬ u.2.1 4 i ≤ 0 → fn75 i v cb KK v2 (u.1, va_up u.2.1 6 (upd (u.2.1 6) i ((u.2.1 6 i) + 1)), u.2.2) ((u.2.1 4 i) - 1)))))))
/-- whether there is still a sender or a reader -/
def sm (v2 role : Int32) : Int32 := if v2 = 0 then (if role = 1 then 0 else 1) else 1
theorem fn107_of {i : Nat} {KK : ModelS → Int32 → Prop} {v2 role on : Int32} {M : ModelS} (h3 : M.2.1 3 i = (if on = 0 then 0 else role)) (ho : on = 0 → role = 1) (hr : role = 1 ∨ role = 2 ∨ role = 3) (h : KK M (sm v2 role)) : fn107 i KK v2 M := by
  unfold sm at h
  refine ⟨fun q => ?_, fun q => ⟨fun z => ?_, fun z => ?_⟩⟩
  · rw [if_neg q] at h; exact h
  · rw [if_pos q, if_pos] at h
    · exact h
    · by_cases y : on = 0
      · exact ho y
      · rw [h3, if_neg y] at z
        rcases hr with hr | hr | hr
        · exact hr
        · rw [hr] at z; exact absurd z (by decide)
        · rw [hr] at z; exact absurd z (by decide)
  · rw [if_pos q, if_neg] at h
    · exact h
    · intro y
      rw [h3] at z
      by_cases x : on = 0
      · rw [if_pos x] at z; exact z (by decide)
      · rw [if_neg x, y] at z; exact z (by decide)
theorem dec_eq {a : Nat} (h : a < 2 ^ 30) : (if nI a - 1 < (0 : Int32) then (0 : Int32) else nI a - 1) = nI (a - 1) ∧ decv (nI a) = nI (a - 1) := by
  unfold decv
  by_cases h0 : a = 0
  · subst h0
    exact ⟨by decide, by decide⟩
  · have e : nI a - 1 = nI (a - 1) := by rw [lit 1, pk_sub (by omega)]
    rw [e, if_neg (nI_pos (by omega)), if_neg (nI_nle (by omega) (by omega))]
    exact ⟨rfl, rfl⟩
/-- what ends, and what stays -/
def EndC (c g i : Nat) (N N1 : NodeS) : Prop := (∀ K : NodeS → Prop, K N1 → wp_X2_endFrame N K) ∧ (N.2.1 = 1 → N1 = N) ∧ (N.2.1 = 2 → ¬ (nRd N).2.1 = 10 → N1.2.1 = 2) ∧ (N.2.1 = 3 → nNext N = 1 → N1.2.1 = 3) ∧
  ∀ M1 f1, PLk c g i M1 f1 (nLast N) N → ∀ (KK : ModelS → Int32 → Prop) (cb : Prop) (v2 : Int32), (cb ↔ f1 = 9) → (∀ M2, Loc5 i M1 M2 → ND c g i M2 N1 → KK M2 (sm v2 N1.2.1)) → ∀ v : Int32, v = nI i → fn4 i v cb KK v2 M1
section EF
variable {on role wants sndC rcvC nSent nRcvd lastF found sending next : Int32} {wanted : Nat → FrameS} {lastR : FrameS} {line : LineS} {reader : ReaderS}
/-- nothing ends -/
theorem end_stay {c g i : Nat} (hi : i < 4) (hcl : ∀ K : NodeS → Prop, K (on, role, wants, sndC, rcvC, nSent, nRcvd, lastF, found, sending, next, wanted, lastR, line, reader) → wp_X2_endFrame (on, role, wants, sndC, rcvC, nSent, nRcvd, lastF, found, sending, next, wanted, lastR, line, reader) K) (h : ∀ M1 f1, PLk c g i M1 f1 lastF (on, role, wants, sndC, rcvC, nSent, nRcvd, lastF, found, sending, next, wanted, lastR, line, reader) → ND c g i M1 (on, role, wants, sndC, rcvC, nSent, nRcvd, lastF, found, sending, next, wanted, lastR, line, reader) ∧ (role = 2 → ¬ f1 = 9) ∧ (role = 3 → ¬ M1.2.1 21 i = M1.2.1 20 i)) : EndC c g i (on, role, wants, sndC, rcvC, nSent, nRcvd, lastF, found, sending, next, wanted, lastR, line, reader) (on, role, wants, sndC, rcvC, nSent, nRcvd, lastF, found, sending, next, wanted, lastR, line, reader) := by
  refine ⟨hcl, fun _ => rfl, fun q _ => q, fun q _ => q, fun M1 f1 hM1 KK cb v2 hcb hKK v hv => ?_⟩
  obtain ⟨hN1, h9, h3⟩ := h M1 f1 hM1
  have hN1' := hN1
  obtain ⟨a1, a2, a3, a4, a5, a6⟩ := hN1
  have hr : role = 1 ∨ role = 2 ∨ role = 3 := by
    rcases a6 with q | ⟨q, -⟩ | ⟨q, -⟩
    · exact Or.inl q
    · exact Or.inr (Or.inl q)
    · exact Or.inr (Or.inr q)
  have k107 : fn107 i KK v2 M1 := fn107_of a4 a5 hr (hKK M1 Loc5.rf hN1')
  have role_of : ∀ x : Int32, ¬ x = 0 → M1.2.1 3 i = x → role = x := by
    intro x hx q
    by_cases z : on = 0
    · rw [a4, if_pos z] at q
      exact absurd q.symm hx
    · rw [a4, if_neg z] at q
      exact q
  have k83 : fn83 i v cb KK v2 M1 := ⟨fun _ => k107, fun q => ⟨fun _ => k107, fun z => absurd (hcb.mp z) (h9 (role_of 2 (by decide) q))⟩⟩
  exact ⟨fun _ => k83, fun q => ⟨fun _ => k83, fun z => absurd z (h3 (role_of 3 (by decide) q))⟩⟩
/-- what a reader that has all holds -/
theorem Rdr9.out {i : Nat} {M : ModelS} {R : ReaderS} (h : Rdr9 i M R) : ∃ β : Nat → Int32, (∀ j, j < 128 → M.2.1 25 (128 * i + j) = β j) ∧ (∀ j, j < sp β + 4 → isB (β j)) ∧ R.2.2.2.2.2.2.2.2 = ((if β 13 = 1 then 1 else 0), (if β 13 = 1 then nw β 14 (nv β 1 11) 18 else nv β 1 11), rdt β (sp β + 4) (szn β), nI (szn β)) := by
  obtain ⟨ρ, r1, r2, r3, r4, r5⟩ := h
  obtain ⟨β, k, al, la, nd, t⟩ := ρ
  dsimp only at r4
  obtain ⟨⟨q1, q2, q3, q4, q5, q6⟩, -, -, -, -⟩ := r3
  dsimp only at q6
  have hnd := r2.nd r4
  have hop := r2.open_.mp r4
  have hk := r2.2
  have hsp := sp_le β
  dsimp only at hk hnd
  have hcase : nd = sp β + 4 + 8 * szn β + 15 ∧ sp β + 4 ≤ k := by
    rcases hk with ⟨x, y⟩ | ⟨x, y, z⟩
    · omega
    · exact ⟨x, y⟩
  have hz8 := szn_le β
  have hkk : k = sp β + 4 + 8 * szn β + 15 := by omega
  have hspk : spk β k = sp β := spk_sp (by omega)
  have hB := r2.1
  dsimp only at hB
  have e1 : lgv β k = (if β 13 = 1 then 1 else 0) := by
    unfold lgv
    by_cases z : β 13 = 1
    · rw [if_pos ⟨by omega, z⟩, if_pos z]
    · rw [if_neg (fun q => z q.2), if_neg z]
  have e2 : idv β k = (if β 13 = 1 then nw β 14 (nv β 1 11) 18 else nv β 1 11) := by
    unfold idv
    by_cases z : β 13 = 1
    · have : sp β = 35 := by unfold sp; rw [if_pos z]
      rw [if_pos ⟨by omega, z⟩, if_pos z, show min (k - 14) 18 = 18 by omega]
    · rw [if_neg (fun q => z q.2), if_neg z, show min (k - 1) 11 = 11 by omega]
  have e3 : dtv β k = rdt β (sp β + 4) (szn β) := by
    unfold dtv
    rw [hspk, show min (k - (sp β + 4)) (8 * szn β) = 8 * szn β by omega]
    exact dt_rdt β (sp β + 4) (szn β) hz8 (fun j a b => hB j (by omega))
  have e4 : szv β k = nI (szn β) := by
    unfold szv
    rw [hspk, if_neg (by omega)]
  rw [e1, e2, e3, e4] at q6
  exact ⟨β, r1.2.2.2.2.2, fun j hj => hB j (by omega), q6⟩
set_option maxHeartbeats 1000000 in
/-- a reader has the whole frame -/
theorem end_read {c g i : Nat} (hi : i < 4) (hc : c < 2 ^ 30) {M : ModelS} {f : Int32} (h : PLk c g i M f lastF (on, 2, wants, sndC, rcvC, nSent, nRcvd, lastF, found, sending, next, wanted, lastR, line, reader)) (hf0 : found = 0) (hon : ¬ on = 0) (h9 : Rdr9 i M reader) : ∃ N1, EndC c g i (on, 2, wants, sndC, rcvC, nSent, nRcvd, lastF, found, sending, next, wanted, lastR, line, reader) N1 := by
  obtain ⟨β0, -, -, q60⟩ := h9.out
  have r5 : reader.2.1 = 10 := h9.choose_spec.2.2.2.2
  obtain ⟨a1, a2, a3, a4, a5, a6⟩ := h
  obtain ⟨n1, n2, n3, n4, n5, n6, n7, b0, n10, n11⟩ := a1
  have hde := dec_eq (a := b0) (by omega)
  refine ⟨(on, 1, wants, sndC, nI (b0 - 1), nSent, nRcvd + 1, lastF, found, sending, next, wanted, reader.2.2.2.2.2.2.2.2, line, reader), fun K hK => ?_, fun q => absurd (show (2 : Int32) = 1 from q) (by decide), fun _ q => absurd r5 q, fun q => absurd (show (2 : Int32) = 3 from q) (by decide), fun M1 f1 hM1 KK cb v2 hcb hKK v hv => ?_⟩
  · unfold wp_X2_endFrame wp_X2_endFrame_29
    refine ⟨fun _ => ⟨fun q => absurd rfl q, fun _ => ?_⟩, fun q => absurd q (by decide)⟩
    obtain ⟨taken, tail, alike, last, check, chkTaken, sizePl, chkPl, fr⟩ := reader
    have r5 : tail = 10 := r5
    have q60 : fr = _ := q60
    unfold wp_X3_isFinished
    refine ⟨fun q => absurd r5 q, fun _ => ⟨fun q => absurd q (by decide), fun _ => ?_⟩⟩
    unfold wp_X2_endReading wp_X0_set
    intro m1 em1
    rw [n10, hde.1] at em1
    obtain ⟨fl, fi, fd, fs⟩ := fr
    obtain ⟨l1, l2, l3, l4⟩ := lastR
    refine ⟨?_, ?_⟩
    · rw [(Prod.mk.inj q60).1]
      split
      · exact bz_1
      · exact bz_0
    · rw [em1]
      exact hK
  · obtain ⟨b1, b2, b3, b4, b5, b6⟩ := hM1
    have e3' : M1.2.1 3 i = 2 := by rw [b4, if_neg hon]
    have hR9 : f1 = 9 ∧ Rdr9 i M1 reader := by
      rcases b6 with ⟨-, ⟨y, -⟩ | ⟨-, ⟨-, ρ, y1, y2, y3, y4⟩ | y⟩ | ⟨y, -⟩⟩ | ⟨-, -, y⟩
      · exact absurd y (by decide)
      · exact absurd r5 (y3.tail y4)
      · exact y
      · exact absurd y (by decide)
      · rw [hf0] at y
        exact absurd y (by decide)
    obtain ⟨β, p6, hB, q6⟩ := hR9.2.out
    refine ⟨fun _ => ⟨fun q => absurd e3' q, fun _ => ⟨fun q => absurd (hcb.mpr hR9.1) q, fun _ => ?_⟩⟩, fun q => absurd (e3'.symm.trans q) (by decide)⟩
    refine wp_keep5 hi p6 hB hv (fun M2 hAt k14 k15 k17 k16 k7 k5 k3 => ?_)
    have hl := Loc5.at_ hAt
    have hrow : ∀ x, ¬ PK x → M2.2.1 x = M1.2.1 x := fun x hx => hAt.row hx
    have h12 : M2.2.2 12 = M1.2.2 12 := hAt.2.2.2.1 12 (by decide)
    refine fn107_of (on := on) (role := 1) (by rw [k3, if_neg hon]) (fun _ => rfl) (Or.inl rfl) (hKK M2 hl ⟨⟨n1, ?_, ?_, ?_, ?_, ?_, n7, b0 - 1, rfl, by omega⟩, ?_, ?_, by rw [k3, if_neg hon], fun _ => rfl, Or.inl rfl⟩)
    · rw [hrow 4 (by unfold PK; omega)]; exact b1.2.1
    · rw [k5, ← b1.2.2.1, n10, hde.2]
    · rw [hrow 6 (by unfold PK; omega)]; exact b1.2.2.2.1
    · rw [k7, ← b1.2.2.2.2.1]
    · rw [k14, k15, k16, k17]; exact q6
    · obtain ⟨w, w1, w2, w3, w4, w5, w6⟩ := b2
      refine ⟨w, w1, ?_, w3, fun k hk => ⟨?_, (w4 k hk).2⟩, fun k hk => ?_, fun j k x y => ?_⟩
      · rw [hrow 9 (by unfold PK; omega)]; exact w2
      · unfold FrM
        rw [hrow 10 (by unfold PK; omega), hrow 11 (by unfold PK; omega), hrow 13 (by unfold PK; omega), h12]; exact (w4 k hk).1
      · rw [hrow 23 (by unfold PK; omega)]; exact w5 k hk
      · rw [hrow 23 (by unfold PK; omega)]; exact w6 j k x y
    · rw [hrow 8 (by unfold PK; omega)]
      exact b3
end EF
