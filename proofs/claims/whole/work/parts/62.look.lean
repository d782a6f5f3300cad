/-! a node looks -/
abbrev nLast (N : NodeS) : Int32 := N.2.2.2.2.2.2.2.1
abbrev nFound (N : NodeS) : Int32 := N.2.2.2.2.2.2.2.2.1
abbrev nNext (N : NodeS) : Int32 := N.2.2.2.2.2.2.2.2.2.2.1
abbrev nRd (N : NodeS) : ReaderS := N.2.2.2.2.2.2.2.2.2.2.2.2.2.2
def LookC (c g i : Nat) (b : Int32) (N N1 : NodeS) : Prop := (∀ K : NodeS → Prop, K N1 → wp_X2_look N b K) ∧ ((N.2.1 = 1 ∨ (N.2.1 = 3 ∧ nNext N = 0)) → nFound N1 = 0 → (N1.2.1 = 1 ∨ (N1.2.1 = 2 ∧ ¬ (nRd N1).2.1 = 10) ∨ (N1.2.1 = 3 ∧ nNext N1 = 1 ∧ N.2.1 = 3))) ∧ (N.2.1 = 3 → nNext N = 0 → nFound N1 = 0 → N1.2.1 = 3) ∧
  ∀ M1, ND c g i M1 N → ∀ K : Int32 → ModelS → Prop, (∀ f M2, Lk i M1 M2 → PLk c g i M2 f (nLast N1) N1 → K f M2) → ∀ v1 : Int32, v1 = nI i → (¬ M1.2.1 3 i = 0 → wp_X5_sees M1 v1 b K) ∧ (M1.2.1 3 i = 0 → K 0 M1)
theorem RD.tail {R : ReaderS} {ρ : RowS} (h : RD R ρ) (ht : ρ.2.2.2.2.2 ≤ 9) : ¬ R.2.1 = 10 := by
  intro q
  have e := h.2.1
  rw [q, lit 10] at e
  have := (nI_eq (by omega) (by omega)).mp e
  omega
theorem rtk_9 {ρ : RowS} {b : Int32} (h : (rtk ρ b).1 = 9) : (rtk ρ b).2.2.1 = (rtk ρ b).2.2.2.2.2.1 := by
  obtain ⟨β, k, al, la, nd, t⟩ := ρ
  unfold rtk at h ⊢
  dsimp only at h ⊢
  by_cases h1 : k = nd
  · rw [if_pos h1]
    exact h1
  · rw [if_neg h1] at h
    split at h
    · split at h
      · exact absurd (show (1 : Int32) = 9 from h) (by decide)
      · exact absurd (show (0 : Int32) = 9 from h) (by decide)
    · split at h
      · exact absurd (show (3 : Int32) = 9 from h) (by decide)
      · exact absurd (show (0 : Int32) = 9 from h) (by decide)
theorem rtk_row0 (β : Nat → Int32) : (rtk (row0 β) 0).1 = 0 ∧ (rtk (row0 β) 0).2.2.2.2.2.2 = 0 := by
  unfold row0 rtk
  dsimp only
  rw [if_neg (by decide), if_neg (by decide), if_neg (fun q => absurd q.2 (by decide))]
  exact ⟨rfl, rfl⟩
set_option maxHeartbeats 1000000 in
theorem look_1 {c g i : Nat} (hi : i < 4) {M : ModelS} {on wants sndC rcvC nSent nRcvd lastF found sending next : Int32} {wanted : Nat → FrameS} {lastR : FrameS} {line : LineS} {reader : ReaderS} {b : Int32} (hb : isB b) (h : ND c g i M (on, 1, wants, sndC, rcvC, nSent, nRcvd, lastF, found, sending, next, wanted, lastR, line, reader)) : ∃ N1, LookC c g i b (on, 1, wants, sndC, rcvC, nSent, nRcvd, lastF, found, sending, next, wanted, lastR, line, reader) N1 := by
  by_cases hs : on = 0 ∨ b = 1
  · refine ⟨(on, 1, wants, sndC, rcvC, nSent, nRcvd, lastF, 0, sending, next, wanted, lastR, line, reader), fun K hK => ?_, fun _ _ => Or.inl rfl, fun q => absurd (show (1 : Int32) = 3 from q) (by decide), fun M1 hE K hK v1 h1 => ?_⟩
    · unfold wp_X2_look
      refine ⟨fun _ => hK, fun q => ⟨fun z => absurd rfl z, fun _ => ⟨fun z => ?_, fun _ => hK⟩⟩⟩
      rcases hs with hs | hs
      · exact absurd hs q
      · exact absurd hs z
    · obtain ⟨a1, a2, a3, a4, a5, a6⟩ := hE
      have kk : K 0 M1 := hK 0 M1 Lk.rf ⟨a1, a2, a3, a4, a5, Or.inl ⟨rfl, Or.inl ⟨rfl, rfl⟩⟩⟩
      refine ⟨fun q => ?_, fun _ => kk⟩
      have hon : ¬ on = 0 := fun z => q (by rw [a4, if_pos z])
      have hb1 : b = 1 := hs.elim (fun z => absurd z hon) id
      have e3 : M1.2.1 3 i = 1 := by rw [a4, if_neg hon]
      have hin : vp_in v1 4 := pk_in i 4 hi h1
      have hcl : v1.toNatClampNeg = i := pk_cl i h1
      obtain ⟨mI, mA, mL⟩ := M1
      dsimp only at e3
      unfold wp_X5_sees wp_X5_idle
      dsimp only
      rw [hcl, e3, hb1]
      exact ⟨hin, fun _ => ⟨hin, fun _ => ⟨hin, fun z => absurd rfl z, fun _ => ⟨fun _ => kk, fun z => absurd z (by decide)⟩⟩, fun z => absurd z (by decide)⟩, fun z => absurd z (by decide)⟩
  · have hon : ¬ on = 0 := fun q => hs (Or.inl q)
    have hb0 : b = 0 := by
      rcases hb with hb | hb
      · exact hb
      · exact absurd (Or.inr hb) hs
    subst hb0
    have hz0 := rtk_row0 (fun _ => 0)
    have hz := take_ok (row0_WF (fun _ => 0)) (row0_RD (fun _ => 0)) isB_0 (Nat.zero_le 9) hz0.1
    refine ⟨(on, 2, wants, sndC, rcvC, nSent, nRcvd, lastF, (tk beginR 0).1, sending, next, wanted, lastR, line, (tk beginR 0).2), fun K hK => ?_, fun _ _ => Or.inr (Or.inl ⟨rfl, hz.1.tail (by rw [hz0.2]; omega)⟩), fun q => absurd (show (1 : Int32) = 3 from q) (by decide), fun M1 hE K hK v1 h1 => ?_⟩
    · unfold wp_X2_look wp_X2_look_26 wp_X2_look_62
      refine ⟨fun q => absurd q hon, fun _ => ⟨fun z => absurd rfl z, fun _ => ⟨fun _ => ⟨fun z => absurd rfl z, fun _ => wp_begin3 (wp_tk ⟨fun z => absurd rfl z, fun _ => hK⟩)⟩, fun z => absurd z (by decide)⟩⟩⟩
    · obtain ⟨a1, a2, a3, a4, a5, a6⟩ := hE
      have e3 : M1.2.1 3 i = 1 := by rw [a4, if_neg hon]
      refine ⟨fun _ => ?_, fun q => absurd (e3.symm.trans q) (by decide)⟩
      have hin : vp_in v1 4 := pk_in i 4 hi h1
      have hcl : v1.toNatClampNeg = i := pk_cl i h1
      obtain ⟨mI, mA, mL⟩ := M1
      dsimp only at e3
      have l1 : Lk i (mI, mA, mL) (mI, va_up mA 3 (upd (mA 3) i 2), mL) := Lk.one (by unfold T0; omega) rfl (by decide)
      have hbg : wp_X5_begin (mI, va_up mA 3 (upd (mA 3) i 2), mL) v1 (fun u3 => wp_X5_take (u3.1, u3.2.1, u3.2.2) v1 0 (fun r4 u5 => K r4 (u5.1, u5.2.1, u5.2.2))) := by
        refine wp_begin5 (by omega) h1 (fun M2 β hF hR hI => ?_)
        refine wp_take5 (M := M2) (by omega) hI (row0_WF β) (show 0 < 1000 by omega) isB_0 h1 (fun M3 gF gR gI => ?_)
        have hy0 := rtk_row0 β
        have hy := take_ok (row0_WF β) (row0_RD β) isB_0 (Nat.zero_le 9) hy0.1
        have lk := (l1.tr (Lk.row hF hR)).tr (Lk.row gF gR)
        refine hK _ M3 lk ⟨a1.lk lk, a2.lk lk, ?_, ?_, fun q => absurd q hon, Or.inl ⟨hz.2, Or.inr (Or.inl ⟨rfl, Or.inl ⟨hy0.1, (rtk (row0 β) 0).2, gI, rtk_WF (row0_WF β) isB_0, hy.1, by rw [hy0.2]; omega⟩⟩)⟩⟩
        · rw [gF.2.1 8 (by unfold PT; omega), hF.2.1 8 (by unfold PT; omega)]
          exact a3
        · rw [gF.2.1 3 (by unfold PT; omega), hF.2.1 3 (by unfold PT; omega), if_neg hon]
          exact pk_us
      unfold wp_X5_sees wp_X5_idle
      dsimp only
      rw [hcl, e3]
      exact ⟨hin, fun _ => ⟨hin, fun _ => ⟨hin, fun z => absurd rfl z, fun _ => ⟨fun z => absurd rfl z, fun _ => ⟨hin, hbg⟩⟩⟩, fun z => absurd z (by decide)⟩, fun z => absurd z (by decide)⟩
set_option maxHeartbeats 1000000 in
theorem look_2 {c g i : Nat} (hi : i < 4) {M : ModelS} {on wants sndC rcvC nSent nRcvd lastF found sending next : Int32} {wanted : Nat → FrameS} {lastR : FrameS} {line : LineS} {reader : ReaderS} {b : Int32} (hb : isB b) (h : ND c g i M (on, 2, wants, sndC, rcvC, nSent, nRcvd, lastF, found, sending, next, wanted, lastR, line, reader)) : ∃ N1, LookC c g i b (on, 2, wants, sndC, rcvC, nSent, nRcvd, lastF, found, sending, next, wanted, lastR, line, reader) N1 := by
  have hon : ¬ on = 0 := fun q => absurd (h.2.2.2.2.1 q) (by decide)
  refine ⟨(on, 2, wants, sndC, rcvC, nSent, nRcvd, lastF, (tk reader b).1, sending, next, wanted, lastR, line, (tk reader b).2), fun K hK => ?_, fun q => ?_, fun q => absurd (show (2 : Int32) = 3 from q) (by decide), fun M1 hE K hK v1 h1 => ?_⟩
  · unfold wp_X2_look wp_X2_look_26 wp_X2_look_62
    exact ⟨fun q => absurd q hon, fun _ => ⟨fun _ => ⟨fun _ => ⟨fun _ => wp_tk ⟨fun z => absurd rfl z, fun _ => hK⟩, fun z => absurd z (by decide)⟩, fun z => absurd z (by decide)⟩, fun z => absurd z (by decide)⟩⟩
  · rcases q with q | q
    · exact absurd (show (2 : Int32) = 1 from q) (by decide)
    · exact absurd (show (2 : Int32) = 3 from q.1) (by decide)
  · obtain ⟨a1, a2, a3, a4, a5, a6⟩ := hE
    have e3 : M1.2.1 3 i = 2 := by rw [a4, if_neg hon]
    refine ⟨fun _ => ?_, fun q => absurd (e3.symm.trans q) (by decide)⟩
    have hin : vp_in v1 4 := pk_in i 4 hi h1
    have hcl : v1.toNatClampNeg = i := pk_cl i h1
    have hRd : Rdr i M1 reader := by
      rcases a6 with q | ⟨-, q⟩ | ⟨q, -⟩
      · exact absurd q (by decide)
      · exact q
      · exact absurd q (by decide)
    obtain ⟨ρ, r1, r2, r3, r4⟩ := hRd
    obtain ⟨s1, s2, s3⟩ := take_sim r2 r3 hb r4
    have htk : wp_X5_take M1 v1 b (fun r9 u10 => K r9 (u10.1, u10.2.1, u10.2.2)) := by
      refine wp_take5 (by omega) r1 r2 (by omega) hb h1 (fun M2 gF gR gI => ?_)
      have lk := Lk.row gF gR
      refine hK _ M2 lk ⟨a1.lk lk, a2.lk lk, ?_, ?_, fun q => absurd q hon, ?_⟩
      · rw [gF.2.1 8 (by unfold PT; omega)]
        exact a3
      · rw [gF.2.1 3 (by unfold PT; omega), if_neg hon]
        exact e3
      · by_cases h0 : (tk reader b).1 = 0
        · obtain ⟨t1, t2, t3⟩ := s2 h0
          refine Or.inl ⟨h0, Or.inr (Or.inl ⟨rfl, ?_⟩)⟩
          by_cases h9 : (rtk ρ b).1 = 9
          · exact Or.inr ⟨h9, _, gI, rtk_WF r2 hb, t1, rtk_9 h9, t2.mp h9⟩
          · refine Or.inl ⟨?_, _, gI, rtk_WF r2 hb, t1, t3.elim id (fun q => absurd q h9)⟩
            rcases s1 with s1 | ⟨s1, -⟩
            · rw [s1]; exact h0
            · exact absurd s1 h9
        · refine Or.inr ⟨?_, Or.inl rfl, ?_⟩
          · rcases s1 with s1 | ⟨-, s1⟩
            · exact s1
            · exact absurd s1 h0
          · rcases s3 with s3 | s3 | s3 | s3
            · exact absurd s3 h0
            · exact Or.inl s3
            · exact Or.inr (Or.inl s3)
            · exact Or.inr (Or.inr (Or.inl s3))
    obtain ⟨mI, mA, mL⟩ := M1
    dsimp only at e3
    unfold wp_X5_sees
    dsimp only
    rw [hcl, e3]
    exact ⟨hin, fun _ => ⟨hin, fun z => absurd rfl z, fun _ => htk⟩, fun z => absurd z (by decide)⟩
