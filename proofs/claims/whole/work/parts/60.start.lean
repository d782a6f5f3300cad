/-! a node begins to send; what it sends -/
def T0 (f : Nat) : Prop := f = 3 ∨ f = 8 ∨ (18 ≤ f ∧ f ≤ 22) ∨ (25 ≤ f ∧ f ≤ 34)
/-- only cells of node i, and none of its counts and wants -/
def Lk (i : Nat) (M M1 : ModelS) : Prop := Loc5 i M M1 ∧ (∀ f, ¬ T0 f → M1.2.1 f = M.2.1 f) ∧ M1.2.2 = M.2.2
theorem Lk.rf {i : Nat} {M : ModelS} : Lk i M M := ⟨Loc5.rf, fun _ _ => rfl, rfl⟩
theorem Lk.tr {i : Nat} {M M1 M2 : ModelS} (a : Lk i M M1) (b : Lk i M1 M2) : Lk i M M2 := ⟨a.1.tr b.1, fun f h => (b.2.1 f h).trans (a.2.1 f h), b.2.2.trans a.2.2⟩
theorem Lk.one {i f0 : Nat} {x : Int32} (ht : T0 f0) (hf : wd f0 = 1) (h31 : f0 ≠ 31) {mI : Nat → Int32} {mA : Nat → Nat → Int32} {mL : Nat → Nat → Int64} : Lk i (mI, mA, mL) (mI, va_up mA f0 (upd (mA f0) i x), mL) := ⟨Loc5.one hf h31, fun f h => up_n (fun e => h (e ▸ ht)), rfl⟩
theorem Lk.row {i : Nat} {M M1 : ModelS} (hF : Fr PT M M1) (hR : RowF i M M1) : Lk i M M1 := by
  refine ⟨Loc5.row hF hR, fun f h => hF.2.1 f (fun q => h ?_), hF.2.2⟩
  have q : 25 ≤ f ∧ f ≤ 30 := q
  unfold T0
  omega
theorem Lk.mk {i : Nat} {M M1 : ModelS} {X : LineS} (h : Mk i M X M1) : Lk i M M1 := by
  refine ⟨Loc5.mk h, fun f hf => h.1.2.1 f (fun q => hf ?_), h.1.2.2⟩
  unfold PMS PM PS at q
  unfold T0
  omega
theorem NC.lk {c i : Nat} {M M1 : ModelS} {on snd rcv sent got : Int32} {lastR : FrameS} (h : Lk i M M1) (hN : NC c i M on snd rcv sent got lastR) : NC c i M1 on snd rcv sent got lastR := by
  unfold NC
  rw [h.2.1 4 (by unfold T0; omega), h.2.1 5 (by unfold T0; omega), h.2.1 6 (by unfold T0; omega), h.2.1 7 (by unfold T0; omega), h.2.1 14 (by unfold T0; omega), h.2.1 15 (by unfold T0; omega), h.2.1 17 (by unfold T0; omega), h.2.2]
  exact hN
theorem NWt.lk {g i : Nat} {M M1 : ModelS} {wants : Int32} {W : Nat → FrameS} (h : Lk i M M1) (hN : NWt g i M wants W) : NWt g i M1 wants W := by
  unfold NWt Wn FrM
  rw [h.2.1 9 (by unfold T0; omega), h.2.1 10 (by unfold T0; omega), h.2.1 11 (by unfold T0; omega), h.2.1 13 (by unfold T0; omega), h.2.1 23 (by unfold T0; omega), h.2.2]
  exact hN
theorem FinR.same {i : Nat} {M M1 : ModelS} {X : LineS} (h : FinR M i X) (h18 : M1.2.1 18 = M.2.1 18) (h19 : M1.2.1 19 = M.2.1 19) (h20 : M1.2.1 20 = M.2.1 20) : FinR M1 i X := by
  unfold FinR
  rw [h18, h19, h20]
  exact h
set_option maxHeartbeats 1000000 in
theorem start_core {c g i : Nat} (hi : i < 4) {M : ModelS} {N : NodeS} (h : ND c g i M N) (hr : N.2.1 = 1) : ∃ N1 : NodeS, (∀ K : NodeS → Prop, K N1 → wp_X2_startSending N K) ∧ (N1.2.1 = 1 ∨ (N1.2.1 = 3 ∧ N1.2.2.2.2.2.2.2.2.2.2.1 = 0)) ∧ ∀ M1, ND c g i M1 N → ∀ KK : ModelS → Prop, (∀ M2, Loc5 i M1 M2 → ND c g i M2 N1 → KK M2) → ∀ v1 : Int32, v1 = nI i →
    wp_X5_offer M1 v1 (fun r => (¬ M1.2.1 3 i = 1 → KK M1) ∧ (M1.2.1 3 i = 1 → ((r < 0 → KK M1) ∧ (¬ r < 0 → (vp_in r 16 ∧ wp_X5_make (M1.1, va_up (va_up (va_up M1.2.1 3 (upd (M1.2.1 3) i 3)) 22 (upd (M1.2.1 22) i (M1.2.1 23 r.toNatClampNeg))) 21 (upd (M1.2.1 21) i 0), M1.2.2) r v1 (fun u => wp_X5_begin u v1 KK)))))) := by
  obtain ⟨on, role, wants, sndC, rcvC, nSent, nRcvd, lastF, found, sending, next, wanted, lastR, line, reader⟩ := N
  have hr : role = 1 := hr
  subst hr
  have hND := h
  obtain ⟨a1, a2, a3, a4, a5, a6⟩ := h
  have hW0 := a2
  obtain ⟨w, w1, w2, w3, w4, w5, w6⟩ := a2
  have hok : ∀ k, k < w → ∃ sz, okF (wanted k) sz := fun k hk => (w4 k hk).2
  have stay : (on = 0 ∨ w = 0) → ∃ N1 : NodeS, (∀ K : NodeS → Prop, K N1 → wp_X2_startSending (on, 1, wants, sndC, rcvC, nSent, nRcvd, lastF, found, sending, next, wanted, lastR, line, reader) K) ∧ (N1.2.1 = 1 ∨ (N1.2.1 = 3 ∧ N1.2.2.2.2.2.2.2.2.2.2.1 = 0)) ∧ ∀ M1, ND c g i M1 (on, 1, wants, sndC, rcvC, nSent, nRcvd, lastF, found, sending, next, wanted, lastR, line, reader) → ∀ KK : ModelS → Prop, (∀ M2, Loc5 i M1 M2 → ND c g i M2 N1 → KK M2) → ∀ v1 : Int32, v1 = nI i →
    wp_X5_offer M1 v1 (fun r => (¬ M1.2.1 3 i = 1 → KK M1) ∧ (M1.2.1 3 i = 1 → ((r < 0 → KK M1) ∧ (¬ r < 0 → (vp_in r 16 ∧ wp_X5_make (M1.1, va_up (va_up (va_up M1.2.1 3 (upd (M1.2.1 3) i 3)) 22 (upd (M1.2.1 22) i (M1.2.1 23 r.toNatClampNeg))) 21 (upd (M1.2.1 21) i 0), M1.2.2) r v1 (fun u => wp_X5_begin u v1 KK)))))) := by
    intro hs
    refine ⟨(on, 1, wants, sndC, rcvC, nSent, nRcvd, lastF, found, sending, next, wanted, lastR, line, reader), fun K hK => ?_, Or.inl rfl, fun M1 hN1 KK hKK v1 h1 => ?_⟩
    · unfold wp_X2_startSending
      refine wp_off2 w1 w3 hok (fun _ => ⟨fun _ => hK, fun _ => ⟨fun q => absurd rfl q, fun _ => hK⟩⟩) (fun hw0 => ⟨fun _ => hK, fun q => ?_⟩)
      rcases hs with hs | hs
      · exact absurd hs q
      · omega
    · have kk := hKK M1 Loc5.rf hN1
      have e3 : M1.2.1 3 i = (if on = 0 then 0 else 1) := hN1.2.2.2.1
      obtain ⟨w', x1, x2, x3, x4, -⟩ := hN1.2.1
      have hww : w' = w := (nI_eq (by omega) (by omega)).mp (x1.symm.trans w1)
      subst hww
      refine wp_off5 hi x2 x3 x4 h1 (fun _ => ⟨fun _ => kk, fun _ => ⟨fun _ => kk, fun q => absurd (by decide) q⟩⟩) (fun hw0 => ⟨fun _ => kk, fun q => ?_⟩)
      rcases hs with hs | hs
      · rw [e3, if_pos hs] at q
        exact absurd q (by decide)
      · omega
  have hon : on = 0 ∨ on = 1 := a1.1
  rcases hon with hon | hon
  · exact stay (Or.inl hon)
  by_cases hw0 : w = 0
  · exact stay (Or.inr hw0)
  have hs := offv_lt wanted (w := w) (by omega)
  generalize hsd : offv wanted w = s at hs
  obtain ⟨sz, osz⟩ := hok s hs
  have hsz := osz.1
  have h8 := osz.2.1
  refine ⟨(on, 3, wants, sndC, rcvC, nSent, nRcvd, lastF, found, nI s, 0, wanted, lastR, wln line (wanted s) sz, beginR), fun K hK => ?_, Or.inr ⟨rfl, rfl⟩, fun M1 hN1 KK hKK v1 h1 => ?_⟩
  · have hcl : ∀ j : Nat, j < 4 → nI s = nI j → wp_X1_write line (wanted j) (fun u => wp_X3_begin reader (fun u6 => K (on, 3, wants, sndC, rcvC, nSent, nRcvd, lastF, found, nI j, 0, wanted, lastR, u, u6))) := by
      intro j hj e
      have e := (nI_eq (by omega) (by omega)).mp e
      subst e
      exact wp_write hsz h8 (wp_begin3 hK)
    unfold wp_X2_startSending
    refine wp_off2 w1 w3 hok (fun q => absurd q hw0) (fun _ => ?_)
    rw [hsd]
    refine ⟨fun q => ?_, fun _ => ⟨fun _ => ⟨vp_in_nI (by omega) (by decide), fun e => hcl 0 (by omega) e, fun e => hcl 1 (by omega) e, fun e => hcl 2 (by omega) e, fun e => hcl 3 (by omega) e⟩, fun q => ?_⟩⟩
    · rw [hon] at q
      exact absurd q (by decide)
    · have : ∀ j : Fin 4, ¬ nI j.val = -1 := by decide
      exact absurd q (this ⟨s, by omega⟩)
  · obtain ⟨b1, b2, b3, b4, b5, b6⟩ := hN1
    have hb2 := b2
    obtain ⟨w', x1, x2, x3, x4, x5, x6⟩ := b2
    have hww : w' = w := (nI_eq (by omega) (by omega)).mp (x1.symm.trans w1)
    subst hww
    have e3 : M1.2.1 3 i = 1 := by
      rw [b4, if_neg]
      rw [hon]
      decide
    refine wp_off5 hi x2 x3 x4 h1 (fun q => absurd q hw0) (fun _ => ⟨fun q => absurd e3 q, fun _ => ⟨fun q => absurd q (nI_pos (by omega)), fun _ => ⟨vp_in_nI (by omega) (by decide), ?_⟩⟩⟩)
    rw [hsd, nI_clamp (by omega)]
    obtain ⟨mI, mA, mL⟩ := M1
    have l1 : Lk i (mI, mA, mL) (mI, va_up mA 3 (upd (mA 3) i 3), mL) := Lk.one (by unfold T0; omega) rfl (by decide)
    have l2 : Lk i (mI, va_up mA 3 (upd (mA 3) i 3), mL) (mI, va_up (va_up mA 3 (upd (mA 3) i 3)) 22 (upd (mA 22) i (mA 23 (4 * i + s))), mL) := Lk.one (f0 := 22) (by unfold T0; omega) rfl (by decide)
    have l3 : Lk i (mI, va_up (va_up mA 3 (upd (mA 3) i 3)) 22 (upd (mA 22) i (mA 23 (4 * i + s))), mL) (mI, va_up (va_up (va_up mA 3 (upd (mA 3) i 3)) 22 (upd (mA 22) i (mA 23 (4 * i + s)))) 21 (upd (mA 21) i 0), mL) := Lk.one (f0 := 21) (by unfold T0; omega) rfl (by decide)
    have l0 := (l1.tr l2).tr l3
    refine wp_make (M := (mI, va_up (va_up (va_up mA 3 (upd (mA 3) i 3)) 22 (upd (mA 22) i (mA 23 (4 * i + s)))) 21 (upd (mA 21) i 0), mL)) line hsz h8 (w := 4 * i + s) (by omega) (by omega) (x4 s hs).1 rfl h1 (fun M3 hM3 => ?_)
    refine wp_begin5 (by omega) h1 (fun M4 β hF hR hI => ?_)
    have l5 := Lk.mk hM3
    have l6 := Lk.row hF hR
    have lk := (l0.tr l5).tr l6
    refine hKK M4 lk.1 ⟨b1.lk lk, hb2.lk lk, ?_, ?_, ?_, ?_⟩
    · rw [hF.2.1 8 (by unfold PT; omega), hM3.1.2.1 8 (by unfold PMS PM PS; omega)]
      exact b3
    · rw [hF.2.1 3 (by unfold PT; omega), hM3.1.2.1 3 (by unfold PMS PM PS; omega), if_neg (by rw [hon]; decide)]
      exact pk_us
    · intro q
      rw [hon] at q
      exact absurd q (by decide)
    · have hfin : FinR M4 i (xb line (wanted s) sz) := hM3.2.2.2.same (hF.2.1 18 (by unfold PT; omega)) (hF.2.1 19 (by unfold PT; omega)) (hF.2.1 20 (by unfold PT; omega))
      obtain ⟨n, n1, n2, -⟩ := hM3.2.2.2
      refine Or.inr (Or.inr ⟨rfl, w', s, 0, n, sz, line, row0 β, w1, w3, rfl, hs, osz, ?_, rfl, hfin, n1, n2, rfl, ?_, by omega, hI, row0_WF β, Nat.le_refl _, Pos_0⟩)
      · rw [hF.2.1 23 (by unfold PT; omega), hM3.1.2.1 23 (by unfold PMS PM PS; omega), hF.2.1 22 (by unfold PT; omega), hM3.1.2.1 22 (by unfold PMS PM PS; omega)]
        exact pk_us.symm
      · rw [hF.2.1 21 (by unfold PT; omega), hM3.1.2.1 21 (by unfold PMS PM PS; omega)]
        exact pk_us
theorem wp_bitAt1 {K : Int32 → Prop} {L : LineS} {m p : Nat} {x : Int32} (hl : L.2.2.1 = nI m) (hm : m ≤ 160) (hp : p < m) (hx : x = nI p) (h : K (L.1 p)) : wp_X1_bitAt L x K := by
  obtain ⟨bits, places, len, head, framed, alike, last, check⟩ := L
  have hl : len = nI m := hl
  unfold wp_X1_bitAt
  rw [hx, hl]
  refine ⟨fun q => absurd q (nI_pos (by omega)), fun _ => ⟨fun q => absurd q (nI_ge hp (by omega)), fun _ => ⟨vp_in_nI (by omega) (by decide), ?_⟩⟩⟩
  rw [nI_clamp (by omega)]
  exact h
/-- what the reference has of a sender's line -/
theorem FinR.cells {i : Nat} {M : ModelS} {X : LineS} {n : Nat} (h : FinR M i X) (hn : X.2.2.1 = nI n) (h147 : n ≤ 147) : (∀ j, j < n → M.2.1 18 (200 * i + j) = X.1 j ∧ M.2.1 19 (200 * i + j) = X.2.1 j) ∧ (∀ j, n ≤ j → j < n + 10 → M.2.1 18 (200 * i + j) = 1) ∧ M.2.1 19 (200 * i + (n + 1)) = 201 ∧ (∀ j, n ≤ j → j ≠ n + 1 → j < n + 10 → M.2.1 19 (200 * i + j) = 200) ∧ M.2.1 20 i = nI (n + 10) := by
  obtain ⟨n', h1, h2, h3, h4, h5, h6, h7, h8⟩ := h
  have e : n' = n := (nI_eq (by omega) (by omega)).mp (h1.symm.trans hn)
  subst e
  refine ⟨h3, h4, h6, fun j a b c => ?_, h8⟩
  by_cases e : j = n'
  · subst e
    exact h5
  · exact h7 j (by omega) c
/-- the bit that a sender sends, on both sides -/
theorem Snd.bit {i p n sz : Nat} {M : ModelS} {L0 : LineS} {F : FrameS} (h8 : sz ≤ 8) (hF : FinR M i (xb L0 F sz)) (hn : (xb L0 F sz).2.2.1 = nI n) (h147 : n ≤ 147) (hp : p < n + 10) : M.2.1 18 (200 * i + p) = (wln L0 F sz).1 p ∧ isB ((wln L0 F sz).1 p) := by
  obtain ⟨f1, f2, -, -, -⟩ := hF.cells hn h147
  obtain ⟨g1, g2, g3, g4, g5⟩ := wln_facts (F := F) (L0 := L0) h8 hn h147
  by_cases h : p < n
  · rw [(f1 p h).1, (g3 p h).1]
    exact ⟨rfl, g5 p h⟩
  · rw [f2 p (by omega) hp, (g4 p (by omega) hp).1]
    exact ⟨rfl, isB_1⟩
theorem send_core {c g i : Nat} (hi : i < 4) {M : ModelS} {N : NodeS} (h : ND c g i M N) : ∃ b : Int32, isB b ∧ (∀ K : Int32 → Prop, K b → wp_X2_bitToSend N K) ∧ (N.2.1 = 3 → N.2.2.2.2.2.2.2.2.2.2.1 = 0 → b = 0) ∧ (b = 0 → ¬ N.2.1 = 1) ∧ ∀ M1, ND c g i M1 N → ∀ A B : Prop, (¬ b = 0 → A) → (b = 0 → B) → ∀ v1 : Int32, v1 = nI i → (M1.2.1 3 i = 0 → A) ∧ (¬ M1.2.1 3 i = 0 → wp_X5_sends M1 v1 (fun r => (¬ r = 0 → A) ∧ (r = 0 → B))) := by
  obtain ⟨on, role, wants, sndC, rcvC, nSent, nRcvd, lastF, found, sending, next, wanted, lastR, line, reader⟩ := N
  have hND := h
  obtain ⟨a1, a2, a3, a4, a5, a6⟩ := h
  rcases a6 with hr | ⟨hr, hR⟩ | ⟨hr, hS⟩
  · subst hr
    refine ⟨1, isB_1, fun K hK => ?_, fun q => absurd (show (1 : Int32) = 3 from q) (by decide), fun q => absurd q (by decide), fun M1 hN1 A B hA hB v1 h1 => ?_⟩
    · unfold wp_X2_bitToSend wp_X2_bitToSend_42
      exact ⟨fun _ => ⟨fun _ => hK, fun q => absurd q (by decide)⟩, fun q => absurd q (by decide)⟩
    · have hin : vp_in v1 4 := pk_in i 4 hi h1
      have hcl : v1.toNatClampNeg = i := pk_cl i h1
      have e3 : M1.2.1 3 i = (if on = 0 then 0 else 1) := hN1.2.2.2.1
      refine ⟨fun _ => hA (by decide), fun q => ?_⟩
      have e3 : M1.2.1 3 i = 1 := by
        by_cases hon : on = 0
        · rw [if_pos hon] at e3; exact absurd e3 q
        · rw [if_neg hon] at e3; exact e3
      obtain ⟨mI, mA, mL⟩ := M1
      dsimp only at e3
      unfold wp_X5_sends wp_X5_sends_50
      dsimp only
      rw [hcl, e3]
      exact ⟨hin, fun _ => ⟨hin, fun _ => ⟨fun _ => hA (by decide), fun q => absurd q (by decide)⟩, fun q => absurd q (by decide)⟩, fun q => absurd q (by decide)⟩
  · subst hr
    have hon : ¬ on = 0 := fun q => absurd (a5 q) (by decide)
    refine ⟨if ans reader = 0 then 1 else 0, ?_, fun K hK => ?_, fun q => absurd (show (2 : Int32) = 3 from q) (by decide), fun _ => (show ¬ (2 : Int32) = 1 by decide), fun M1 hN1 A B hA hB v1 h1 => ?_⟩
    · split
      · exact isB_1
      · exact isB_0
    · unfold wp_X2_bitToSend wp_X2_bitToSend_42
      refine ⟨fun _ => ⟨fun q => absurd rfl q, fun _ => wp_ans3 ⟨fun q => ?_, fun q => ?_⟩⟩, fun q => absurd q (by decide)⟩
      · rw [if_pos q] at hK; exact hK
      · rw [if_neg q] at hK; exact hK
    · have hin : vp_in v1 4 := pk_in i 4 hi h1
      have hcl : v1.toNatClampNeg = i := pk_cl i h1
      have e3 : M1.2.1 3 i = 2 := by rw [hN1.2.2.2.1, if_neg hon]
      have hR1 : Rdr i M1 reader := by
        rcases hN1.2.2.2.2.2 with q | ⟨-, q⟩ | ⟨q, -⟩
        · exact absurd q (by decide)
        · exact q
        · exact absurd q (by decide)
      obtain ⟨ρ, b1, b2, b3, b4⟩ := hR1
      refine ⟨fun q => absurd (e3.symm.trans q) (by decide), fun _ => ?_⟩
      have hans : wp_X5_answers M1 v1 (fun r5 => ((r5 = 0 → (¬ (1 : Int32) = 0 → A) ∧ ((1 : Int32) = 0 → B)) ∧ (¬ r5 = 0 → (¬ (0 : Int32) = 0 → A) ∧ ((0 : Int32) = 0 → B)))) := by
        refine wp_ans5 (by omega) b1 b2 b3 (by omega) h1 ⟨fun q => ?_, fun q => ?_⟩
        · rw [if_pos q] at hA hB; exact ⟨hA, hB⟩
        · rw [if_neg q] at hA hB; exact ⟨hA, hB⟩
      obtain ⟨mI, mA, mL⟩ := M1
      dsimp only at e3
      unfold wp_X5_sends wp_X5_sends_50
      dsimp only
      rw [hcl, e3]
      exact ⟨hin, fun _ => ⟨hin, fun q => absurd rfl q, fun _ => hans⟩, fun q => absurd q (by decide)⟩
  · subst hr
    have hon : ¬ on = 0 := fun q => absurd (a5 q) (by decide)
    obtain ⟨w, s, p, n, sz, L0, ρ, c1, c2, c3, c4, c5, c6, c7, c8, c9, c10, c11, c12, c13, c14, c15, c16, c17⟩ := hS
    obtain ⟨g1, g2, g3, g4, g5⟩ := wln_facts (F := wanted s) (L0 := L0) c5.2.1 c9 c10
    have hb := (Snd.bit c5.2.1 c8 c9 c10 (show p < n + 10 by omega)).2
    refine ⟨(wln L0 (wanted s) sz).1 p, hb, fun K hK => ?_, fun _ q => ?_, fun _ => (show ¬ (3 : Int32) = 1 by decide), fun M1 hN1 A B hA hB v1 h1 => ?_⟩
    · unfold wp_X2_bitToSend
      refine ⟨fun q => absurd rfl q, fun _ => wp_bitAt1 (m := n + 10) (p := p) (by rw [c7]; exact g1) (by omega) (by omega) c11 ?_⟩
      rw [c7]
      exact hK
    · have q : next = 0 := q
      have hp0 : p = 0 := (nI_eq (a := p) (b := 0) (by omega) (by omega)).mp (c11.symm.trans q)
      subst hp0
      obtain ⟨z1, z2⟩ := xb_0 (F := wanted s) (L0 := L0) c5.2.1 c9 c10
      rw [(g3 0 z1).1]
      exact z2
    · have hin : vp_in v1 4 := pk_in i 4 hi h1
      have hcl : v1.toNatClampNeg = i := pk_cl i h1
      have e3 : M1.2.1 3 i = 3 := by rw [hN1.2.2.2.1, if_neg hon]
      have hS1 : Snd 1 i M1 wants sending next wanted line reader := by
        rcases hN1.2.2.2.2.2 with q | ⟨q, -⟩ | ⟨-, q⟩
        · exact absurd q (by decide)
        · exact absurd q (by decide)
        · exact q
      obtain ⟨w', s', p', n', sz', L0', ρ', d1, d2, d3, d4, d5, d6, d7, d8, d9, d10, d11, d12, d13, -⟩ := hS1
      have hpp : p' = p := (nI_eq (by omega) (by omega)).mp (d11.symm.trans c11)
      subst hpp
      have e21 : M1.2.1 21 i = nI p' := d12
      have hbit : M1.2.1 18 (200 * i + p') = (wln L0 (wanted s) sz).1 p' := by
        rw [(Snd.bit d5.2.1 d8 d9 d10 (show p' < n' + 10 by omega)).1, ← d7, c7]
      refine ⟨fun q => absurd (e3.symm.trans q) (by decide), fun _ => ?_⟩
      obtain ⟨mI, mA, mL⟩ := M1
      dsimp only at e3 e21 hbit
      unfold wp_X5_sends
      dsimp only
      rw [hcl, e3, e21, show (200 : Int32) * v1 + nI p' = nI (200 * i + p') by rw [h1, lit 200, pk_mul, nI_add], nI_clamp (by omega), hbit]
      exact ⟨hin, fun q => absurd rfl q, fun _ => ⟨hin, vp_in_nI (by omega) (by decide), hA, hB⟩⟩
