/-! a sender looks -/
section L3
variable {on wants sndC rcvC nSent nRcvd lastF found sending next : Int32} {wanted : Nat → FrameS} {lastR : FrameS} {line : LineS} {reader : ReaderS} {b : Int32} {K : NodeS → Prop}
theorem look3 (hon : ¬ on = 0) (h : wp_X2_lookAsSender (on, 3, wants, sndC, rcvC, nSent, nRcvd, lastF, 0, sending, next, wanted, lastR, line, reader) b (fun u8 => wp_X2_look_62 K u8 b)) : wp_X2_look (on, 3, wants, sndC, rcvC, nSent, nRcvd, lastF, found, sending, next, wanted, lastR, line, reader) b K := by
  unfold wp_X2_look wp_X2_look_26
  exact ⟨fun q => absurd q hon, fun _ => ⟨fun _ => ⟨fun _ => ⟨fun z => absurd rfl z, fun _ => h⟩, fun z => absurd z (by decide)⟩, fun z => absurd z (by decide)⟩⟩
theorem look62_3 (hK : K (on, 3, wants, sndC, rcvC, nSent, nRcvd, lastF, found, sending, next, wanted, lastR, line, (tk reader b).2)) : wp_X2_look_62 K (on, 3, wants, sndC, rcvC, nSent, nRcvd, lastF, found, sending, next, wanted, lastR, line, reader) b := by
  unfold wp_X2_look_62
  exact wp_tk ⟨fun _ => hK, fun z => absurd z (by decide)⟩
theorem look62_2 (hK : K (on, 2, wants, sndC, rcvC, nSent, nRcvd, lastF, (tk reader b).1, sending, next, wanted, lastR, line, (tk reader b).2)) : wp_X2_look_62 K (on, 2, wants, sndC, rcvC, nSent, nRcvd, lastF, found, sending, next, wanted, lastR, line, reader) b := by
  unfold wp_X2_look_62
  exact wp_tk ⟨fun z => absurd rfl z, fun _ => hK⟩
/-- as a sender: at the answer; seeing its own bit; losing; or not -/
theorem las {n p : Nat} (hl : line.2.2.1 = nI (n + 10)) (hn : n ≤ 147) (hp : p < n + 10) (hx : next = nI p) {K : NodeS → Prop}
    (k5 : p = n + 1 → b = 1 → K (on, 3, wants, sndC, rcvC, nSent, nRcvd, lastF, 5, sending, next, wanted, lastR, line, reader)) (k0 : p = n + 1 → ¬ b = 1 → K (on, 3, wants, sndC, rcvC, nSent, nRcvd, lastF, 0, sending, next + 1, wanted, lastR, line, reader)) (ke : ¬ p = n + 1 → b = line.1 p → K (on, 3, wants, sndC, rcvC, nSent, nRcvd, lastF, 0, sending, next + 1, wanted, lastR, line, reader))
    (kl : ¬ p = n + 1 → ¬ b = line.1 p → ¬ line.1 p = 0 → ¬ line.2.1 p = -1 → ¬ (line.2.2.2.1 - 1) - line.2.1 p ≤ 2 → K (on, 2, wants, sndC, rcvC, nSent, nRcvd, lastF, 0, sending, next, wanted, lastR, line, reader)) (k4 : ¬ p = n + 1 → ¬ b = line.1 p → (line.1 p = 0 ∨ line.2.1 p = -1 ∨ (line.2.2.2.1 - 1) - line.2.1 p ≤ 2) → K (on, 3, wants, sndC, rcvC, nSent, nRcvd, lastF, 4, sending, next, wanted, lastR, line, reader)) : wp_X2_lookAsSender (on, 3, wants, sndC, rcvC, nSent, nRcvd, lastF, 0, sending, next, wanted, lastR, line, reader) b K := by
  unfold wp_X2_lookAsSender wp_X2_lookAsSender_29 wp_X2_lookAsSender_48
  refine wp_isAns1 hl hn (by omega) hx (fun q => ⟨fun z => absurd z (by decide), fun _ => ⟨fun z => ⟨fun _ => k0 q z, fun y => absurd y (by decide)⟩, fun z => k5 q z⟩⟩) (fun q => ⟨fun _ => ⟨fun z => absurd rfl z, fun _ => ?_⟩, fun z => absurd rfl z⟩)
  refine wp_bitAt1 hl (by omega) hp hx ⟨fun z => ?_, fun z => ke q z⟩
  exact wp_mayLose1 hl (by omega) hp hx (fun y1 y2 y3 => ⟨fun y => absurd y (by decide), fun _ => kl q z y1 y2 y3⟩) (fun y => ⟨fun _ => k4 q z y, fun y => absurd rfl y⟩)
end L3
theorem nI_m1 {k : Nat} (h : k < 300) : ¬ nI k = -1 := by
  have : ∀ j : Fin 300, ¬ nI j.val = -1 := by decide +kernel
  exact this ⟨k, h⟩
set_option maxHeartbeats 2000000 in
/-- what the reference does for a sender that looks -/
theorem look_3m {c g i : Nat} (hi : i < 4) {M : ModelS} {on wants sndC rcvC nSent nRcvd lastF found sending next : Int32} {wanted : Nat → FrameS} {lastR : FrameS} {line : LineS} {reader : ReaderS} {b : Int32} (hb : isB b) (h : ND c g i M (on, 3, wants, sndC, rcvC, nSent, nRcvd, lastF, found, sending, next, wanted, lastR, line, reader)) (hon : ¬ on = 0) {w s p n sz : Nat} {L0 : LineS} {ρ : RowS} (c1 : wants = nI w) (c2 : w ≤ 4) (c3 : sending = nI s) (c4 : s < w) (c5 : okF (wanted s) sz) (c6 : M.2.1 23 (4 * i + s) = M.2.1 22 i) (c7 : line = wln L0 (wanted s) sz) (c8 : FinR M i (xb L0 (wanted s) sz)) (c9 : (xb L0 (wanted s) sz).2.2.1 = nI n) (c10 : n ≤ 147) (c11 : next = nI p) (c12 : M.2.1 21 i = nI p) (c13 : p + 1 ≤ n + 10) (c14 : RowIs M i ρ) (c15 : WF ρ) (c16 : ρ.2.2.2.2.2 ≤ p) (c17 : Pos (fullB (wanted s) sz) L0 n p reader ρ) {K : Int32 → ModelS → Prop} {v1 : Int32} (h1 : v1 = nI i)
    (k5 : p = n + 1 → b = 1 → ∀ M2, Lk i M M2 → PLk c g i M2 5 lastF (on, 3, wants, sndC, rcvC, nSent, nRcvd, lastF, 5, sending, next, wanted, lastR, line, (tk reader b).2) → K 5 M2)
    (k0 : p = n + 1 → ¬ b = 1 → ∀ M2, Lk i M M2 → PLk c g i M2 0 lastF (on, 3, wants, sndC, rcvC, nSent, nRcvd, lastF, 0, sending, next + 1, wanted, lastR, line, (tk reader b).2) → K 0 M2)
    (ke : ¬ p = n + 1 → b = line.1 p → ∀ M2, Lk i M M2 → PLk c g i M2 0 lastF (on, 3, wants, sndC, rcvC, nSent, nRcvd, lastF, 0, sending, next + 1, wanted, lastR, line, (tk reader b).2) → K 0 M2)
    (kl : ¬ p = n + 1 → ¬ b = line.1 p → ¬ (line.1 p = 0 ∨ line.2.1 p = -1 ∨ (line.2.2.2.1 - 1) - line.2.1 p ≤ 2) → ∀ M2, Lk i M M2 → PLk c g i M2 0 lastF (on, 2, wants, sndC, rcvC, nSent, nRcvd, lastF, (tk reader b).1, sending, next, wanted, lastR, line, (tk reader b).2) → K 0 M2)
    (k4 : ¬ p = n + 1 → ¬ b = line.1 p → (line.1 p = 0 ∨ line.2.1 p = -1 ∨ (line.2.2.2.1 - 1) - line.2.1 p ≤ 2) → ∀ M2, Lk i M M2 → PLk c g i M2 4 lastF (on, 3, wants, sndC, rcvC, nSent, nRcvd, lastF, 4, sending, next, wanted, lastR, line, (tk reader b).2) → K 4 M2) : (¬ M.2.1 3 i = 0 → wp_X5_sees M v1 b K) ∧ (M.2.1 3 i = 0 → K 0 M) := by
  have h8 := c5.2.1
  obtain ⟨g1, g2, g3, g4, g5⟩ := wln_facts (F := wanted s) (L0 := L0) h8 c9 c10
  rw [← c7] at g1 g2 g3 g4
  have hlen35 := hlen_le (wanted s)
  have hfl := fullB_le (F := wanted s) h8
  -- the place of the next bit, on both sides
  have hplace : ∀ M1, EqN i M M1 → M1.2.1 18 (200 * i + p) = line.1 p ∧ (p = n + 1 → M1.2.1 19 (200 * i + p) = 201) ∧ (¬ p = n + 1 → ¬ M1.2.1 19 (200 * i + p) = 201 ∧ ((line.2.1 p = -1 ∨ (line.2.2.2.1 - 1) - line.2.1 p ≤ 2) ↔ (M1.2.1 19 (200 * i + p) < 0 ∨ ¬ 4 ≤ nI (hlen (wanted s)) - M1.2.1 19 (200 * i + p)))) := by
    intro M1 hE
    obtain ⟨f1, f2, f3, f4, f5⟩ := (hE.finR c8).cells c9 c10
    have hbit := (Snd.bit h8 (hE.finR c8) c9 c10 (show p < n + 10 by omega)).1
    rw [← c7] at hbit
    refine ⟨hbit, fun q => by rw [q]; exact f3, fun q => ?_⟩
    by_cases hpn : p < n
    · rw [(f1 p hpn).2, (g3 p hpn).2, g2]
      rcases Pos_place h8 c9 c10 hpn c17 with e | ⟨k, hk, e⟩
      · rw [e]
        exact ⟨by decide, fun _ => Or.inl (by decide), fun _ => Or.inl rfl⟩
      · rw [e]
        obtain ⟨l1, l2⟩ := lose_iff (hl := hlen (wanted s)) (k := k) (by omega) (by omega) (by omega)
        refine ⟨fun z => ?_, fun z => Or.inr (fun y => ?_), fun z => Or.inr (l1.mpr ?_)⟩
        · rw [lit 201] at z
          have := (nI_eq (by omega) (by omega)).mp z
          omega
        · rcases z with z | z
          · exact nI_m1 (by omega) z
          · have := l1.mp z
            have := l2.mp y
            omega
        · rcases z with z | z
          · exact absurd z (nI_pos (by omega))
          · have : ¬ k + 4 ≤ hlen (wanted s) := fun y => z (l2.mpr y)
            omega
    · rw [f4 p (by omega) q (by omega), (g4 p (by omega) (by omega)).2, g2]
      obtain ⟨l1, -⟩ := lose_iff (hl := hlen (wanted s)) (k := (fullB (wanted s) sz).length) (by omega) (by omega) (by omega)
      obtain ⟨-, l2⟩ := lose_iff (hl := hlen (wanted s)) (k := 200) (by omega) (by omega) (by omega)
      refine ⟨by decide, fun z => Or.inr (fun y => ?_), fun z => Or.inr (l1.mpr (by omega))⟩
      have := l2.mp y
      omega
  -- what the reference does
  have hsees : ∀ M1, EqN i M M1 → ∀ (K : Int32 → ModelS → Prop) (v1 : Int32), v1 = nI i → (p = n + 1 → b = 1 → ∀ M2, Sw i p ρ b M1 M2 → K 5 M2) → (p = n + 1 → ¬ b = 1 → ∀ M2, Sw i p ρ b M1 M2 → K 0 M2) → (¬ p = n + 1 → b = line.1 p → ∀ M2, Sw i p ρ b M1 M2 → K 0 M2) → (¬ p = n + 1 → ¬ b = line.1 p → ¬ (line.1 p = 0 ∨ line.2.1 p = -1 ∨ (line.2.2.2.1 - 1) - line.2.1 p ≤ 2) → ∀ M2, Sw i p ρ b M1 M2 → K 0 (M2.1, va_up M2.2.1 3 (upd (M2.2.1 3) i 2), M2.2.2)) → (¬ p = n + 1 → ¬ b = line.1 p → (line.1 p = 0 ∨ line.2.1 p = -1 ∨ (line.2.2.2.1 - 1) - line.2.1 p ≤ 2) → ∀ M2, Sw i p ρ b M1 M2 → K 4 M2) → (¬ M1.2.1 3 i = 0 → wp_X5_sees M1 v1 b K) ∧ (M1.2.1 3 i = 0 → K 0 M1) := by
    intro M1 hE K v1 h1 k5 k0 ke kl k4
    obtain ⟨a1, a2, a3, a4, a5, a6⟩ := h.eqN hE
    have e3 : M1.2.1 3 i = 3 := by rw [a4, if_neg hon]
    refine ⟨fun _ => ?_, fun q => absurd (e3.symm.trans q) (by decide)⟩
    have hin : vp_in v1 4 := pk_in i 4 hi h1
    have hcl : v1.toNatClampNeg = i := pk_cl i h1
    obtain ⟨p18, pA, pB⟩ := hplace M1 hE
    have e2322 : M1.2.1 23 (4 * i + s) = M1.2.1 22 i := by
      rw [hE.c4 (f := 23) (by unfold sf; omega) (by omega), hE.c1 (f := 22) rfl (by decide) (by decide)]; exact c6
    obtain ⟨w', x1, x2, x3, x4, x5, x6⟩ := a2
    have hww : w' = w := (nI_eq (by omega) (by omega)).mp (x1.symm.trans c1)
    subst hww
    have hsaw : wp_X5_saw M1 v1 b (fun r11 u12 => K r11 (u12.1, u12.2.1, u12.2.2)) := by
      have pP : M1.2.1 19 (200 * i + p) = 201 → p = n + 1 := fun q => Classical.byContradiction (fun z => (pB z).1 q)
      refine wp_saw5 (hl := hlen (wanted s)) (s := s) hi (by omega) (by rw [hE.c1 (f := 21) rfl (by decide) (by decide)]; exact c12) p18 rfl (hE.rowIs c14) c15 (by omega) hb (by omega) e2322 (fun k hk => ?_) ?_ h1 (fun q y => k5 (pP q) y) (fun q y => k0 (pP q) y) (fun q y => ke (fun z => q (pA z)) y) (fun q y y1 y2 y3 => kl (fun z => q (pA z)) y (fun z => ?_)) (fun q y z => k4 (fun z => q (pA z)) y ?_)
      · rw [← e2322]
        exact x6 k s hk (by omega)
      · rw [(x4 s (by omega)).1.1]
        unfold hlen
        by_cases z : (wanted s).1 = 0
        · exact Or.inl ⟨z, if_pos z⟩
        · exact Or.inr ⟨z, if_neg z⟩
      · rcases z with z | z
        · exact y1 z
        · rcases (pB (fun z => q (pA z))).2.mp z with z | z
          · exact y2 z
          · exact z y3
      · rcases z with z | z
        · exact Or.inl z
        · exact Or.inr ((pB (fun z => q (pA z))).2.mpr z)
    obtain ⟨mI, mA, mL⟩ := M1
    dsimp only at e3
    unfold wp_X5_sees
    dsimp only
    rw [hcl, e3]
    exact ⟨hin, fun z => absurd rfl z, fun _ => hsaw⟩
  -- a sender that goes on, or has found a fault
  have stays : ∀ (M1 M2 : ModelS) (fd f nx : Int32), EqN i M M1 → Sw i p ρ b M1 M2 → ((fd = 0 ∧ f = 0 ∧ nx = next + 1 ∧ Pos (fullB (wanted s) sz) L0 n (p + 1) (tk reader b).2 (rtk ρ b).2) ∨ (f = fd ∧ (fd = 4 ∨ fd = 5))) → PLk c g i M2 f lastF (on, 3, wants, sndC, rcvC, nSent, nRcvd, lastF, fd, sending, nx, wanted, lastR, line, (tk reader b).2) := by
    intro M1 M2 fd f nx hE hSw hc
    obtain ⟨a1, a2, a3, a4, a5, a6⟩ := h.eqN hE
    obtain ⟨w1, w2, w3, w4⟩ := hSw
    refine ⟨a1.lk w1, a2.lk w1, ?_, ?_, fun q => absurd q hon, ?_⟩
    · rw [w4 8 (by omega) (by omega)]; exact a3
    · rw [w4 3 (by omega) (by omega)]; exact a4
    · rcases hc with ⟨y1, y2, y3, y4⟩ | ⟨y1, y2⟩
      · refine Or.inl ⟨y1, Or.inr (Or.inr ⟨rfl, y2, w, s, p + 1, n, sz, L0, (rtk ρ b).2, c1, c2, c3, c4, c5, ?_, c7, ?_, c9, c10, by rw [y3, c11, nI_1], w3, by omega, w2, rtk_WF c15 hb, ?_, y4⟩)⟩
        · rw [w4 23 (by omega) (by omega), w4 22 (by omega) (by omega), hE.c4 (f := 23) (by unfold sf; omega) (by omega), hE.c1 (f := 22) rfl (by decide) (by decide)]; exact c6
        · exact (hE.finR c8).same (w4 18 (by omega) (by omega)) (w4 19 (by omega) (by omega)) (w4 20 (by omega) (by omega))
        · have := rtk_t (ρ := ρ) (b := b)
          omega
      · exact Or.inr ⟨y1, Or.inr rfl, y2.elim (fun y => Or.inr (Or.inr (Or.inr (Or.inl y)))) (fun y => Or.inr (Or.inr (Or.inr (Or.inr y))))⟩
  have e01 : ∀ x : Int32, isB x → ¬ x = 0 → x = 1 := fun x hx q => hx.elim (fun y => absurd y q) id
  refine hsees M EqN.rf K v1 h1 (fun q y M2 hSw => k5 q y M2 hSw.1 (stays M M2 5 5 next EqN.rf hSw (Or.inr ⟨rfl, Or.inr rfl⟩))) (fun q y M2 hSw => k0 q y M2 hSw.1 (stays M M2 0 0 (next + 1) EqN.rf hSw (Or.inl ⟨rfl, rfl, rfl, Pos_late (by omega)⟩))) (fun q y M2 hSw => ke q y M2 hSw.1 (stays M M2 0 0 (next + 1) EqN.rf hSw (Or.inl ⟨rfl, rfl, rfl, ?_⟩))) (fun q y hC M2 hSw => ?_) (fun q y z M2 hSw => k4 q y z M2 hSw.1 (stays M M2 4 4 next EqN.rf hSw (Or.inr ⟨rfl, Or.inl rfl⟩)))
  · by_cases hpn : p < n
    · exact Pos_step h8 c9 c10 hpn c15 c17 (by rw [y, (g3 p hpn).1])
    · exact Pos_late (by omega)
  · -- it loses
    have y1 : ¬ line.1 p = 0 := fun z => hC (Or.inl z)
    have y2 : ¬ line.2.1 p = -1 := fun z => hC (Or.inr (Or.inl z))
    have y3 : ¬ (line.2.2.2.1 - 1) - line.2.1 p ≤ 2 := fun z => hC (Or.inr (Or.inr z))
    have hown : isB (line.1 p) := by rw [c7]; exact (Snd.bit h8 c8 c9 c10 (show p < n + 10 by omega)).2
    have hb0 : b = 0 := by
      rcases hb with hb | hb
      · exact hb
      · exact absurd (hb.trans (e01 _ hown y1).symm) y
    have hpn : p < n := by
      refine Classical.byContradiction (fun z => y3 ?_)
      rw [(g4 p (by omega) (by omega)).2, g2]
      exact (lose_iff (by omega) (by omega) (by omega)).1.mpr (by omega)
    have hlo : RD (tk reader b).2 (rtk ρ b).2 ∧ (tk reader b).1 = 0 ∧ (rtk ρ b).2.2.2.2.2.2 = 0 := by
      rw [hb0]
      rcases Pos_place h8 c9 c10 hpn c17 with e | ⟨k, hk, e⟩
      · rw [(g3 p hpn).2] at y2
        exact absurd e y2
      · refine Pos_lose h8 c9 c10 hpn c15 c17 (k := k) ?_ e
        rw [(g3 p hpn).2, g2, e] at y3
        have : ¬ hlen (wanted s) < k + 4 := fun z => y3 ((lose_iff (hl := hlen (wanted s)) (k := k) (by omega) (by omega) (by omega)).1.mpr z)
        omega
    obtain ⟨a1, a2, a3, a4, a5, a6⟩ := h
    obtain ⟨w1, w2, w3, w4⟩ := hSw
    obtain ⟨mI, mA, mL⟩ := M2
    have l2 : Lk i (mI, mA, mL) (mI, va_up mA 3 (upd (mA 3) i 2), mL) := Lk.one (by unfold T0; omega) rfl (by decide)
    have lk := w1.tr l2
    refine kl q y hC _ lk ⟨a1.lk lk, a2.lk lk, ?_, ?_, fun q => absurd q hon, Or.inl ⟨hlo.2.1, Or.inr (Or.inl ⟨rfl, Or.inl ⟨rfl, (rtk ρ b).2, w2, rtk_WF c15 hb, hlo.1, by rw [hlo.2.2]; omega⟩⟩)⟩⟩
    · have := w4 8 (by omega) (by omega)
      show lastF = mA 8 i
      rw [show mA 8 = M.2.1 8 from this]; exact a3
    · rw [if_neg hon]
      exact pk_us
set_option maxHeartbeats 2000000 in
theorem look_3 {c g i : Nat} (hi : i < 4) {M : ModelS} {on wants sndC rcvC nSent nRcvd lastF found sending next : Int32} {wanted : Nat → FrameS} {lastR : FrameS} {line : LineS} {reader : ReaderS} {b : Int32} (hb : isB b) (h : ND c g i M (on, 3, wants, sndC, rcvC, nSent, nRcvd, lastF, found, sending, next, wanted, lastR, line, reader)) : ∃ N1, LookC c g i b (on, 3, wants, sndC, rcvC, nSent, nRcvd, lastF, found, sending, next, wanted, lastR, line, reader) N1 := by
  have hon : ¬ on = 0 := fun q => absurd (h.2.2.2.2.1 q) (by decide)
  have getS : ∀ M1, ND c g i M1 (on, 3, wants, sndC, rcvC, nSent, nRcvd, lastF, found, sending, next, wanted, lastR, line, reader) → Snd 1 i M1 wants sending next wanted line reader := by
    intro M1 h1
    rcases h1.2.2.2.2.2 with q | ⟨q, -⟩ | ⟨-, q⟩
    · exact absurd q (by decide)
    · exact absurd q (by decide)
    · exact q
  obtain ⟨w, s, p, n, sz, L0, ρ, c1, c2, c3, c4, c5, c6, c7, c8, c9, c10, c11, c12, c13, c14, c15, c16, c17⟩ := getS M h
  obtain ⟨g1, g2, g3, g4, g5⟩ := wln_facts (F := wanted s) (L0 := L0) c5.2.1 c9 c10
  rw [← c7] at g1 g2 g3 g4
  have hz : n < p → ¬ next = 0 := fun q z => by
    have : p = 0 := (nI_eq (a := p) (b := 0) (by omega) (by omega)).mp (c11.symm.trans z)
    omega
  have hnx1 : next = 0 → next + 1 = 1 := fun z => by rw [z]; decide
  -- the reference, at any state that goes with the node
  have mod : ∀ M1, ND c g i M1 (on, 3, wants, sndC, rcvC, nSent, nRcvd, lastF, found, sending, next, wanted, lastR, line, reader) → ∀ (K : Int32 → ModelS → Prop) (v1 : Int32), v1 = nI i → (p = n + 1 → b = 1 → ∀ M2, Lk i M1 M2 → PLk c g i M2 5 lastF (on, 3, wants, sndC, rcvC, nSent, nRcvd, lastF, 5, sending, next, wanted, lastR, line, (tk reader b).2) → K 5 M2) → (p = n + 1 → ¬ b = 1 → ∀ M2, Lk i M1 M2 → PLk c g i M2 0 lastF (on, 3, wants, sndC, rcvC, nSent, nRcvd, lastF, 0, sending, next + 1, wanted, lastR, line, (tk reader b).2) → K 0 M2) → (¬ p = n + 1 → b = line.1 p → ∀ M2, Lk i M1 M2 → PLk c g i M2 0 lastF (on, 3, wants, sndC, rcvC, nSent, nRcvd, lastF, 0, sending, next + 1, wanted, lastR, line, (tk reader b).2) → K 0 M2) → (¬ p = n + 1 → ¬ b = line.1 p → ¬ (line.1 p = 0 ∨ line.2.1 p = -1 ∨ (line.2.2.2.1 - 1) - line.2.1 p ≤ 2) → ∀ M2, Lk i M1 M2 → PLk c g i M2 0 lastF (on, 2, wants, sndC, rcvC, nSent, nRcvd, lastF, (tk reader b).1, sending, next, wanted, lastR, line, (tk reader b).2) → K 0 M2) → (¬ p = n + 1 → ¬ b = line.1 p → (line.1 p = 0 ∨ line.2.1 p = -1 ∨ (line.2.2.2.1 - 1) - line.2.1 p ≤ 2) → ∀ M2, Lk i M1 M2 → PLk c g i M2 4 lastF (on, 3, wants, sndC, rcvC, nSent, nRcvd, lastF, 4, sending, next, wanted, lastR, line, (tk reader b).2) → K 4 M2) → (¬ M1.2.1 3 i = 0 → wp_X5_sees M1 v1 b K) ∧ (M1.2.1 3 i = 0 → K 0 M1) := by
    intro M1 hM1 K v1 h1 k5 k0 ke kl k4
    obtain ⟨w', s', p', n', sz', L0', ρ', d1, d2, d3, d4, d5, d6, d7, d8, d9, d10, d11, d12, d13, d14, d15, d16, d17⟩ := getS M1 hM1
    have hpp : p' = p := (nI_eq (by omega) (by omega)).mp (d11.symm.trans c11)
    have hl' := (wln_facts (F := wanted s') (L0 := L0') d5.2.1 d9 d10).1
    rw [← d7] at hl'
    have hnn : n' = n := by
      have := (nI_eq (by omega) (by omega)).mp (hl'.symm.trans g1)
      omega
    subst hpp
    subst hnn
    exact look_3m hi hb hM1 hon d1 d2 d3 d4 d5 d6 d7 d8 d9 d10 d11 d12 d13 d14 d15 d16 d17 h1 k5 k0 ke kl k4
  by_cases hA : p = n + 1
  · by_cases hb1 : b = 1
    · refine ⟨(on, 3, wants, sndC, rcvC, nSent, nRcvd, lastF, 5, sending, next, wanted, lastR, line, (tk reader b).2), fun K hK => ?_, fun _ q => absurd (show (5 : Int32) = 0 from q) (by decide), fun _ _ _ => rfl, fun M1 hM1 K hK v1 h1 => ?_⟩
      · exact look3 hon (las g1 c10 (by omega) c11 (fun _ _ => look62_3 hK) (fun _ q => absurd hb1 q) (fun q => absurd hA q) (fun q => absurd hA q) (fun q => absurd hA q))
      · exact mod M1 hM1 K v1 h1 (fun _ _ M2 l k => hK 5 M2 l k) (fun _ q => absurd hb1 q) (fun q => absurd hA q) (fun q => absurd hA q) (fun q => absurd hA q)
    · refine ⟨(on, 3, wants, sndC, rcvC, nSent, nRcvd, lastF, 0, sending, next + 1, wanted, lastR, line, (tk reader b).2), fun K hK => ?_, fun q _ => ?_, fun _ _ _ => rfl, fun M1 hM1 K hK v1 h1 => ?_⟩
      · exact look3 hon (las g1 c10 (by omega) c11 (fun _ q => absurd q hb1) (fun _ _ => look62_3 hK) (fun q => absurd hA q) (fun q => absurd hA q) (fun q => absurd hA q))
      · rcases q with q | q
        · exact absurd (show (3 : Int32) = 1 from q) (by decide)
        · exact absurd q.2 (hz (by omega))
      · exact mod M1 hM1 K v1 h1 (fun _ q => absurd q hb1) (fun _ _ M2 l k => hK 0 M2 l k) (fun q => absurd hA q) (fun q => absurd hA q) (fun q => absurd hA q)
  · by_cases hB : b = line.1 p
    · refine ⟨(on, 3, wants, sndC, rcvC, nSent, nRcvd, lastF, 0, sending, next + 1, wanted, lastR, line, (tk reader b).2), fun K hK => ?_, fun q _ => ?_, fun _ _ _ => rfl, fun M1 hM1 K hK v1 h1 => ?_⟩
      · exact look3 hon (las g1 c10 (by omega) c11 (fun q => absurd q hA) (fun q => absurd q hA) (fun _ _ => look62_3 hK) (fun _ q => absurd hB q) (fun _ q => absurd hB q))
      · rcases q with q | q
        · exact absurd (show (3 : Int32) = 1 from q) (by decide)
        · exact Or.inr (Or.inr ⟨rfl, hnx1 q.2, rfl⟩)
      · exact mod M1 hM1 K v1 h1 (fun q => absurd q hA) (fun q => absurd q hA) (fun _ _ M2 l k => hK 0 M2 l k) (fun _ q => absurd hB q) (fun _ q => absurd hB q)
    · by_cases hC : line.1 p = 0 ∨ line.2.1 p = -1 ∨ (line.2.2.2.1 - 1) - line.2.1 p ≤ 2
      · refine ⟨(on, 3, wants, sndC, rcvC, nSent, nRcvd, lastF, 4, sending, next, wanted, lastR, line, (tk reader b).2), fun K hK => ?_, fun _ q => absurd (show (4 : Int32) = 0 from q) (by decide), fun _ _ _ => rfl, fun M1 hM1 K hK v1 h1 => ?_⟩
        · exact look3 hon (las g1 c10 (by omega) c11 (fun q => absurd q hA) (fun q => absurd q hA) (fun _ q => absurd q hB) (fun _ _ y1 y2 y3 => absurd hC (fun z => z.elim y1 (fun z => z.elim y2 y3))) (fun _ _ _ => look62_3 hK))
        · exact mod M1 hM1 K v1 h1 (fun q => absurd q hA) (fun q => absurd q hA) (fun _ q => absurd q hB) (fun _ _ q => absurd hC q) (fun _ _ _ M2 l k => hK 4 M2 l k)
      · have hp0 : ¬ next = 0 := by
          intro z
          have hp0 : p = 0 := (nI_eq (a := p) (b := 0) (by omega) (by omega)).mp (c11.symm.trans z)
          subst hp0
          obtain ⟨z1, z2⟩ := xb_0 (F := wanted s) (L0 := L0) c5.2.1 c9 c10
          exact hC (Or.inl (by rw [(g3 0 z1).1]; exact z2))
        refine ⟨(on, 2, wants, sndC, rcvC, nSent, nRcvd, lastF, (tk reader b).1, sending, next, wanted, lastR, line, (tk reader b).2), fun K hK => ?_, fun q _ => ?_, fun _ q => absurd q hp0, fun M1 hM1 K hK v1 h1 => ?_⟩
        · exact look3 hon (las g1 c10 (by omega) c11 (fun q => absurd q hA) (fun q => absurd q hA) (fun _ q => absurd q hB) (fun _ _ _ _ _ => look62_2 hK) (fun _ _ q => absurd q hC))
        · rcases q with q | q
          · exact absurd (show (3 : Int32) = 1 from q) (by decide)
          · exact absurd q.2 hp0
        · exact mod M1 hM1 K v1 h1 (fun q => absurd q hA) (fun q => absurd q hA) (fun _ q => absurd q hB) (fun _ _ _ M2 l k => hK 0 M2 l k) (fun _ _ q => absurd q hC)
theorem look_core {c g i : Nat} (hi : i < 4) {M : ModelS} {N : NodeS} {b : Int32} (hb : isB b) (h : ND c g i M N) : ∃ N1, LookC c g i b N N1 := by
  obtain ⟨on, role, wants, sndC, rcvC, nSent, nRcvd, lastF, found, sending, next, wanted, lastR, line, reader⟩ := N
  rcases h.2.2.2.2.2 with q | ⟨q, -⟩ | ⟨q, -⟩
  · subst q; exact look_1 hi hb h
  · subst q; exact look_2 hi hb h
  · subst q; exact look_3 hi hb h
