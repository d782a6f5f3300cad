/-! a sender's frame is sent -/
section ES
variable {on role wants sndC rcvC nSent nRcvd lastF found sending next : Int32} {wanted : Nat → FrameS} {lastR : FrameS} {line : LineS} {reader : ReaderS}
/-- the wants behind one that went -/
theorem NWt.fgt {g i s w : Nat} {M M2 : ModelS} {W W1 : Nat → FrameS} (hw : M.2.1 9 i = nI w) (h4 : w ≤ 4) (hs : s < w) (hWn : Wn i M W w) (h5 : ∀ k, k < w → ∃ v, v < g ∧ M.2.1 23 (4 * i + k) = nI v) (h6 : ∀ j k, j < k → k < w → ¬ M.2.1 23 (4 * i + j) = M.2.1 23 (4 * i + k)) (hW1 : ∀ k, k < w - 1 → W1 k = if k < s then W k else W (k + 1)) (h9 : M2.2.1 9 i = nI (w - 1)) (hsf : ∀ f, sf f → ∀ q, M2.2.1 f q = if 4 * i + s ≤ q ∧ q < 4 * i + (w - 1) then M.2.1 f (q + 1) else M.2.1 f q) (h12 : ∀ q, M2.2.2 12 q = if 4 * i + s ≤ q ∧ q < 4 * i + (w - 1) then M.2.2 12 (q + 1) else M.2.2 12 q) : NWt g i M2 (nI (w - 1)) W1 := by
  have cell : ∀ f, sf f → ∀ k, k < w - 1 → M2.2.1 f (4 * i + k) = M.2.1 f (4 * i + (if k < s then k else k + 1)) := by
    intro f hf k hk
    rw [hsf f hf]
    by_cases c : k < s
    · rw [if_neg (by omega), if_pos c]
    · rw [if_pos (by omega), if_neg c, Nat.add_assoc]
  have cellL : ∀ k, k < w - 1 → M2.2.2 12 (4 * i + k) = M.2.2 12 (4 * i + (if k < s then k else k + 1)) := by
    intro k hk
    rw [h12]
    by_cases c : k < s
    · rw [if_neg (by omega), if_pos c]
    · rw [if_pos (by omega), if_neg c, Nat.add_assoc]
  have hW2 : ∀ k, k < w - 1 → W1 k = W (if k < s then k else k + 1) := by
    intro k hk
    rw [hW1 k hk]
    split <;> rfl
  have hlt : ∀ k, k < w - 1 → (if k < s then k else k + 1) < w := by
    intro k hk
    split <;> omega
  refine ⟨w - 1, rfl, h9, by omega, fun k hk => ?_, fun k hk => ?_, fun j k hjk hk => ?_⟩
  · rw [hW2 k hk]
    refine ⟨?_, (hWn _ (hlt k hk)).2⟩
    have := (hWn _ (hlt k hk)).1
    unfold FrM at this ⊢
    rw [cell 10 (by unfold sf; omega) k hk, cell 11 (by unfold sf; omega) k hk, cell 13 (by unfold sf; omega) k hk, cellL k hk]
    exact this
  · rw [cell 23 (by unfold sf; omega) k hk]
    exact h5 _ (hlt k hk)
  · rw [cell 23 (by unfold sf; omega) k hk, cell 23 (by unfold sf; omega) j (by omega)]
    refine h6 _ _ ?_ (hlt k hk)
    split <;> split <;> omega
set_option maxHeartbeats 1000000 in
theorem end_sent {c g i : Nat} (hi : i < 4) {M : ModelS} {f : Int32} (h : PLk c g i M f lastF (on, 3, wants, sndC, rcvC, nSent, nRcvd, lastF, found, sending, next, wanted, lastR, line, reader)) (hf0 : found = 0) (hon : ¬ on = 0) {w s n sz : Nat} {L0 : LineS} (c1 : wants = nI w) (c2 : w ≤ 4) (c3 : sending = nI s) (c4 : s < w) (c5 : okF (wanted s) sz) (c7 : line = wln L0 (wanted s) sz) (c9 : (xb L0 (wanted s) sz).2.2.1 = nI n) (c10 : n ≤ 147) (c11 : next = nI (n + 10)) : ∃ N1, EndC c g i (on, 3, wants, sndC, rcvC, nSent, nRcvd, lastF, found, sending, next, wanted, lastR, line, reader) N1 := by
  obtain ⟨g1, g2, g3, g4, g5⟩ := wln_facts (F := wanted s) (L0 := L0) c5.2.1 c9 c10
  rw [← c7] at g1
  obtain ⟨a1, a2, a3, a4, a5, a6⟩ := h
  obtain ⟨n1, n2, n3, n4, n5, n6, ⟨a, m1, m2, m3⟩, b0, n10, n11⟩ := a1
  have hde := dec_eq (a := a) (by omega)
  obtain ⟨W1, hW1, hcl⟩ := wp_rem2 (on := on) (role := 1) (wants := wants) (sndC := nI (a - 1)) (rcvC := rcvC) (nSent := nSent + 1) (nRcvd := nRcvd) (lastF := lastF) (found := found) (sending := sending) (next := next) (wanted := wanted) (lastR := lastR) (line := line) (reader := reader) c1 c2 c4 c3
  refine ⟨(on, 1, nI (w - 1), nI (a - 1), rcvC, nSent + 1, nRcvd, lastF, found, sending, next, W1, lastR, line, reader), fun K hK => ?_, fun q => absurd (show (3 : Int32) = 1 from q) (by decide), fun q => absurd (show (3 : Int32) = 2 from q) (by decide), fun _ q => ?_, fun M1 f1 hM1 KK cb v2 hcb hKK v hv => ?_⟩
  · unfold wp_X2_endFrame
    refine ⟨fun q => absurd rfl q, fun _ => ⟨fun q => ?_, fun _ => ?_⟩⟩
    · rw [c11, g1] at q
      exact absurd q (nI_nlt (Nat.le_refl _) (by omega))
    · unfold wp_X2_endSending
      intro x ex
      rw [m1, hde.1] at ex
      rw [ex]
      exact hcl K hK
  · have q : next = 1 := q
    rw [c11, lit 1] at q
    have := (nI_eq (by omega) (by omega)).mp q
    omega
  · obtain ⟨b1, b2, b3, b4, b5, b6⟩ := hM1
    have hcv : v.toNatClampNeg = i := pk_cl i hv
    have hin : vp_in v 4 := pk_in i 4 hi hv
    have e3 : M1.2.1 3 i = 3 := by rw [b4, if_neg hon]
    have hS : Snd 0 i M1 wants sending next wanted line reader := by
      rcases b6 with ⟨-, ⟨y, -⟩ | ⟨y, -⟩ | ⟨-, -, y⟩⟩ | ⟨-, -, y⟩
      · exact absurd y (by decide)
      · exact absurd y (by decide)
      · exact y
      · rw [hf0] at y
        exact absurd y (by decide)
    obtain ⟨w2, s2, p2, n2, sz2, L2, ρ2, d1, d2, d3, d4, d5, d6, d7, d8, d9, d10, d11, d12, d13, -⟩ := hS
    have hl2 := (wln_facts (F := wanted s2) (L0 := L2) d5.2.1 d9 d10).1
    rw [← d7] at hl2
    have hn2 : n2 + 10 = n + 10 := (nI_eq (by omega) (by omega)).mp (hl2.symm.trans g1)
    have hp2 : p2 = n + 10 := (nI_eq (by omega) (by omega)).mp (d11.symm.trans c11)
    have hs2 : s2 = s := (nI_eq (by omega) (by omega)).mp (d3.symm.trans c3)
    subst hs2
    have e2120 : M1.2.1 21 i = M1.2.1 20 i := by
      rw [(d8.cells d9 d10).2.2.2.2, d12, hp2, hn2]
    have e2322 : M1.2.1 23 (4 * i + s2) = M1.2.1 22 i := d6
    obtain ⟨w', x1, x2, x3, x4, x5, x6⟩ := b2
    have hww : w' = w := (nI_eq (by omega) (by omega)).mp (x1.symm.trans c1)
    subst hww
    refine ⟨fun q => absurd e3 q, fun _ => ⟨fun q => absurd e2120 q, fun _ => ?_⟩⟩
    refine wp_forget5 hi x2 x3 c4 e2322 (fun k hk => ?_) (fun k hk => ?_) hv (fun M2 hSh => ?_)
    · rw [← e2322]
      exact x6 k s2 hk c4
    · obtain ⟨sz', o⟩ := (x4 k hk).2
      rw [(x4 k hk).1.1]
      exact okF_bz o
    · have l1 : Loc5 i M1 (M1.1, va_up M1.2.1 9 (upd (M1.2.1 9) i (nI (w' - 1))), M1.2.2) := Loc5.c5 M1 rfl (by decide)
      have l2 := l1.tr (Loc5.sh c4 c2 hSh)
      obtain ⟨t1, t2, t3, t4, t5⟩ := hSh
      have k9 : M2.2.1 9 i = nI (w' - 1) := by
        rw [t3 9 (by unfold sf; omega)]
        exact pk_us
      have hrow : ∀ x, ¬ sf x → x ≠ 9 → M2.2.1 x = M1.2.1 x := fun x h1 h2 => (t3 x h1).trans (up_n h2)
      have k4 : M2.2.1 4 i = nI a := by
        rw [hrow 4 (by unfold sf; omega) (by decide), ← b1.2.1, m1]
      -- what stands when all is written
      have fin : fn75 i v cb KK v2 (M2.1, va_up M2.2.1 6 (upd (M2.2.1 6) i (M2.2.1 6 i + 1)), M2.2.2) (nI (a - 1)) := by
        refine ⟨hin, ?_⟩
        rw [hcv]
        have l3 : Loc5 i M2 (M2.1, va_up M2.2.1 6 (upd (M2.2.1 6) i (M2.2.1 6 i + 1)), M2.2.2) := Loc5.c5 M2 rfl (by decide)
        have l4 : Loc5 i (M2.1, va_up M2.2.1 6 (upd (M2.2.1 6) i (M2.2.1 6 i + 1)), M2.2.2) (M2.1, va_up (va_up M2.2.1 6 (upd (M2.2.1 6) i (M2.2.1 6 i + 1))) 4 (upd (M2.2.1 4) i (nI (a - 1))), M2.2.2) := Loc5.one (f0 := 4) rfl (by decide)
        have l5 : Loc5 i (M2.1, va_up (va_up M2.2.1 6 (upd (M2.2.1 6) i (M2.2.1 6 i + 1))) 4 (upd (M2.2.1 4) i (nI (a - 1))), M2.2.2) (M2.1, va_up (va_up (va_up M2.2.1 6 (upd (M2.2.1 6) i (M2.2.1 6 i + 1))) 4 (upd (M2.2.1 4) i (nI (a - 1)))) 3 (upd (M2.2.1 3) i 1), M2.2.2) := Loc5.one (f0 := 3) rfl (by decide)
        have lall := ((l2.tr l3).tr l4).tr l5
        have k3 : (va_up (va_up (va_up M2.2.1 6 (upd (M2.2.1 6) i (M2.2.1 6 i + 1))) 4 (upd (M2.2.1 4) i (nI (a - 1)))) 3 (upd (M2.2.1 3) i 1)) 3 i = 1 := pk_us
        have k107 : fn107 i KK v2 (M2.1, va_up (va_up (va_up M2.2.1 6 (upd (M2.2.1 6) i (M2.2.1 6 i + 1))) 4 (upd (M2.2.1 4) i (nI (a - 1)))) 3 (upd (M2.2.1 3) i 1), M2.2.2) := by
          refine fn107_of (on := on) (role := 1) (by rw [if_neg hon]; exact k3) (fun _ => rfl) (Or.inl rfl) (hKK _ lall ⟨⟨n1, pk_us.symm, ?_, ?_, ?_, ?_, ⟨a - 1, rfl, by omega, fun z => ?_⟩, b0, n10, n11⟩, ?_, ?_, by rw [if_neg hon]; exact k3, fun _ => rfl, Or.inl rfl⟩)
          · show rcvC = M2.2.1 5 i
            rw [hrow 5 (by unfold sf; omega) (by decide)]; exact b1.2.2.1
          · show nSent + 1 = upd (M2.2.1 6) i (M2.2.1 6 i + 1) i
            rw [pk_us, hrow 6 (by unfold sf; omega) (by decide), ← b1.2.2.2.1]
          · show nRcvd = M2.2.1 7 i
            rw [hrow 7 (by unfold sf; omega) (by decide)]; exact b1.2.2.2.2.1
          · show lastR = (M2.2.1 14 i, M2.2.1 15 i, M2.2.2 16 i, M2.2.1 17 i)
            rw [hrow 14 (by unfold sf; omega) (by decide), hrow 15 (by unfold sf; omega) (by decide), hrow 17 (by unfold sf; omega) (by decide), t5 16 (by decide)]; exact b1.2.2.2.2.2.1
          · have := m3 z
            omega
          · refine NWt.fgt (M := M1) x2 x3 c4 x4 x5 x6 hW1 k9 (fun x hx q => ?_) t4
            have hx' : x = 10 ∨ x = 11 ∨ x = 13 ∨ x = 23 := hx
            have z := t2 x hx q
            dsimp only at z ⊢
            rw [up_n (show x ≠ 9 by omega)] at z
            rw [up_n (show x ≠ 3 by omega), up_n (show x ≠ 4 by omega), up_n (show x ≠ 6 by omega)]
            exact z
          · show lastF = M2.2.1 8 i
            rw [hrow 8 (by unfold sf; omega) (by decide)]; exact b3
        exact ⟨fun _ => k107, fun q => absurd (k3.symm.trans q) (by decide)⟩
      rw [k4]
      refine ⟨fun q => ?_, fun q => ?_⟩
      · have ha : a = 0 := by
          refine Classical.byContradiction (fun z => ?_)
          exact nI_nle (show 0 < a by omega) (by omega) q
        subst ha
        exact fin
      · have e : nI a - 1 = nI (a - 1) := by
          have ha : a ≠ 0 := fun z => q (by rw [z]; decide)
          rw [lit 1, pk_sub (by omega)]
        rw [e]
        exact fin
end ES
theorem wp_isFin {K : Int32 → Prop} {R : ReaderS} (h1 : R.2.1 = 10 → K 1) (h0 : ¬ R.2.1 = 10 → K 0) : wp_X3_isFinished R K := by
  obtain ⟨taken, tail, alike, last, check, chkTaken, sizePl, chkPl, fr⟩ := R
  exact ⟨h0, h1⟩
set_option maxHeartbeats 1000000 in
theorem end_core {c g i : Nat} (hi : i < 4) (hc : c < 2 ^ 30) {M : ModelS} {N : NodeS} {f : Int32} (h : PLk c g i M f (nLast N) N) (hf0 : nFound N = 0) : ∃ N1, EndC c g i N N1 := by
  obtain ⟨on, role, wants, sndC, rcvC, nSent, nRcvd, lastF, found, sending, next, wanted, lastR, line, reader⟩ := N
  have hPL := h
  have hf0 : found = 0 := hf0
  have split6 : ∀ M1 f1, PLk c g i M1 f1 lastF (on, role, wants, sndC, rcvC, nSent, nRcvd, lastF, found, sending, next, wanted, lastR, line, reader) → (role = 1 ∧ f1 = 0) ∨ (role = 2 ∧ ((f1 = 0 ∧ Rdr i M1 reader) ∨ (f1 = 9 ∧ Rdr9 i M1 reader))) ∨ (role = 3 ∧ f1 = 0 ∧ Snd 0 i M1 wants sending next wanted line reader) := by
    intro M1 f1 hM1
    rcases hM1.2.2.2.2.2 with ⟨-, q⟩ | ⟨-, -, q⟩
    · exact q
    · rw [hf0] at q
      exact absurd q (by decide)
  obtain ⟨a1, a2, a3, a4, a5, -⟩ := h
  rcases split6 M f hPL with ⟨q, q0⟩ | ⟨q, ⟨q0, hR⟩ | ⟨q9, hR⟩⟩ | ⟨q, q0, hS⟩
  · subst q
    refine ⟨_, end_stay hi (fun K hK => ?_) (fun M1 f1 hM1 => ⟨⟨hM1.1, hM1.2.1, hM1.2.2.1, hM1.2.2.2.1, hM1.2.2.2.2.1, Or.inl rfl⟩, fun z => absurd z (by decide), fun z => absurd z (by decide)⟩)⟩
    unfold wp_X2_endFrame wp_X2_endFrame_29
    exact ⟨fun _ => ⟨fun _ => hK, fun z => absurd z (by decide)⟩, fun z => absurd z (by decide)⟩
  · subst q
    obtain ⟨ρ, r1, r2, r3, r4⟩ := hR
    refine ⟨_, end_stay hi (fun K hK => ?_) (fun M1 f1 hM1 => ?_)⟩
    · unfold wp_X2_endFrame wp_X2_endFrame_29
      exact ⟨fun _ => ⟨fun z => absurd rfl z, fun _ => wp_isFin (fun z => absurd z (r3.tail r4)) (fun _ => ⟨fun _ => hK, fun z => absurd rfl z⟩)⟩, fun z => absurd z (by decide)⟩
    · rcases split6 M1 f1 hM1 with ⟨y, -⟩ | ⟨-, ⟨y0, hR1⟩ | ⟨y9, hR1⟩⟩ | ⟨y, -⟩
      · exact absurd y (by decide)
      · exact ⟨⟨hM1.1, hM1.2.1, hM1.2.2.1, hM1.2.2.2.1, hM1.2.2.2.2.1, Or.inr (Or.inl ⟨rfl, hR1⟩)⟩, fun _ z => absurd (y0.symm.trans z) (by decide), fun z => absurd z (by decide)⟩
      · exact absurd hR1.choose_spec.2.2.2.2 (r3.tail r4)
      · exact absurd y (by decide)
  · subst q
    exact end_read hi hc hPL hf0 (fun z => absurd (a5 z) (by decide)) hR
  · subst q
    have hon : ¬ on = 0 := fun z => absurd (a5 z) (by decide)
    obtain ⟨w, s, p, n, sz, L0, ρ, c1, c2, c3, c4, c5, c6, c7, c8, c9, c10, c11, c12, c13, c14, c15, c16, c17⟩ := hS
    obtain ⟨g1, g2, g3, g4, g5⟩ := wln_facts (F := wanted s) (L0 := L0) c5.2.1 c9 c10
    rw [← c7] at g1
    by_cases hp : p = n + 10
    · subst hp
      exact end_sent hi hPL hf0 hon c1 c2 c3 c4 c5 c7 c9 c10 c11
    · refine ⟨_, end_stay hi (fun K hK => ?_) (fun M1 f1 hM1 => ?_)⟩
      · unfold wp_X2_endFrame wp_X2_endFrame_29
        refine ⟨fun z => absurd rfl z, fun _ => ⟨fun _ => ⟨fun _ => hK, fun z => absurd z (by decide)⟩, fun z => ?_⟩⟩
        rw [c11, g1] at z
        exact absurd (nI_lt (by omega) (by omega)) z
      · rcases split6 M1 f1 hM1 with ⟨y, -⟩ | ⟨y, -⟩ | ⟨-, y0, hS1⟩
        · exact absurd y (by decide)
        · exact absurd y (by decide)
        · obtain ⟨w2, s2, p2, n2, sz2, L2, ρ2, d1, d2, d3, d4, d5, d6, d7, d8, d9, d10, d11, d12, d13, d14, d15, d16, d17⟩ := hS1
          have hl2 := (wln_facts (F := wanted s2) (L0 := L2) d5.2.1 d9 d10).1
          rw [← d7] at hl2
          have hn2 : n2 + 10 = n + 10 := (nI_eq (by omega) (by omega)).mp (hl2.symm.trans g1)
          have hp2 : p2 = p := (nI_eq (by omega) (by omega)).mp (d11.symm.trans c11)
          refine ⟨⟨hM1.1, hM1.2.1, hM1.2.2.1, hM1.2.2.2.1, hM1.2.2.2.2.1, Or.inr (Or.inr ⟨rfl, w2, s2, p2, n2, sz2, L2, ρ2, d1, d2, d3, d4, d5, d6, d7, d8, d9, d10, d11, d12, by omega, d14, d15, d16, d17⟩)⟩, fun z => absurd z (by decide), fun _ z => ?_⟩
          rw [(d8.cells d9 d10).2.2.2.2, d12] at z
          have := (nI_eq (by omega) (by omega)).mp z
          omega
