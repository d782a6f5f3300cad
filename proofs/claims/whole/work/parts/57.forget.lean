/-! the frame that was sent goes -/
theorem sent4 (K : Int32 → Prop) (M : ModelS) (i s : Nat) (hi : i < 4) (hs : s < 4) (he : M.2.1 23 (4 * i + s) = M.2.1 22 i) (hn : ∀ k, k < s → ¬ M.2.1 23 (4 * i + k) = M.2.1 22 i) (h : K (nI (4 * i + s))) : ∀ (m j fuel : Nat) (v1 v2 : Int32), j + m = s → m < fuel → v1 = nI i → v2 = nI (4 * i + j) → wp_X5_sentOne_4 K fuel M v1 v2 := by
  intro m
  induction m with
  | zero =>
    intro j fuel v1 v2 hj hf h1 h2
    cases fuel with
    | zero => omega
    | succ f =>
      have c1 : v1.toNatClampNeg = i := pk_cl i h1
      have c2 : v2.toNatClampNeg = 4 * i + j := pk_cl (4 * i + j) h2
      obtain rfl : j = s := by omega
      obtain ⟨mI, mA, mL⟩ := M
      unfold wp_X5_sentOne_4
      rw [c1, c2]
      refine ⟨pk_in (4 * i + j) 16 (by omega) h2, pk_in i 4 hi h1, fun _ => ?_, fun q => absurd he q⟩
      rw [h2]
      exact h
  | succ m ih =>
    intro j fuel v1 v2 hj hf h1 h2
    cases fuel with
    | zero => omega
    | succ f =>
      have c1 : v1.toNatClampNeg = i := pk_cl i h1
      have c2 : v2.toNatClampNeg = 4 * i + j := pk_cl (4 * i + j) h2
      have h3 := ih (j + 1) f v1 (v2 + 1) (by omega) (by omega) h1 (by rw [h2, nI_1, Nat.add_assoc])
      have hne := hn j (by omega)
      obtain ⟨mI, mA, mL⟩ := M
      unfold wp_X5_sentOne_4
      rw [c1, c2]
      refine ⟨pk_in (4 * i + j) 16 (by omega) h2, pk_in i 4 hi h1, fun q => absurd q hne, fun _ n5 e5 => ?_⟩
      rw [e5]
      exact h3
theorem wp_sent5 {K : Int32 → Prop} {M : ModelS} {i s : Nat} (hi : i < 4) (hs : s < 4) (he : M.2.1 23 (4 * i + s) = M.2.1 22 i) (hn : ∀ k, k < s → ¬ M.2.1 23 (4 * i + k) = M.2.1 22 i) {v1 : Int32} (h1 : v1 = nI i) (h : K (nI (4 * i + s))) : wp_X5_sentOne M v1 K := by
  have := sent4 K M i s hi hs he hn h s 0 1000 v1 (4 * v1) (by omega) (by omega) h1 (by rw [h1, lit 4, pk_mul, Nat.add_zero])
  obtain ⟨mI, mA, mL⟩ := M
  unfold wp_X5_sentOne
  intro n1 e1
  rw [e1]
  exact this
def sf (f : Nat) : Prop := f = 10 ∨ f = 11 ∨ f = 13 ∨ f = 23
/-- the places from a on below e take what stood one behind them -/
def Sh (a e : Nat) (M M1 : ModelS) : Prop := M1.1 = M.1 ∧ (∀ f, sf f → ∀ q, M1.2.1 f q = if a ≤ q ∧ q < e then M.2.1 f (q + 1) else M.2.1 f q) ∧ (∀ f, ¬ sf f → M1.2.1 f = M.2.1 f) ∧ (∀ q, M1.2.2 12 q = if a ≤ q ∧ q < e then M.2.2 12 (q + 1) else M.2.2 12 q) ∧ ∀ f, f ≠ 12 → M1.2.2 f = M.2.2 f
theorem Sh.rf {a : Nat} {M : ModelS} : Sh a a M M := by
  refine ⟨rfl, fun f _ q => ?_, fun _ _ => rfl, fun q => ?_, fun _ _ => rfl⟩
  · rw [if_neg (by omega)]
  · rw [if_neg (by omega)]
theorem sh_up {α : Type} {g0 g : Nat → α} {a e : Nat} (hae : a ≤ e) (h : ∀ q, g q = if a ≤ q ∧ q < e then g0 (q + 1) else g0 q) : ∀ q, (fun j => if j = e then g (e + 1) else g j) q = if a ≤ q ∧ q < e + 1 then g0 (q + 1) else g0 q := by
  intro q
  dsimp only
  by_cases hq : q = e
  · subst hq
    rw [if_pos rfl, if_pos (by omega), h (q + 1), if_neg (by omega)]
  · rw [if_neg hq, h q]
    by_cases hc : a ≤ q ∧ q < e
    · rw [if_pos hc, if_pos (by omega)]
    · rw [if_neg hc, if_neg (by omega)]
theorem Sh.step {a e : Nat} {M : ModelS} {mI : Nat → Int32} {mA : Nat → Nat → Int32} {mL : Nat → Nat → Int64} (hae : a ≤ e) (h : Sh a e M (mI, mA, mL)) : Sh a (e + 1) M (mI, va_up (va_up (va_up (va_up mA 10 (upd (mA 10) e (mA 10 (e + 1)))) 11 (upd (mA 11) e (mA 11 (e + 1)))) 13 (upd (mA 13) e (mA 13 (e + 1)))) 23 (upd (mA 23) e (mA 23 (e + 1))), va_up mL 12 (vp_updL (mL 12) e (mL 12 (e + 1)))) := by
  obtain ⟨h1, h2, h3, h4, h5⟩ := h
  refine ⟨h1, fun f hf => ?_, fun f hf => ?_, ?_, fun f hf => (up_n hf).trans (h5 f hf)⟩
  · rcases hf with rfl | rfl | rfl | rfl
    · exact sh_up hae (h2 10 (by unfold sf; omega))
    · exact sh_up hae (h2 11 (by unfold sf; omega))
    · exact sh_up hae (h2 13 (by unfold sf; omega))
    · exact sh_up hae (h2 23 (by unfold sf; omega))
  · have hf' : ¬ (f = 10 ∨ f = 11 ∨ f = 13 ∨ f = 23) := hf
    refine Eq.trans ?_ (h3 f hf)
    show va_up (va_up (va_up (va_up mA 10 _) 11 _) 13 _) 23 _ f = mA f
    rw [up_n (by omega), up_n (by omega), up_n (by omega), up_n (by omega)]
  · exact sh_up hae h4
theorem forget18 (K : ModelS → Prop) (M0 : ModelS) (i a w1 : Nat) (hi : i < 4) (h4 : w1 ≤ 3) (ha : 4 * i ≤ a) (h9 : M0.2.1 9 i = nI w1) (hz : ∀ q, a < q → q ≤ 4 * i + w1 → bz (M0.2.1 10 q)) (h : ∀ M1, Sh a (4 * i + w1) M0 M1 → K M1) : ∀ (m e fuel : Nat) (M : ModelS) (v1 v3 : Int32), e + m = 4 * i + w1 → a ≤ e → m < fuel → v1 = nI i → v3 = nI e → Sh a e M0 M → wp_X5_forget_18 K fuel M v1 v3 := by
  intro m
  induction m with
  | zero =>
    intro e fuel M v1 v3 he hae hf h1 h3 hS
    cases fuel with
    | zero => omega
    | succ f =>
      have c1 : v1.toNatClampNeg = i := pk_cl i h1
      have hK : K M := h M (by rw [← show e = 4 * i + w1 by omega]; exact hS)
      have e9 : M.2.1 9 i = nI w1 := by rw [hS.2.2.1 9 (by unfold sf; omega)]; exact h9
      obtain ⟨mI, mA, mL⟩ := M
      dsimp only at e9
      unfold wp_X5_forget_18
      rw [c1, e9]
      exact ⟨pk_in i 4 hi h1, pk_le (4 * i + w1) e (fun _ => hK) (fun q => by omega) (by rw [h1, lit 4, pk_mul, nI_add]) h3⟩
  | succ m ih =>
    intro e fuel M v1 v3 he hae hf h1 h3 hS
    cases fuel with
    | zero => omega
    | succ f =>
      have c1 : v1.toNatClampNeg = i := pk_cl i h1
      have c3 : v3.toNatClampNeg = e := pk_cl e h3
      have c4 : (v3 + 1).toNatClampNeg = e + 1 := pk_cl (e + 1) (by rw [h3, nI_1])
      have i3 : vp_in v3 16 := pk_in e 16 (by omega) h3
      have i4 : vp_in (v3 + 1) 16 := pk_in (e + 1) 16 (by omega) (by rw [h3, nI_1])
      have e9 : M.2.1 9 i = nI w1 := by rw [hS.2.2.1 9 (by unfold sf; omega)]; exact h9
      have hb : bz (M.2.1 10 (e + 1)) := by
        rw [hS.2.1 10 (by unfold sf; omega) (e + 1), if_neg (by omega)]
        exact hz (e + 1) (by omega) (by omega)
      obtain ⟨mI, mA, mL⟩ := M
      dsimp only at e9 hb
      have hn := ih (e + 1) f _ v1 (v3 + 1) (by omega) (by omega) (by omega) h1 (by rw [h3, nI_1]) (hS.step hae)
      unfold wp_X5_forget_18 wp_X5_forget_88
      rw [c1, e9, c3, c4]
      refine ⟨pk_in i 4 hi h1, pk_le (4 * i + w1) e (fun q => by omega) (fun _ => ⟨i4, i3, hb, i4, i3, i4, i3, i4, i3, i4, i3, fun n17 e17 => ?_⟩) (by rw [h1, lit 4, pk_mul, nI_add]) h3⟩
      rw [e17]
      exact hn
theorem wp_forget5 {K : ModelS → Prop} {M : ModelS} {i s w : Nat} (hi : i < 4) (hw : M.2.1 9 i = nI w) (h4 : w ≤ 4) (hs : s < w) (he : M.2.1 23 (4 * i + s) = M.2.1 22 i) (hn : ∀ k, k < s → ¬ M.2.1 23 (4 * i + k) = M.2.1 22 i) (hz : ∀ k, k < w → bz (M.2.1 10 (4 * i + k))) {v1 : Int32} (h1 : v1 = nI i)
    (h : ∀ M1, Sh (4 * i + s) (4 * i + (w - 1)) (M.1, va_up M.2.1 9 (upd (M.2.1 9) i (nI (w - 1))), M.2.2) M1 → K M1) : wp_X5_forget M v1 K := by
  have c1 : v1.toNatClampNeg = i := pk_cl i h1
  have i1 : vp_in v1 4 := pk_in i 4 hi h1
  have hl : ∀ r1 : Int32, r1 = nI (4 * i + s) → wp_X5_forget_18 K 1000 (M.1, va_up M.2.1 9 (upd (M.2.1 9) i (nI (w - 1))), M.2.2) v1 r1 := by
    intro r1 hr
    refine forget18 K (M.1, va_up M.2.1 9 (upd (M.2.1 9) i (nI (w - 1))), M.2.2) i (4 * i + s) (w - 1) hi (by omega) (by omega) pk_us (fun q a b => ?_) h (w - 1 - s) (4 * i + s) 1000 _ v1 r1 (by omega) (by omega) (by omega) h1 hr Sh.rf
    have := hz (q - 4 * i) (by omega)
    rw [show 4 * i + (q - 4 * i) = q by omega] at this
    exact this
  obtain ⟨mI, mA, mL⟩ := M
  dsimp only at hw
  unfold wp_X5_forget
  refine wp_sent5 (M := (mI, mA, mL)) hi (by omega) he hn h1 ⟨i1, i1, ?_⟩
  rw [c1, hw, lit 1, pk_sub (by omega)]
  exact hl _ rfl

theorem rem_0_1 {on role sndC rcvC nSent nRcvd lastF found sending next : Int32} {wanted : Nat → FrameS} {lastR : FrameS} {line : LineS} {reader : ReaderS} : ∃ W1 : Nat → FrameS, (∀ k, k < 1 - 1 → W1 k = if k < 0 then wanted k else wanted (k + 1)) ∧ ∀ K : NodeS → Prop, K (on, role, nI (1 - 1), sndC, rcvC, nSent, nRcvd, lastF, found, sending, next, W1, lastR, line, reader) → wp_X2_removeWanted (on, role, (nI 1), sndC, rcvC, nSent, nRcvd, lastF, found, sending, next, wanted, lastR, line, reader) (nI 0) K := by
  refine ⟨wanted, fun k hk => ?_, fun K hend => ?_⟩
  · omega
  · unfold wp_X2_removeWanted
    refine ⟨fun c => absurd c (by decide), fun _ => ⟨fun _ => ⟨vp_in_nI (by decide) (by decide), fun _ => ?_, fun c => absurd c (by decide), fun c => absurd c (by decide), fun c => absurd c (by decide)⟩, fun c => absurd (by decide) c⟩⟩
    unfold wp_X2_removeWanted_24_1
    exact ⟨fun _ => ⟨vp_in_nI (n := 0) (by decide) (by decide), fun _ => hend, fun c => absurd c (by decide), fun c => absurd c (by decide), fun c => absurd c (by decide)⟩, fun c => absurd (by decide) c⟩
theorem rem_0_2 {on role sndC rcvC nSent nRcvd lastF found sending next : Int32} {wanted : Nat → FrameS} {lastR : FrameS} {line : LineS} {reader : ReaderS} : ∃ W1 : Nat → FrameS, (∀ k, k < 2 - 1 → W1 k = if k < 0 then wanted k else wanted (k + 1)) ∧ ∀ K : NodeS → Prop, K (on, role, nI (2 - 1), sndC, rcvC, nSent, nRcvd, lastF, found, sending, next, W1, lastR, line, reader) → wp_X2_removeWanted (on, role, (nI 2), sndC, rcvC, nSent, nRcvd, lastF, found, sending, next, wanted, lastR, line, reader) (nI 0) K := by
  refine ⟨(va_up (va_up wanted 0 (wanted 1)) 1 (wanted 0)), fun k hk => ?_, fun K hend => ?_⟩
  · obtain rfl : k = 0 := by omega
    rfl
  · unfold wp_X2_removeWanted
    refine ⟨fun c => absurd c (by decide), fun _ => ⟨fun _ => ⟨vp_in_nI (by decide) (by decide), fun _ => ?_, fun c => absurd c (by decide), fun c => absurd c (by decide), fun c => absurd c (by decide)⟩, fun c => absurd (by decide) c⟩⟩
    unfold wp_X2_removeWanted_24_1
    refine ⟨fun c => absurd c (by decide), fun _ => ?_⟩
    unfold wp_X2_removeWanted_24_2
    exact ⟨fun _ => ⟨vp_in_nI (n := 1) (by decide) (by decide), fun c => absurd c (by decide), fun _ => hend, fun c => absurd c (by decide), fun c => absurd c (by decide)⟩, fun c => absurd (by decide) c⟩
theorem rem_0_3 {on role sndC rcvC nSent nRcvd lastF found sending next : Int32} {wanted : Nat → FrameS} {lastR : FrameS} {line : LineS} {reader : ReaderS} : ∃ W1 : Nat → FrameS, (∀ k, k < 3 - 1 → W1 k = if k < 0 then wanted k else wanted (k + 1)) ∧ ∀ K : NodeS → Prop, K (on, role, nI (3 - 1), sndC, rcvC, nSent, nRcvd, lastF, found, sending, next, W1, lastR, line, reader) → wp_X2_removeWanted (on, role, (nI 3), sndC, rcvC, nSent, nRcvd, lastF, found, sending, next, wanted, lastR, line, reader) (nI 0) K := by
  refine ⟨(va_up (va_up (va_up wanted 0 (wanted 1)) 1 (wanted 2)) 2 (wanted 0)), fun k hk => ?_, fun K hend => ?_⟩
  · rcases (show k = 0 ∨ k = 1 by omega) with rfl | rfl <;> rfl
  · unfold wp_X2_removeWanted
    refine ⟨fun c => absurd c (by decide), fun _ => ⟨fun _ => ⟨vp_in_nI (by decide) (by decide), fun _ => ?_, fun c => absurd c (by decide), fun c => absurd c (by decide), fun c => absurd c (by decide)⟩, fun c => absurd (by decide) c⟩⟩
    unfold wp_X2_removeWanted_24_1
    refine ⟨fun c => absurd c (by decide), fun _ => ?_⟩
    unfold wp_X2_removeWanted_24_2
    refine ⟨fun c => absurd c (by decide), fun _ => ?_⟩
    unfold wp_X2_removeWanted_24_3
    exact ⟨fun _ => ⟨vp_in_nI (n := 2) (by decide) (by decide), fun c => absurd c (by decide), fun c => absurd c (by decide), fun _ => hend, fun c => absurd c (by decide)⟩, fun c => absurd (by decide) c⟩
theorem rem_0_4 {on role sndC rcvC nSent nRcvd lastF found sending next : Int32} {wanted : Nat → FrameS} {lastR : FrameS} {line : LineS} {reader : ReaderS} : ∃ W1 : Nat → FrameS, (∀ k, k < 4 - 1 → W1 k = if k < 0 then wanted k else wanted (k + 1)) ∧ ∀ K : NodeS → Prop, K (on, role, nI (4 - 1), sndC, rcvC, nSent, nRcvd, lastF, found, sending, next, W1, lastR, line, reader) → wp_X2_removeWanted (on, role, (nI 4), sndC, rcvC, nSent, nRcvd, lastF, found, sending, next, wanted, lastR, line, reader) (nI 0) K := by
  refine ⟨(va_up (va_up (va_up (va_up wanted 0 (wanted 1)) 1 (wanted 2)) 2 (wanted 3)) 3 (wanted 0)), fun k hk => ?_, fun K hend => ?_⟩
  · rcases (show k = 0 ∨ k = 1 ∨ k = 2 by omega) with rfl | rfl | rfl <;> rfl
  · unfold wp_X2_removeWanted
    refine ⟨fun c => absurd c (by decide), fun _ => ⟨fun _ => ⟨vp_in_nI (by decide) (by decide), fun _ => ?_, fun c => absurd c (by decide), fun c => absurd c (by decide), fun c => absurd c (by decide)⟩, fun c => absurd (by decide) c⟩⟩
    unfold wp_X2_removeWanted_24_1
    refine ⟨fun c => absurd c (by decide), fun _ => ?_⟩
    unfold wp_X2_removeWanted_24_2
    refine ⟨fun c => absurd c (by decide), fun _ => ?_⟩
    unfold wp_X2_removeWanted_24_3
    refine ⟨fun c => absurd c (by decide), fun _ => ?_⟩
    unfold wp_X2_removeWanted_24_4
    exact ⟨fun _ => ⟨vp_in_nI (n := 3) (by decide) (by decide), fun c => absurd c (by decide), fun c => absurd c (by decide), fun c => absurd c (by decide), fun _ => hend⟩, fun c => absurd (by decide) c⟩
theorem rem_1_2 {on role sndC rcvC nSent nRcvd lastF found sending next : Int32} {wanted : Nat → FrameS} {lastR : FrameS} {line : LineS} {reader : ReaderS} : ∃ W1 : Nat → FrameS, (∀ k, k < 2 - 1 → W1 k = if k < 1 then wanted k else wanted (k + 1)) ∧ ∀ K : NodeS → Prop, K (on, role, nI (2 - 1), sndC, rcvC, nSent, nRcvd, lastF, found, sending, next, W1, lastR, line, reader) → wp_X2_removeWanted (on, role, (nI 2), sndC, rcvC, nSent, nRcvd, lastF, found, sending, next, wanted, lastR, line, reader) (nI 1) K := by
  refine ⟨wanted, fun k hk => ?_, fun K hend => ?_⟩
  · obtain rfl : k = 0 := by omega
    rfl
  · unfold wp_X2_removeWanted
    refine ⟨fun c => absurd c (by decide), fun _ => ⟨fun _ => ⟨vp_in_nI (by decide) (by decide), fun c => absurd c (by decide), fun _ => ?_, fun c => absurd c (by decide), fun c => absurd c (by decide)⟩, fun c => absurd (by decide) c⟩⟩
    unfold wp_X2_removeWanted_24_2_v4
    exact ⟨fun _ => ⟨vp_in_nI (n := 1) (by decide) (by decide), fun c => absurd c (by decide), fun _ => hend, fun c => absurd c (by decide), fun c => absurd c (by decide)⟩, fun c => absurd (by decide) c⟩
theorem rem_1_3 {on role sndC rcvC nSent nRcvd lastF found sending next : Int32} {wanted : Nat → FrameS} {lastR : FrameS} {line : LineS} {reader : ReaderS} : ∃ W1 : Nat → FrameS, (∀ k, k < 3 - 1 → W1 k = if k < 1 then wanted k else wanted (k + 1)) ∧ ∀ K : NodeS → Prop, K (on, role, nI (3 - 1), sndC, rcvC, nSent, nRcvd, lastF, found, sending, next, W1, lastR, line, reader) → wp_X2_removeWanted (on, role, (nI 3), sndC, rcvC, nSent, nRcvd, lastF, found, sending, next, wanted, lastR, line, reader) (nI 1) K := by
  refine ⟨(va_up (va_up wanted 1 (wanted 2)) 2 (wanted 1)), fun k hk => ?_, fun K hend => ?_⟩
  · rcases (show k = 0 ∨ k = 1 by omega) with rfl | rfl <;> rfl
  · unfold wp_X2_removeWanted
    refine ⟨fun c => absurd c (by decide), fun _ => ⟨fun _ => ⟨vp_in_nI (by decide) (by decide), fun c => absurd c (by decide), fun _ => ?_, fun c => absurd c (by decide), fun c => absurd c (by decide)⟩, fun c => absurd (by decide) c⟩⟩
    unfold wp_X2_removeWanted_24_2_v4
    refine ⟨fun c => absurd c (by decide), fun _ => ?_⟩
    unfold wp_X2_removeWanted_24_3_v5
    exact ⟨fun _ => ⟨vp_in_nI (n := 2) (by decide) (by decide), fun c => absurd c (by decide), fun c => absurd c (by decide), fun _ => hend, fun c => absurd c (by decide)⟩, fun c => absurd (by decide) c⟩
theorem rem_1_4 {on role sndC rcvC nSent nRcvd lastF found sending next : Int32} {wanted : Nat → FrameS} {lastR : FrameS} {line : LineS} {reader : ReaderS} : ∃ W1 : Nat → FrameS, (∀ k, k < 4 - 1 → W1 k = if k < 1 then wanted k else wanted (k + 1)) ∧ ∀ K : NodeS → Prop, K (on, role, nI (4 - 1), sndC, rcvC, nSent, nRcvd, lastF, found, sending, next, W1, lastR, line, reader) → wp_X2_removeWanted (on, role, (nI 4), sndC, rcvC, nSent, nRcvd, lastF, found, sending, next, wanted, lastR, line, reader) (nI 1) K := by
  refine ⟨(va_up (va_up (va_up wanted 1 (wanted 2)) 2 (wanted 3)) 3 (wanted 1)), fun k hk => ?_, fun K hend => ?_⟩
  · rcases (show k = 0 ∨ k = 1 ∨ k = 2 by omega) with rfl | rfl | rfl <;> rfl
  · unfold wp_X2_removeWanted
    refine ⟨fun c => absurd c (by decide), fun _ => ⟨fun _ => ⟨vp_in_nI (by decide) (by decide), fun c => absurd c (by decide), fun _ => ?_, fun c => absurd c (by decide), fun c => absurd c (by decide)⟩, fun c => absurd (by decide) c⟩⟩
    unfold wp_X2_removeWanted_24_2_v4
    refine ⟨fun c => absurd c (by decide), fun _ => ?_⟩
    unfold wp_X2_removeWanted_24_3_v5
    refine ⟨fun c => absurd c (by decide), fun _ => ?_⟩
    unfold wp_X2_removeWanted_24_4_v6
    exact ⟨fun _ => ⟨vp_in_nI (n := 3) (by decide) (by decide), fun c => absurd c (by decide), fun c => absurd c (by decide), fun c => absurd c (by decide), fun _ => hend⟩, fun c => absurd (by decide) c⟩
theorem rem_2_3 {on role sndC rcvC nSent nRcvd lastF found sending next : Int32} {wanted : Nat → FrameS} {lastR : FrameS} {line : LineS} {reader : ReaderS} : ∃ W1 : Nat → FrameS, (∀ k, k < 3 - 1 → W1 k = if k < 2 then wanted k else wanted (k + 1)) ∧ ∀ K : NodeS → Prop, K (on, role, nI (3 - 1), sndC, rcvC, nSent, nRcvd, lastF, found, sending, next, W1, lastR, line, reader) → wp_X2_removeWanted (on, role, (nI 3), sndC, rcvC, nSent, nRcvd, lastF, found, sending, next, wanted, lastR, line, reader) (nI 2) K := by
  refine ⟨wanted, fun k hk => ?_, fun K hend => ?_⟩
  · rcases (show k = 0 ∨ k = 1 by omega) with rfl | rfl <;> rfl
  · unfold wp_X2_removeWanted
    refine ⟨fun c => absurd c (by decide), fun _ => ⟨fun _ => ⟨vp_in_nI (by decide) (by decide), fun c => absurd c (by decide), fun c => absurd c (by decide), fun _ => ?_, fun c => absurd c (by decide)⟩, fun c => absurd (by decide) c⟩⟩
    unfold wp_X2_removeWanted_24_3_v7
    exact ⟨fun _ => ⟨vp_in_nI (n := 2) (by decide) (by decide), fun c => absurd c (by decide), fun c => absurd c (by decide), fun _ => hend, fun c => absurd c (by decide)⟩, fun c => absurd (by decide) c⟩
theorem rem_2_4 {on role sndC rcvC nSent nRcvd lastF found sending next : Int32} {wanted : Nat → FrameS} {lastR : FrameS} {line : LineS} {reader : ReaderS} : ∃ W1 : Nat → FrameS, (∀ k, k < 4 - 1 → W1 k = if k < 2 then wanted k else wanted (k + 1)) ∧ ∀ K : NodeS → Prop, K (on, role, nI (4 - 1), sndC, rcvC, nSent, nRcvd, lastF, found, sending, next, W1, lastR, line, reader) → wp_X2_removeWanted (on, role, (nI 4), sndC, rcvC, nSent, nRcvd, lastF, found, sending, next, wanted, lastR, line, reader) (nI 2) K := by
  refine ⟨(va_up (va_up wanted 2 (wanted 3)) 3 (wanted 2)), fun k hk => ?_, fun K hend => ?_⟩
  · rcases (show k = 0 ∨ k = 1 ∨ k = 2 by omega) with rfl | rfl | rfl <;> rfl
  · unfold wp_X2_removeWanted
    refine ⟨fun c => absurd c (by decide), fun _ => ⟨fun _ => ⟨vp_in_nI (by decide) (by decide), fun c => absurd c (by decide), fun c => absurd c (by decide), fun _ => ?_, fun c => absurd c (by decide)⟩, fun c => absurd (by decide) c⟩⟩
    unfold wp_X2_removeWanted_24_3_v7
    refine ⟨fun c => absurd c (by decide), fun _ => ?_⟩
    unfold wp_X2_removeWanted_24_4_v8
    exact ⟨fun _ => ⟨vp_in_nI (n := 3) (by decide) (by decide), fun c => absurd c (by decide), fun c => absurd c (by decide), fun c => absurd c (by decide), fun _ => hend⟩, fun c => absurd (by decide) c⟩
theorem rem_3_4 {on role sndC rcvC nSent nRcvd lastF found sending next : Int32} {wanted : Nat → FrameS} {lastR : FrameS} {line : LineS} {reader : ReaderS} : ∃ W1 : Nat → FrameS, (∀ k, k < 4 - 1 → W1 k = if k < 3 then wanted k else wanted (k + 1)) ∧ ∀ K : NodeS → Prop, K (on, role, nI (4 - 1), sndC, rcvC, nSent, nRcvd, lastF, found, sending, next, W1, lastR, line, reader) → wp_X2_removeWanted (on, role, (nI 4), sndC, rcvC, nSent, nRcvd, lastF, found, sending, next, wanted, lastR, line, reader) (nI 3) K := by
  refine ⟨wanted, fun k hk => ?_, fun K hend => ?_⟩
  · rcases (show k = 0 ∨ k = 1 ∨ k = 2 by omega) with rfl | rfl | rfl <;> rfl
  · unfold wp_X2_removeWanted
    refine ⟨fun c => absurd c (by decide), fun _ => ⟨fun _ => ⟨vp_in_nI (by decide) (by decide), fun c => absurd c (by decide), fun c => absurd c (by decide), fun c => absurd c (by decide), fun _ => ?_⟩, fun c => absurd (by decide) c⟩⟩
    unfold wp_X2_removeWanted_24_4_v9
    exact ⟨fun _ => ⟨vp_in_nI (n := 3) (by decide) (by decide), fun c => absurd c (by decide), fun c => absurd c (by decide), fun c => absurd c (by decide), fun _ => hend⟩, fun c => absurd (by decide) c⟩
theorem wp_rem2 {on role wants sndC rcvC nSent nRcvd lastF found sending next : Int32} {wanted : Nat → FrameS} {lastR : FrameS} {line : LineS} {reader : ReaderS} {p0 : Int32} {s w : Nat} (hw : wants = nI w) (h4 : w ≤ 4) (hs : s < w) (hp : p0 = nI s) : ∃ W1 : Nat → FrameS, (∀ k, k < w - 1 → W1 k = if k < s then wanted k else wanted (k + 1)) ∧ ∀ K : NodeS → Prop, K (on, role, nI (w - 1), sndC, rcvC, nSent, nRcvd, lastF, found, sending, next, W1, lastR, line, reader) → wp_X2_removeWanted (on, role, wants, sndC, rcvC, nSent, nRcvd, lastF, found, sending, next, wanted, lastR, line, reader) p0 K := by
  subst hp
  subst hw
  rcases (show (s = 0 ∧ w = 1) ∨ (s = 0 ∧ w = 2) ∨ (s = 0 ∧ w = 3) ∨ (s = 0 ∧ w = 4) ∨ (s = 1 ∧ w = 2) ∨ (s = 1 ∧ w = 3) ∨ (s = 1 ∧ w = 4) ∨ (s = 2 ∧ w = 3) ∨ (s = 2 ∧ w = 4) ∨ (s = 3 ∧ w = 4) by omega) with ⟨rfl, rfl⟩ | ⟨rfl, rfl⟩ | ⟨rfl, rfl⟩ | ⟨rfl, rfl⟩ | ⟨rfl, rfl⟩ | ⟨rfl, rfl⟩ | ⟨rfl, rfl⟩ | ⟨rfl, rfl⟩ | ⟨rfl, rfl⟩ | ⟨rfl, rfl⟩
  · exact rem_0_1
  · exact rem_0_2
  · exact rem_0_3
  · exact rem_0_4
  · exact rem_1_2
  · exact rem_1_3
  · exact rem_1_4
  · exact rem_2_3
  · exact rem_2_4
  · exact rem_3_4
