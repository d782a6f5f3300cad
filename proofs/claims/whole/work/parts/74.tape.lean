/-! the calls on the tape: wire, wipe, bit, flip, put; a new object -/
theorem Sim.tp {c : Nat} {S S1 : WireS} {M M1 : ModelS} (h : Sim c S M) (e1 : S1.1 = S.1) (e2 : S1.2.1 = S.2.1) (eN : S1.2.2.2.2.2.2 = S.2.2.2.2.2.2) (i1 : M1.1 1 = M.1 1) (i2 : M1.1 2 = M.1 2) (i24 : M1.1 24 = M.1 24) (hz : ∃ z, z ≤ 200 ∧ S1.2.2.1 = nI z) (h32 : M1.1 32 = S1.2.2.1) (h31 : M1.2.1 31 = S1.2.2.2.1) (hB : ∀ j, isB (S1.2.2.2.1 j)) (hE : ∀ i, i < 4 → EqN i M M1) : Sim c S1 M1 := by
  obtain ⟨a1, a2, a3, a4, a5, a6, a7, g, a8, a9, a10⟩ := h
  refine ⟨?_, ?_, h32, hz, h31, hB, ?_, g, i24.trans a8, a9, fun i hi => ?_⟩
  · rw [i1, a1, e1]
  · rw [i2, a2, e2]
  · rw [e1, e2, eN]; exact a7
  · rw [eN]; exact (a10 i hi).eqN (hE i hi)
/-- the tape's row is no node's -/
theorem EqN.tape {i : Nat} {mI mI' : Nat → Int32} {mA : Nat → Nat → Int32} {mL : Nat → Nat → Int64} {T : Nat → Int32} : EqN i (mI, mA, mL) (mI', va_up mA 31 T, mL) := ⟨fun f h _ q _ => congrFun (up_n h) q, fun _ _ _ => rfl⟩
theorem EqN.ints {i : Nat} {mI mI' : Nat → Int32} {mA : Nat → Nat → Int32} {mL : Nat → Nat → Int64} : EqN i (mI, mA, mL) (mI', mA, mL) := ⟨fun _ _ _ _ _ => rfl, fun _ _ _ => rfl⟩
theorem ok_wire : OKwire Sm := by
  intro n hn S M h
  obtain ⟨state, left, tapeLen, tapeB, tLine, tReader, nodes⟩ := S
  obtain ⟨mI, mA, mL⟩ := M
  exact ⟨(Sim.thr 0 h).mono (by omega), h.1.symm⟩
theorem ok_wipe : OKwipe Sm := by
  intro n hn S M h
  obtain ⟨state, left, tapeLen, tapeB, tLine, tReader, nodes⟩ := S
  obtain ⟨mI, mA, mL⟩ := M
  intro n1 e1
  have h' : Sim (200 * (n + 1)) (state, left, 0, tapeB, tLine, tReader, nodes) (va_up (va_up mI 0 0) 32 0, mA, mL) := Sim.mono (c := 200 * n) (Sim.tp h rfl rfl rfl rfl rfl rfl ⟨0, by omega, rfl⟩ rfl h.2.2.2.2.1 h.2.2.2.2.2.1 (fun i _ => EqN.ints)) (by omega)
  exact ⟨h', by rw [e1]; exact h.2.2.1.symm⟩
/-- a place on the tape, or none -/
theorem tape_ix {c : Nat} {S : WireS} {M : ModelS} (h : Sim c S M) (p0 : Int32) : (p0 < 0 ∨ S.2.2.1 ≤ p0) ∨ ∃ j z : Nat, p0 = nI j ∧ j < z ∧ z ≤ 200 ∧ S.2.2.1 = nI z := by
  obtain ⟨z, hz, e⟩ := h.2.2.2.1
  rcases pk_ix p0 (n := z) (by omega) with q | q | ⟨j, hj, q⟩
  · exact Or.inl (Or.inl q)
  · rw [← e] at q
    exact Or.inl (Or.inr q)
  · exact Or.inr ⟨j, z, q, hj, hz, e⟩
theorem onT_0 {S : WireS} {p0 : Int32} {K : Int32 → Prop} (h : p0 < 0 ∨ S.2.2.1 ≤ p0) (hK : K 0) : wp_X4_isOnTape S p0 K := by
  obtain ⟨state, left, tapeLen, tapeB, tLine, tReader, nodes⟩ := S
  unfold wp_X4_isOnTape wp_X4_isOnTape_16
  refine ⟨fun _ => hK, fun q => ⟨fun _ => hK, fun z => ?_⟩⟩
  rcases h with h | h
  · exact absurd h q
  · exact absurd h z
theorem onT_1 {S : WireS} {p0 : Int32} {K : Int32 → Prop} {j z : Nat} (h : p0 = nI j) (hj : j < z) (hz : z ≤ 200) (e : S.2.2.1 = nI z) (hK : K 1) : wp_X4_isOnTape S p0 K := by
  obtain ⟨state, left, tapeLen, tapeB, tLine, tReader, nodes⟩ := S
  have e : tapeLen = nI z := e
  unfold wp_X4_isOnTape wp_X4_isOnTape_16
  rw [h, e]
  exact ⟨fun q => absurd q (nI_pos (by omega)), fun _ => ⟨fun q => absurd q (nI_ge hj (by omega)), fun _ => hK⟩⟩
theorem ok_bit : OKbit Sm := by
  intro n hn S M f p0 h
  have hix := tape_ix h p0
  have h1 := fun x => (Sim.thr (mI := M.1) (mA := M.2.1) (mL := M.2.2) x h).mono (c1 := 200 * (n + 1)) (by omega)
  have e31 := h.2.2.2.2.1
  have e32 := h.2.2.1
  have hS := h
  obtain ⟨state, left, tapeLen, tapeB, tLine, tReader, nodes⟩ := S
  obtain ⟨mI, mA, mL⟩ := M
  dsimp only at h1 e31 e32 hix
  unfold wl_bit wp_X4_bit
  rcases hix with q | ⟨j, z, e, hj, hz, ez⟩
  · refine onT_0 q ⟨fun z => absurd rfl z, fun _ => ⟨rfl, ?_⟩⟩
    have k13 : wp_X5_bit_13 (fun b M1 => Sm (n + 1) (state, left, tapeLen, tapeB, tLine, tReader, nodes) M1 ∧ M1.1 0 = 1 ∧ ((1 : Int32) = 0 → f 0 = b.toInt64)) (mI, mA, mL) p0 := by
      unfold wp_X5_bit_13 wp_X5_bit_18
      exact ⟨fun z => absurd z (by decide), fun _ => ⟨h1 1, rfl, fun z => absurd z (by decide)⟩⟩
    unfold wp_X5_bit
    refine ⟨fun _ => k13, fun y => ⟨fun x => ?_, fun _ => k13⟩⟩
    rcases q with q | q
    · exact absurd q y
    · rw [e32] at x
      exact absurd x (Int32.not_lt.mpr q)
  · have hin : vp_in p0 200 := pk_in j 200 (by omega) e
    refine onT_1 e hj hz ez ⟨fun _ => ⟨hin, ?_⟩, fun z => absurd z (by decide)⟩
    unfold wp_X5_bit wp_X5_bit_18
    refine ⟨fun q => ?_, fun _ => ⟨fun _ => ⟨fun _ => ⟨hin, h1 0, rfl, fun _ => ?_⟩, fun q => absurd (by decide) q⟩, fun q => absurd ?_ q⟩⟩
    · rw [e] at q; exact absurd q (nI_pos (by omega))
    · rw [pk_uLs, e31]
    · rw [e, e32, ez]
      exact nI_lt hj (by omega)
theorem isB_upd {T : Nat → Int32} {k : Nat} {x : Int32} (h : ∀ j, isB (T j)) (hx : isB x) : ∀ j, isB (upd T k x j) := by
  intro j
  by_cases e : j = k
  · rw [e, pk_us]; exact hx
  · rw [pk_un e]; exact h j
theorem ok_flip : OKflip Sm := by
  intro n hn S M f p0 h
  have hix := tape_ix h p0
  have h1 := fun x => (Sim.thr (mI := M.1) (mA := M.2.1) (mL := M.2.2) x h).mono (c1 := 200 * (n + 1)) (by omega)
  have e31 := h.2.2.2.2.1
  have e32 := h.2.2.1
  have eB := h.2.2.2.2.2.1
  have ezz := h.2.2.2.1
  have hS := h
  obtain ⟨state, left, tapeLen, tapeB, tLine, tReader, nodes⟩ := S
  obtain ⟨mI, mA, mL⟩ := M
  dsimp only at h1 e31 e32 hix eB ezz
  unfold wl_flip wp_X4_flip
  rcases hix with q | ⟨j, z, e, hj, hz, ez⟩
  · refine onT_0 q ⟨fun z => absurd rfl z, fun _ => ⟨rfl, ?_⟩⟩
    have k13 : wp_X5_flip_13 (fun M1 => Sm (n + 1) (state, left, tapeLen, tapeB, tLine, tReader, nodes) M1 ∧ M1.1 0 = 1) (mI, mA, mL) p0 := by
      unfold wp_X5_flip_13 wp_X5_flip_18
      exact ⟨fun _ => ⟨h1 1, rfl⟩, fun z => absurd z (by decide)⟩
    unfold wp_X5_flip
    refine ⟨fun _ => k13, fun y => ⟨fun x => ?_, fun _ => k13⟩⟩
    rcases q with q | q
    · exact absurd q y
    · rw [e32] at x
      exact absurd x (Int32.not_lt.mpr q)
  · have hin : vp_in p0 200 := pk_in j 200 (by omega) e
    refine onT_1 e hj hz ez ⟨fun _ => ⟨hin, hin, ?_⟩, fun z => absurd z (by decide)⟩
    unfold wp_X5_flip wp_X5_flip_18
    refine ⟨fun q => ?_, fun _ => ⟨fun _ => ⟨fun q => absurd rfl q, fun _ => ⟨hin, hin, ?_, rfl⟩⟩, fun q => absurd ?_ q⟩⟩
    · rw [e] at q; exact absurd q (nI_pos (by omega))
    · rw [e31]
      refine Sim.mono (c := 200 * n) ?_ (by omega)
      exact Sim.tp hS rfl rfl rfl rfl rfl rfl ezz e32 rfl (isB_upd eB (eB _).sub) (fun i _ => EqN.tape)
    · rw [e, e32, ez]
      exact nI_lt hj (by omega)
/-! put -/
theorem sh_and1 (x : BitVec 64) (s : Nat) (hs : s ≤ 63) : (x >>> s) &&& 1#64 = (x.sshiftRight s) &&& 1#64 := by
  apply BitVec.eq_of_getLsbD_eq
  intro i hi
  rw [BitVec.getLsbD_and, BitVec.getLsbD_and, BitVec.getLsbD_ushiftRight, BitVec.getLsbD_sshiftRight]
  by_cases h0 : i = 0
  · subst h0
    simp [show s < 64 by omega]
  · have h1 : (1#64).getLsbD i = false := by
      have : ∀ j : Fin 64, j.val ≠ 0 → (1#64).getLsbD j.val = false := by decide +kernel
      exact this ⟨i, hi⟩ h0
    rw [h1]
    simp
def pbC (w : Int64) (k : Nat) : Int32 := (((w.toUInt64 >>> ((nI k).toInt64.toUInt64 &&& Int64.toUInt64 63)).toInt64) &&& 1).toInt32
def pbM (w : Int64) (k : Nat) : Int32 := ((w >>> ((nI k).toInt64 &&& 63)) &&& 1).toInt32
theorem pb_eq (w : Int64) (k : Nat) (hk : k < 64) : pbC w k = pbM w k := by
  unfold pbC pbM
  congr 1
  apply Int64.toBitVec_inj.1
  rcases (show k = 0 ∨ k = 1 ∨ k = 2 ∨ k = 3 ∨ k = 4 ∨ k = 5 ∨ k = 6 ∨ k = 7 ∨ k = 8 ∨ k = 9 ∨ k = 10 ∨ k = 11 ∨ k = 12 ∨ k = 13 ∨ k = 14 ∨ k = 15 ∨ k = 16 ∨ k = 17 ∨ k = 18 ∨ k = 19 ∨ k = 20 ∨ k = 21 ∨ k = 22 ∨ k = 23 ∨ k = 24 ∨ k = 25 ∨ k = 26 ∨ k = 27 ∨ k = 28 ∨ k = 29 ∨ k = 30 ∨ k = 31 ∨ k = 32 ∨ k = 33 ∨ k = 34 ∨ k = 35 ∨ k = 36 ∨ k = 37 ∨ k = 38 ∨ k = 39 ∨ k = 40 ∨ k = 41 ∨ k = 42 ∨ k = 43 ∨ k = 44 ∨ k = 45 ∨ k = 46 ∨ k = 47 ∨ k = 48 ∨ k = 49 ∨ k = 50 ∨ k = 51 ∨ k = 52 ∨ k = 53 ∨ k = 54 ∨ k = 55 ∨ k = 56 ∨ k = 57 ∨ k = 58 ∨ k = 59 ∨ k = 60 ∨ k = 61 ∨ k = 62 ∨ k = 63 by omega) with rfl | rfl | rfl | rfl | rfl | rfl | rfl | rfl | rfl | rfl | rfl | rfl | rfl | rfl | rfl | rfl | rfl | rfl | rfl | rfl | rfl | rfl | rfl | rfl | rfl | rfl | rfl | rfl | rfl | rfl | rfl | rfl | rfl | rfl | rfl | rfl | rfl | rfl | rfl | rfl | rfl | rfl | rfl | rfl | rfl | rfl | rfl | rfl | rfl | rfl | rfl | rfl | rfl | rfl | rfl | rfl | rfl | rfl | rfl | rfl | rfl | rfl | rfl | rfl
  · exact sh_and1 w.toBitVec 0 (by decide)
  · exact sh_and1 w.toBitVec 1 (by decide)
  · exact sh_and1 w.toBitVec 2 (by decide)
  · exact sh_and1 w.toBitVec 3 (by decide)
  · exact sh_and1 w.toBitVec 4 (by decide)
  · exact sh_and1 w.toBitVec 5 (by decide)
  · exact sh_and1 w.toBitVec 6 (by decide)
  · exact sh_and1 w.toBitVec 7 (by decide)
  · exact sh_and1 w.toBitVec 8 (by decide)
  · exact sh_and1 w.toBitVec 9 (by decide)
  · exact sh_and1 w.toBitVec 10 (by decide)
  · exact sh_and1 w.toBitVec 11 (by decide)
  · exact sh_and1 w.toBitVec 12 (by decide)
  · exact sh_and1 w.toBitVec 13 (by decide)
  · exact sh_and1 w.toBitVec 14 (by decide)
  · exact sh_and1 w.toBitVec 15 (by decide)
  · exact sh_and1 w.toBitVec 16 (by decide)
  · exact sh_and1 w.toBitVec 17 (by decide)
  · exact sh_and1 w.toBitVec 18 (by decide)
  · exact sh_and1 w.toBitVec 19 (by decide)
  · exact sh_and1 w.toBitVec 20 (by decide)
  · exact sh_and1 w.toBitVec 21 (by decide)
  · exact sh_and1 w.toBitVec 22 (by decide)
  · exact sh_and1 w.toBitVec 23 (by decide)
  · exact sh_and1 w.toBitVec 24 (by decide)
  · exact sh_and1 w.toBitVec 25 (by decide)
  · exact sh_and1 w.toBitVec 26 (by decide)
  · exact sh_and1 w.toBitVec 27 (by decide)
  · exact sh_and1 w.toBitVec 28 (by decide)
  · exact sh_and1 w.toBitVec 29 (by decide)
  · exact sh_and1 w.toBitVec 30 (by decide)
  · exact sh_and1 w.toBitVec 31 (by decide)
  · exact sh_and1 w.toBitVec 32 (by decide)
  · exact sh_and1 w.toBitVec 33 (by decide)
  · exact sh_and1 w.toBitVec 34 (by decide)
  · exact sh_and1 w.toBitVec 35 (by decide)
  · exact sh_and1 w.toBitVec 36 (by decide)
  · exact sh_and1 w.toBitVec 37 (by decide)
  · exact sh_and1 w.toBitVec 38 (by decide)
  · exact sh_and1 w.toBitVec 39 (by decide)
  · exact sh_and1 w.toBitVec 40 (by decide)
  · exact sh_and1 w.toBitVec 41 (by decide)
  · exact sh_and1 w.toBitVec 42 (by decide)
  · exact sh_and1 w.toBitVec 43 (by decide)
  · exact sh_and1 w.toBitVec 44 (by decide)
  · exact sh_and1 w.toBitVec 45 (by decide)
  · exact sh_and1 w.toBitVec 46 (by decide)
  · exact sh_and1 w.toBitVec 47 (by decide)
  · exact sh_and1 w.toBitVec 48 (by decide)
  · exact sh_and1 w.toBitVec 49 (by decide)
  · exact sh_and1 w.toBitVec 50 (by decide)
  · exact sh_and1 w.toBitVec 51 (by decide)
  · exact sh_and1 w.toBitVec 52 (by decide)
  · exact sh_and1 w.toBitVec 53 (by decide)
  · exact sh_and1 w.toBitVec 54 (by decide)
  · exact sh_and1 w.toBitVec 55 (by decide)
  · exact sh_and1 w.toBitVec 56 (by decide)
  · exact sh_and1 w.toBitVec 57 (by decide)
  · exact sh_and1 w.toBitVec 58 (by decide)
  · exact sh_and1 w.toBitVec 59 (by decide)
  · exact sh_and1 w.toBitVec 60 (by decide)
  · exact sh_and1 w.toBitVec 61 (by decide)
  · exact sh_and1 w.toBitVec 62 (by decide)
  · exact sh_and1 w.toBitVec 63 (by decide)
theorem pb_B (w : Int64) (k : Nat) : isB (pbC w k) := by
  unfold pbC
  generalize ((w.toUInt64 >>> ((nI k).toInt64.toUInt64 &&& Int64.toUInt64 63)).toInt64) = x
  have h : x &&& 1 = 0 ∨ x &&& 1 = 1 := by
    have ob : ∀ i, i < 64 → i ≠ 0 → (1#64).getLsbD i = false := by
      have : ∀ j : Fin 64, j.val ≠ 0 → (1#64).getLsbD j.val = false := by decide +kernel
      exact fun i hi h0 => this ⟨i, hi⟩ h0
    cases hb : x.toBitVec.getLsbD 0 with
    | false =>
      left
      apply Int64.toBitVec_inj.1
      apply BitVec.eq_of_getLsbD_eq
      intro i hi
      show (x.toBitVec &&& 1#64).getLsbD i = (0#64).getLsbD i
      rw [BitVec.getLsbD_and]
      by_cases h0 : i = 0
      · subst h0; rw [hb]; simp
      · rw [ob i hi h0]; simp
    | true =>
      right
      apply Int64.toBitVec_inj.1
      apply BitVec.eq_of_getLsbD_eq
      intro i hi
      show (x.toBitVec &&& 1#64).getLsbD i = (1#64).getLsbD i
      rw [BitVec.getLsbD_and]
      by_cases h0 : i = 0
      · subst h0; rw [hb]; simp
      · rw [ob i hi h0]; simp
  rcases h with h | h <;> rw [h]
  · exact Or.inl rfl
  · exact Or.inr rfl
/-- the tape with m more bits, from bit j on, at z -/
def pB (w : Int64) : Nat → (Nat → Int32) → Nat → Nat → (Nat → Int32)
  | 0, T, _, _ => T
  | m + 1, T, z, j => pB w m (upd T z (pbC w j)) (z + 1) (j + 1)
theorem pB_B (w : Int64) : ∀ m T z j, (∀ q, isB (T q)) → ∀ q, isB (pB w m T z j q)
  | 0, _, _, _, h => h
  | m + 1, T, z, j, h => pB_B w m _ _ _ (isB_upd h (pb_B w j))
theorem put28 (K : Int32 → WireS → Prop) (w : Int64) (n : Nat) (hn : n ≤ 64) (state left : Int32) (tLine : LineS) (tReader : ReaderS) (nodes : Nat → NodeS) : ∀ (m j z fuel : Nat) (T : Nat → Int32), j + m = n → z + m ≤ 200 → m < fuel → K 1 (state, left, nI (z + m), pB w m T z j, tLine, tReader, nodes) → wp_X4_put_28 K fuel (state, left, nI z, T, tLine, tReader, nodes) w (nI n) (nI j) := by
  intro m
  induction m with
  | zero =>
    intro j z fuel T hj hz hf hK
    cases fuel with
    | zero => omega
    | succ f =>
      unfold wp_X4_put_28
      exact pk_le n j (fun _ => hK) (fun q => by omega)
  | succ m ih =>
    intro j z fuel T hj hz hf hK
    cases fuel with
    | zero => omega
    | succ f =>
      have hh := ih (j + 1) (z + 1) f (upd T z (pbC w j)) (by omega) (by omega) (by omega) (by rw [show z + 1 + m = z + (m + 1) by omega]; exact hK)
      unfold wp_X4_put_28
      refine pk_le n j (fun q => by omega) (fun _ => ⟨vp_in_nI (by omega) (by decide), fun n6 e6 => ?_⟩)
      rw [e6, nI_1, nI_1, nI_clamp (by omega)]
      exact hh
theorem put33 (K : Int32 → ModelS → Prop) (w : Int64) (n : Nat) (hn : n ≤ 64) (mL : Nat → Nat → Int64) : ∀ (m j z fuel : Nat) (T mI : Nat → Int32) (mA : Nat → Nat → Int32), j + m = n → z + m ≤ 200 → m < fuel → mI 32 = nI z → mA 31 = T → (∀ mI' mA', mI' 32 = nI (z + m) → (∀ k, k ≠ 32 → mI' k = mI k) → mA' 31 = pB w m T z j → (∀ f, f ≠ 31 → mA' f = mA f) → K 1 (mI', mA', mL)) → wp_X5_put_33 K fuel (mI, mA, mL) w (nI n) (nI j) := by
  intro m
  induction m with
  | zero =>
    intro j z fuel T mI mA hj hz hf h32 h31 hK
    cases fuel with
    | zero => omega
    | succ f =>
      unfold wp_X5_put_33
      exact pk_le n j (fun _ => hK mI mA h32 (fun _ _ => rfl) h31 (fun _ _ => rfl)) (fun q => by omega)
  | succ m ih =>
    intro j z fuel T mI mA hj hz hf h32 h31 hK
    cases fuel with
    | zero => omega
    | succ f =>
      have hh := ih (j + 1) (z + 1) f (upd T z (pbC w j)) (va_up mI 32 (nI (z + 1))) (va_up mA 31 (upd T z (pbC w j))) (by omega) (by omega) (by omega) rfl rfl (fun mI' mA' x1 x2 x3 x4 => hK mI' mA' (by rw [x1, show z + 1 + m = z + (m + 1) by omega]) (fun k hk => (x2 k hk).trans (up_n hk)) x3 (fun f hf => (x4 f hf).trans (up_n hf)))
      unfold wp_X5_put_33
      rw [h32, h31]
      refine pk_le n j (fun q => by omega) (fun _ => ⟨vp_in_nI (by omega) (by decide), fun n6 e6 => ?_⟩)
      rw [e6, nI_1, nI_1, nI_clamp (by omega)]
      rw [pb_eq w j (by omega)] at hh
      exact hh
theorem ok_put : OKput Sm := by
  intro n hn S M w p1 h
  have h1 := (Sim.thr (mI := M.1) (mA := M.2.1) (mL := M.2.2) 0 h).mono (c1 := 200 * (n + 1)) (by omega)
  have e31 := h.2.2.2.2.1
  have e32 := h.2.2.1
  have eB := h.2.2.2.2.2.1
  obtain ⟨z, hz, ez⟩ := h.2.2.2.1
  have hS := h
  obtain ⟨state, left, tapeLen, tapeB, tLine, tReader, nodes⟩ := S
  obtain ⟨mI, mA, mL⟩ := M
  dsimp only at h1 e31 e32 eB ez
  subst ez
  have rej : (p1 < 1 ∨ 64 < p1 ∨ ¬ p1 ≤ 200 - nI z ∧ ¬ mI 32 + p1 ≤ 200) → wp_X5_put (mI, mA, mL) w p1 (fun b M1 => Sm (n + 1) (state, left, nI z, tapeB, tLine, tReader, nodes) M1 ∧ (0 : Int32) = b) := by
    intro q
    unfold wp_X5_put wp_X5_put_28
    refine ⟨fun _ => ⟨h1, rfl⟩, fun q1 => ⟨fun _ => ⟨h1, rfl⟩, fun q2 => ⟨fun q3 => ?_, fun _ => ⟨h1, rfl⟩⟩⟩⟩
    rcases q with q | q | q
    · exact absurd q q1
    · exact absurd q q2
    · exact absurd q3 q.2
  unfold wp_X4_put wp_X4_put_23
  refine ⟨fun q => rej (Or.inl q), fun q1 => ⟨fun q => rej (Or.inr (Or.inl q)), fun q2 => ?_⟩⟩
  obtain ⟨m, hm, rfl⟩ : ∃ m, m < 2 ^ 31 ∧ p1 = nI m := by
    refine nI_of (fun q => q1 ?_)
    rw [Int32.lt_iff_toInt_lt] at q ⊢
    have e0 : (0 : Int32).toInt = 0 := rfl
    have e1 : (1 : Int32).toInt = 1 := rfl
    omega
  have hm1 : 1 ≤ m := by
    refine Classical.byContradiction (fun z => q1 ?_)
    rw [show m = 0 by omega]; decide
  have hm2 : m ≤ 64 := by
    refine Classical.byContradiction (fun z => q2 ?_)
    rw [lit 64]
    exact nI_lt (by omega) hm
  have c1 : nI m ≤ 200 - nI z ↔ z + m ≤ 200 := by
    rw [lit 200, pk_sub hz]
    exact (nI_leI (by omega) (by omega)).trans (by omega)
  have c2 : mI 32 + nI m ≤ 200 ↔ z + m ≤ 200 := by
    rw [e32, nI_add, lit 200]
    exact nI_leI (by omega) (by omega)
  refine ⟨fun q => ?_, fun q => rej (Or.inr (Or.inr ⟨q, fun x => q (c1.mpr (c2.mp x))⟩))⟩
  have hle := c1.mp q
  refine put28 _ w m hm2 state left tLine tReader nodes m 0 z 1000 tapeB (by omega) hle (by omega) ?_
  unfold wp_X5_put
  refine ⟨fun q => absurd q q1, fun _ => ⟨fun q => absurd q q2, fun _ => ⟨fun _ => ?_, fun q => absurd (c2.mpr hle) q⟩⟩⟩
  refine put33 _ w m hm2 mL m 0 z 1000 tapeB (va_up mI 0 0) mA (by omega) hle (by omega) e32 e31 (fun mI' mA' x1 x2 x3 x4 => ⟨?_, rfl⟩)
  refine Sim.mono (c := 200 * n) ?_ (by omega)
  exact Sim.tp hS rfl rfl rfl (x2 1 (by decide)) (x2 2 (by decide)) (x2 24 (by decide)) ⟨z + m, hle, rfl⟩ x1 x3 (pB_B w m tapeB z 0 eB) (fun i _ => ⟨fun f hf _ q _ => by show mA' f q = mA f q; rw [x4 f hf], fun _ _ _ => rfl⟩)
/-! a new object -/
theorem sm_0 : Sm 0 wireI modelI := by
  refine ⟨rfl, rfl, rfl, ⟨0, by omega, rfl⟩, rfl, fun _ => Or.inl rfl, ⟨fun _ => rfl, fun _ _ _ => rfl, Or.inl rfl⟩, 0, rfl, by omega, ?_⟩
  have one : ∀ i, modelI.2.1 3 i = 1 → ND (200 * 0) 0 i modelI nodeI := by
    intro i e
    refine ⟨⟨Or.inr rfl, rfl, rfl, rfl, rfl, rfl, ⟨0, rfl, by omega, fun _ => by omega⟩, 0, rfl, by omega⟩, ⟨0, rfl, rfl, by omega, fun k hk => absurd hk (Nat.not_lt_zero k), fun k hk => absurd hk (Nat.not_lt_zero k), fun j k _ hk => absurd hk (Nat.not_lt_zero k)⟩, rfl, ?_, fun q => absurd q (by decide), Or.inl rfl⟩
    rw [e]
    rfl
  exact all4 (one 0 rfl) (one 1 rfl) (one 2 rfl) (one 3 rfl)

