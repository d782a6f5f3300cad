/-! tape -/
abbrev nWd (N : NodeS) : Nat → FrameS := N.2.2.2.2.2.2.2.2.2.2.2.1
theorem cls_tape {state left tapeLen : Int32} {tapeB : Nat → Int32} {tLine : LineS} {tReader : ReaderS} {nodes : Nat → NodeS} {K : Int32 → WireS → Prop} {KE : String → WireS → Prop} {i : Nat} (hi : i < 4) {p0 : Int32} (e : p0 = nI i) (h : wp_X2_offered (nodes i) (fun r3 => ((¬ r3 = (-1) → (vp_in r3 4 ∧ (r3 = 0 → wp_X1_write tLine (nWd (nodes i) 0) (fun u6 => wp_X4_tape_67 K KE 1000 (state, left, u6.2.2.1, tapeB, u6, tReader, nodes) 0)) ∧ (r3 = 1 → wp_X1_write tLine (nWd (nodes i) 1) (fun u6 => wp_X4_tape_67 K KE 1000 (state, left, u6.2.2.1, tapeB, u6, tReader, nodes) 0)) ∧ (r3 = 2 → wp_X1_write tLine (nWd (nodes i) 2) (fun u6 => wp_X4_tape_67 K KE 1000 (state, left, u6.2.2.1, tapeB, u6, tReader, nodes) 0)) ∧ (r3 = 3 → wp_X1_write tLine (nWd (nodes i) 3) (fun u6 => wp_X4_tape_67 K KE 1000 (state, left, u6.2.2.1, tapeB, u6, tReader, nodes) 0)))) ∧ (r3 = (-1) → KE "java/util/NoSuchElementException" (state, left, tapeLen, tapeB, tLine, tReader, nodes))))) : wp_X4_tape (state, left, tapeLen, tapeB, tLine, tReader, nodes) p0 K KE := by
  unfold wp_X4_tape
  exact good4 hi e ⟨fun _ => ⟨pk_in i 4 hi e, br4 hi e (X := fun j => wp_X2_offered (nodes j) (fun r3 => ((¬ r3 = (-1) → (vp_in r3 4 ∧ (r3 = 0 → wp_X1_write tLine (nWd (nodes j) 0) (fun u6 => wp_X4_tape_67 K KE 1000 (state, left, u6.2.2.1, tapeB, u6, tReader, nodes) 0)) ∧ (r3 = 1 → wp_X1_write tLine (nWd (nodes j) 1) (fun u6 => wp_X4_tape_67 K KE 1000 (state, left, u6.2.2.1, tapeB, u6, tReader, nodes) 0)) ∧ (r3 = 2 → wp_X1_write tLine (nWd (nodes j) 2) (fun u6 => wp_X4_tape_67 K KE 1000 (state, left, u6.2.2.1, tapeB, u6, tReader, nodes) 0)) ∧ (r3 = 3 → wp_X1_write tLine (nWd (nodes j) 3) (fun u6 => wp_X4_tape_67 K KE 1000 (state, left, u6.2.2.1, tapeB, u6, tReader, nodes) 0)))) ∧ (r3 = (-1) → KE "java/util/NoSuchElementException" (state, left, tapeLen, tapeB, tLine, tReader, nodes))))) h⟩, fun z => absurd z (by decide)⟩
/-- the first j bits of the line on the tape -/
def cpT (L : LineS) (T : Nat → Int32) (j : Nat) : Nat → Int32 := fun q => if q < j then L.1 q else T q
theorem cpT_S {L : LineS} {T : Nat → Int32} {j : Nat} : upd (cpT L T j) j (L.1 j) = cpT L T (j + 1) := by
  funext q
  unfold cpT
  by_cases h : q = j
  · subst h
    rw [pk_us, if_pos (by omega)]
  · rw [pk_un h]
    by_cases h2 : q < j
    · rw [if_pos h2, if_pos (by omega)]
    · rw [if_neg h2, if_neg (by omega)]
theorem tape67 (K : Int32 → WireS → Prop) (KE : String → WireS → Prop) (L : LineS) (len : Nat) (hL : L.2.2.1 = nI len) (hlen : len ≤ 160) (T : Nat → Int32) (state left : Int32) (tReader : ReaderS) (nodes : Nat → NodeS) (hK : K (nI len) (state, left, nI len, cpT L T len, L, tReader, nodes)) : ∀ (m j fuel : Nat), j + m = len → m < fuel → wp_X4_tape_67 K KE fuel (state, left, nI len, cpT L T j, L, tReader, nodes) (nI j) := by
  intro m
  induction m with
  | zero =>
    intro j fuel hj hf
    obtain ⟨f, rfl⟩ : ∃ f, fuel = f + 1 := ⟨fuel - 1, by omega⟩
    obtain rfl : j = len := by omega
    unfold wp_X4_tape_67
    exact pk_le j j (fun _ => hK) (fun q => by omega)
  | succ m ih =>
    intro j fuel hj hf
    obtain ⟨f, rfl⟩ : ∃ f, fuel = f + 1 := ⟨fuel - 1, by omega⟩
    have hh := ih (j + 1) f (by omega) (by omega)
    unfold wp_X4_tape_67
    refine pk_le len j (fun q => by omega) (fun _ => wp_bitAt1 hL hlen (by omega) rfl ⟨vp_in_nI (by omega) (by decide), fun n11 e11 => ?_⟩)
    rw [e11, nI_1, nI_clamp (by omega), cpT_S]
    exact hh
theorem tape59 (K : Int32 → ModelS → Prop) (L : LineS) (len : Nat) (hlen : len ≤ 160) (T : Nat → Int32) (mI : Nat → Int32) (mL : Nat → Nat → Int64) (h32 : mI 32 = nI len) : ∀ (m j fuel : Nat) (mA : Nat → Nat → Int32), j + m = len → m < fuel → mA 31 = cpT L T j → (∀ q, q < len → mA 18 (800 + q) = L.1 q) → (∀ mA', mA' 31 = cpT L T len → (∀ f, f ≠ 31 → mA' f = mA f) → K (nI len) (mI, mA', mL)) → wp_X5_tape_59 K fuel (mI, mA, mL) (nI j) := by
  intro m
  induction m with
  | zero =>
    intro j fuel mA hj hf h31 h18 hK
    obtain ⟨f, rfl⟩ : ∃ f, fuel = f + 1 := ⟨fuel - 1, by omega⟩
    obtain rfl : j = len := by omega
    unfold wp_X5_tape_59
    rw [h32]
    exact pk_le j j (fun _ => hK mA h31 (fun _ _ => rfl)) (fun q => by omega)
  | succ m ih =>
    intro j fuel mA hj hf h31 h18 hK
    obtain ⟨f, rfl⟩ : ∃ f, fuel = f + 1 := ⟨fuel - 1, by omega⟩
    have hh := ih (j + 1) f (va_up mA 31 (cpT L T (j + 1))) (by omega) (by omega) rfl (fun q hq => h18 q hq) (fun mA' x1 x2 => hK mA' x1 (fun f hf => (x2 f hf).trans (up_n hf)))
    unfold wp_X5_tape_59
    rw [h32, show (800 : Int32) + nI j = nI (800 + j) by rw [lit 800, nI_add], nI_clamp (show 800 + j < 2 ^ 31 by omega), nI_clamp (show j < 2 ^ 31 by omega), h18 j (by omega), h31, cpT_S]
    refine pk_le len j (fun q => by omega) (fun _ => ⟨vp_in_nI (by omega) (by decide), vp_in_nI (by omega) (by decide), fun n13 e13 => ?_⟩)
    rw [e13, nI_1]
    exact hh
theorem wln_len (L0 : LineS) (F : FrameS) {sz : Nat} (h8 : sz ≤ 8) : ∃ n, (xb L0 F sz).2.2.1 = nI n ∧ n ≤ 147 := by
  have hLI := fold_LI (fullB F sz) (clr_LI L0) (fullB_B F sz)
  exact LI_len hLI (by have := (fullB_le (F := F) h8).1; omega)
set_option maxHeartbeats 1000000 in
theorem ok_tape : OKtape Sm := by
  intro n hn S M f p0 h
  have h1 := fun x => (Sim.thr (mI := M.1) (mA := M.2.1) (mL := M.2.2) x h).mono (c1 := 200 * (n + 1)) (by omega)
  have hS := h
  obtain ⟨a1, a2, a3, a4, a5, a6, a7, g, a8, a9, a10⟩ := h
  obtain ⟨state, left, tapeLen, tapeB, tLine, tReader, nodes⟩ := S
  obtain ⟨mI, mA, mL⟩ := M
  dsimp only at h1 a1 a2 a3 a5 a6 a8 a10
  unfold wl_tape
  have bad : ∀ k0 : Int32, ¬ k0 ≤ 0 → ∀ v1 : Int32, wp_X5_tape_25 (fun b M1 => Sm (n + 1) (state, left, tapeLen, tapeB, tLine, tReader, nodes) M1 ∧ M1.1 0 = k0 ∧ (k0 = 0 → f 0 = b.toInt64)) (mI, mA, mL) v1 k0 := by
    intro k0 hk v1
    unfold wp_X5_tape_25
    exact ⟨fun z => absurd z hk, fun _ => ⟨h1 k0, rfl, fun z => absurd (by rw [z]; decide) hk⟩⟩
  rcases node_ix p0 with q | ⟨i, hi, e⟩
  · unfold wp_X4_tape
    refine bad4 q ⟨fun z => absurd rfl z, fun _ => Or.inl ⟨rfl, ?_⟩⟩
    unfold wp_X5_tape
    exact bad5 q ⟨fun z => absurd rfl z, fun _ => bad 1 (by decide) _⟩
  · refine cls_tape hi e ?_
    have hND := a10 i hi
    generalize nodes i = N at hND
    obtain ⟨on, role, wants, sndC, rcvC, nSent, nRcvd, lastF, found, sending, next, wanted, lastR, line, reader⟩ := N
    obtain ⟨b1, ⟨w, w1, w2, w3, w4, w5, w6⟩, b3, b4, b5, b6⟩ := hND
    have hok : ∀ k, k < w → ∃ sz, okF (wanted k) sz := fun k hk => (w4 k hk).2
    refine wp_off2 w1 w3 hok (fun hw0 => ⟨fun z => absurd rfl z, fun _ => Or.inr ⟨rfl, ?_⟩⟩) (fun hw0 => ⟨fun _ => ?_, fun z => ?_⟩)
    · unfold wp_X5_tape
      refine good5 hi e ⟨fun _ => wp_off5 (M := (mI, mA, mL)) hi w2 w3 w4 e (fun _ => ⟨fun z => absurd z (by decide), fun _ => bad 2 (by decide) _⟩) (fun z => by omega), fun z => absurd z (by decide)⟩
    · have hs := offv_lt wanted hw0
      generalize hsd : offv wanted w = s at hs
      obtain ⟨sz, osz⟩ := hok s hs
      have h8 := osz.2.1
      obtain ⟨m, hm, h147⟩ := wln_len tLine (wanted s) h8
      obtain ⟨g1, g2, g3, g4, g5⟩ := wln_facts (F := wanted s) (L0 := tLine) h8 hm h147
      -- the reference
      have hmod : wp_X5_tape (mI, mA, mL) p0 (fun b M1 => Sm (n + 1) (state, left, nI (m + 10), cpT (wln tLine (wanted s) sz) tapeB (m + 10), wln tLine (wanted s) sz, tReader, nodes) M1 ∧ M1.1 0 = 0 ∧ ((0 : Int32) = 0 → (vp_updL f 0 (nI (m + 10)).toInt64) 0 = b.toInt64)) := by
        unfold wp_X5_tape wp_X5_tape_25
        refine good5 hi e ⟨fun _ => wp_off5 (M := (mI, mA, mL)) hi w2 w3 w4 e (fun z => by omega) (fun _ => ⟨fun _ => ⟨fun _ => ?_, fun z => absurd (by decide) z⟩, fun z => absurd (nI_pos' (by have := offv_lt wanted hw0; omega)) z⟩), fun z => absurd z (by decide)⟩
        refine wp_off5 (M := (va_up mI 0 0, mA, mL)) (W := wanted) hi w2 w3 w4 e (fun z => by omega) (fun _ => ?_)
        rw [hsd]
        refine wp_make (M := (va_up mI 0 0, mA, mL)) tLine osz.1 h8 (w := 4 * i + s) (r := 4) (by omega) (by omega) (w4 s hs).1 rfl rfl (fun M1 hM1 => ?_)
        have hfin := hM1.2.2.2
        obtain ⟨f1, f2, f3, f4, f5⟩ := hfin.cells hm h147
        have hl := Loc5.mk hM1
        have e31 : M1.2.1 31 = tapeB := (hM1.1.2.1 31 (by unfold PMS PM PS; omega)).trans a5
        have hi1 : M1.1 1 = mI 1 := hM1.1.1 1 (by unfold PMS PM PS; omega)
        have hi2 : M1.1 2 = mI 2 := hM1.1.1 2 (by unfold PMS PM PS; omega)
        have hi24 : M1.1 24 = mI 24 := hM1.1.1 24 (by unfold PMS PM PS; omega)
        have hi0 : M1.1 0 = 0 := hM1.1.1 0 (by unfold PMS PM PS; omega)
        have hbit : ∀ q, q < m + 10 → M1.2.1 18 (800 + q) = (wln tLine (wanted s) sz).1 q := fun q hq => (Snd.bit (i := 4) h8 hfin hm h147 hq).1
        have hE : ∀ j, j < 4 → EqN j (mI, mA, mL) M1 := fun j hj => EqN.tr EqN.ints (hl.eqN (by omega))
        obtain ⟨mI1, mA1, mL1⟩ := M1
        dsimp only at e31 hi1 hi2 hi24 hi0 hbit f5
        unfold wp_X5_tape_57
        dsimp only
        rw [f5]
        refine tape59 _ (wln tLine (wanted s) sz) (m + 10) (by omega) tapeB (va_up mI1 32 (nI (m + 10))) mL1 rfl (m + 10) 0 1000 mA1 (by omega) (by omega) ?_ hbit (fun mA' x1 x2 => ⟨?_, hi0, fun _ => pk_uLs⟩)
        · rw [e31]
          funext q
          unfold cpT
          rw [if_neg (by omega)]
        · refine Sim.mono (c := 200 * n) ?_ (by omega)
          refine Sim.tp hS rfl rfl rfl hi1 hi2 hi24 ⟨m + 10, by omega, rfl⟩ rfl x1 (fun q => ?_) (fun j hj => (hE j hj).tr ⟨fun f hf _ q _ => by show mA' f q = mA1 f q; rw [x2 f hf], fun _ _ _ => rfl⟩)
          show isB (cpT (wln tLine (wanted s) sz) tapeB (m + 10) q)
          unfold cpT
          by_cases hq : q < m + 10
          · rw [if_pos hq]
            exact (Snd.bit (i := 4) h8 hfin hm h147 hq).2
          · rw [if_neg hq]
            exact a6 q
      have hcl : ∀ j : Nat, j < 4 → nI s = nI j → wp_X1_write tLine (wanted j) (fun u6 => wp_X4_tape_67 (fun r u => wp_X5_tape (mI, mA, mL) p0 (fun b M1 => Sm (n + 1) u M1 ∧ M1.1 0 = 0 ∧ ((0 : Int32) = 0 → (vp_updL f 0 r.toInt64) 0 = b.toInt64))) (fun E u => (E = "java/lang/IndexOutOfBoundsException" ∧ wp_X5_tape (mI, mA, mL) p0 (fun b M1 => Sm (n + 1) u M1 ∧ M1.1 0 = 1 ∧ ((1 : Int32) = 0 → f 0 = b.toInt64))) ∨ (E = "java/util/NoSuchElementException" ∧ wp_X5_tape (mI, mA, mL) p0 (fun b M1 => Sm (n + 1) u M1 ∧ M1.1 0 = 2 ∧ ((2 : Int32) = 0 → f 0 = b.toInt64)))) 1000 (state, left, u6.2.2.1, tapeB, u6, tReader, nodes) 0) := by
        intro j hj ej
        have ej := (nI_eq (by omega) (by omega)).mp ej
        subst ej
        refine wp_write osz.1 h8 ?_
        have e0 : cpT (wln tLine (wanted s) sz) tapeB 0 = tapeB := by
          funext q
          unfold cpT
          rw [if_neg (by omega)]
        have := tape67 (fun r u => wp_X5_tape (mI, mA, mL) p0 (fun b M1 => Sm (n + 1) u M1 ∧ M1.1 0 = 0 ∧ ((0 : Int32) = 0 → (vp_updL f 0 r.toInt64) 0 = b.toInt64))) (fun E u => (E = "java/lang/IndexOutOfBoundsException" ∧ wp_X5_tape (mI, mA, mL) p0 (fun b M1 => Sm (n + 1) u M1 ∧ M1.1 0 = 1 ∧ ((1 : Int32) = 0 → f 0 = b.toInt64))) ∨ (E = "java/util/NoSuchElementException" ∧ wp_X5_tape (mI, mA, mL) p0 (fun b M1 => Sm (n + 1) u M1 ∧ M1.1 0 = 2 ∧ ((2 : Int32) = 0 → f 0 = b.toInt64)))) (wln tLine (wanted s) sz) (m + 10) g1 (by omega) tapeB state left tReader nodes hmod (m + 10) 0 1000 (by omega) (by omega)
        rw [e0] at this
        rw [g1]
        exact this
      exact ⟨vp_in_nI (by omega) (by decide), fun ej => hcl 0 (by omega) ej, fun ej => hcl 1 (by omega) ej, fun ej => hcl 2 (by omega) ej, fun ej => hcl 3 (by omega) ej⟩
    · have : ∀ j : Fin 4, ¬ nI j.val = -1 := by decide
      exact absurd z (this ⟨offv wanted w, by have := offv_lt wanted hw0; omega⟩)
