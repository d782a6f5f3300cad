/-! read -/
set_option maxHeartbeats 1000000 in
theorem read_sim {z : Nat} (hz : z ≤ 200) {T : Nat → Int32} (hT : ∀ j, isB (T j)) : ∀ (m j : Nat) (R : ReaderS), j + m = z → (∃ ρ, WF ρ ∧ RD R ρ ∧ ρ.2.2.2.2.2 ≤ 9) → ∃ (r : Int32) (R1 : ReaderS), (∀ (state left : Int32) (tLine : LineS) (nodes : Nat → NodeS) (K : Int32 → WireS → Prop) (fuel : Nat), m + 1 < fuel → K r (state, left, nI z, T, tLine, R1, nodes) → wp_X4_read_9 K fuel (state, left, nI z, T, tLine, R, nodes) (nI j)) ∧ ∀ (M1 : ModelS) (ρ : RowS), RowIs M1 4 ρ → WF ρ → RD R ρ → ρ.2.2.2.2.2 ≤ 9 → M1.1 32 = nI z → M1.2.1 31 = T → ∀ (K : Int32 → ModelS → Prop) (fuel : Nat), m < fuel → (∀ M2, Fr PT M1 M2 → RowF 4 M1 M2 → K r M2) → wp_X5_read_12 K fuel M1 (nI j) := by
  intro m
  induction m with
  | zero =>
    intro j R hj hex
    obtain ⟨ρ0, x1, x2, x3⟩ := hex
    obtain rfl : j = z := by omega
    refine ⟨4000 + nI j, R, fun state left tLine nodes K fuel hf hK => ?_, fun M1 ρ r1 r2 r3 r4 e32 e31 K fuel hf hK => ?_⟩
    · obtain ⟨f, rfl⟩ : ∃ f, fuel = f + 1 := ⟨fuel - 1, by omega⟩
      unfold wp_X4_read_9
      exact pk_le j j (fun _ => wp_isFin (fun q => absurd q (x2.tail x3)) (fun _ => ⟨fun _ => hK, fun q => absurd rfl q⟩)) (fun q => by omega)
    · obtain ⟨f, rfl⟩ : ∃ f, fuel = f + 1 := ⟨fuel - 1, by omega⟩
      have kk := hK M1 Fr.rf RowF.rf
      obtain ⟨mI, mA, mL⟩ := M1
      dsimp only at e32
      unfold wp_X5_read_12
      rw [e32]
      exact pk_le j j (fun _ => kk) (fun q => by omega)
  | succ m ih =>
    intro j R hj hex
    obtain ⟨ρ0, x1, x2, x3⟩ := hex
    have hb := hT j
    obtain ⟨s1, s2, s3⟩ := take_sim x1 x2 hb x3
    -- the class goes into its loop
    have cls : ∀ (state left : Int32) (tLine : LineS) (nodes : Nat → NodeS) (K : Int32 → WireS → Prop) (f : Nat), ((tk R (T j)).1 = 0 → wp_X4_read_9 K f (state, left, nI z, T, tLine, (tk R (T j)).2, nodes) (nI (j + 1))) → (¬ (tk R (T j)).1 = 0 → K ((1000 * (tk R (T j)).1) + nI j) (state, left, nI z, T, tLine, (tk R (T j)).2, nodes)) → wp_X4_read_9 K (f + 1) (state, left, nI z, T, tLine, R, nodes) (nI j) := by
      intro state left tLine nodes K f k0 k1
      unfold wp_X4_read_9
      refine pk_le z j (fun q => by omega) (fun _ => wp_isFin (fun q => absurd q (x2.tail x3)) (fun _ => ⟨fun _ => ⟨vp_in_nI (by omega) (by decide), ?_⟩, fun q => absurd rfl q⟩))
      rw [nI_clamp (by omega)]
      refine wp_tk ⟨fun q n13 e13 => ?_, fun q => k1 q⟩
      rw [e13, nI_1]
      exact k0 q
    -- the reference
    have mod : ∀ (M1 : ModelS) (ρ : RowS), RowIs M1 4 ρ → WF ρ → RD R ρ → ρ.2.2.2.2.2 ≤ 9 → M1.1 32 = nI z → M1.2.1 31 = T → ∀ (K : Int32 → ModelS → Prop) (f : Nat), (∀ M2, Fr PT M1 M2 → RowF 4 M1 M2 → RowIs M2 4 (rtk ρ (T j)).2 → ((¬ (rtk ρ (T j)).1 = 9 → (((rtk ρ (T j)).1 ≤ 0 → wp_X5_read_12 K f M2 (nI (j + 1))) ∧ (¬ (rtk ρ (T j)).1 ≤ 0 → K ((1000 * (rtk ρ (T j)).1) + nI j) M2))) ∧ ((rtk ρ (T j)).1 = 9 → ((¬ j + 1 = z → K (5001 + nI j) M2) ∧ (j + 1 = z → K 0 M2))))) → wp_X5_read_12 K (f + 1) M1 (nI j) := by
      intro M1 ρ r1 r2 r3 r4 e32 e31 K f hK
      have htk : wp_X5_take M1 4 (T j) (fun r4 u5 => ((¬ r4 = 9 → ((r4 ≤ 0 → (∀ n8 : Int32, n8 = nI j + 1 → wp_X5_read_12 K f (u5.1, u5.2.1, u5.2.2) n8)) ∧ (¬ r4 ≤ 0 → K ((1000 * r4) + nI j) (u5.1, u5.2.1, u5.2.2)))) ∧ (r4 = 9 → ((¬ nI j + 1 = u5.1 32 → K (5001 + nI j) (u5.1, u5.2.1, u5.2.2)) ∧ (nI j + 1 = u5.1 32 → K 0 (u5.1, u5.2.1, u5.2.2)))))) := by
        refine wp_take5 (by omega) r1 r2 (by omega) hb rfl (fun M2 gF gR gI => ?_)
        obtain ⟨k1, k2⟩ := hK M2 gF gR gI
        have e32' : M2.1 32 = nI z := (gF.1 32 (by unfold PT; omega)).trans e32
        have ej : nI j + 1 = M2.1 32 ↔ j + 1 = z := by rw [e32', nI_1]; exact nI_eq (by omega) (by omega)
        refine ⟨fun q => ⟨fun q1 n8 e8 => ?_, fun q1 => (k1 q).2 q1⟩, fun q => ⟨fun q1 => (k2 q).1 (fun y => q1 (ej.mpr y)), fun q1 => (k2 q).2 (ej.mp q1)⟩⟩
        rw [e8, nI_1]
        exact (k1 q).1 q1
      obtain ⟨mI, mA, mL⟩ := M1
      dsimp only at e32 e31
      unfold wp_X5_read_12
      rw [e32, e31, nI_clamp (by omega)]
      exact pk_le z j (fun q => by omega) (fun _ => ⟨vp_in_nI (by omega) (by decide), htk⟩)
    by_cases h0 : (tk R (T j)).1 = 0
    · obtain ⟨t1, t2, t3⟩ := s2 h0
      by_cases h9 : (tk R (T j)).2.2.1 = 10
      · -- that was the last bit
        refine ⟨(if j + 1 = z then 0 else 5001 + nI j), (tk R (T j)).2, fun state left tLine nodes K fuel hf hK => ?_, fun M1 ρ r1 r2 r3 r4 e32 e31 K fuel hf hK => ?_⟩
        · obtain ⟨f, rfl⟩ : ∃ f, fuel = f + 1 := ⟨fuel - 1, by omega⟩
          obtain ⟨f', rfl⟩ : ∃ f', f = f' + 1 := ⟨f - 1, by omega⟩
          refine cls state left tLine nodes K _ (fun _ => ?_) (fun q => absurd h0 q)
          unfold wp_X4_read_9
          refine pk_le z (j + 1) (fun q => wp_isFin (fun _ => ⟨fun y => absurd y (by decide), fun _ => ?_⟩) (fun y => absurd h9 y)) (fun q => wp_isFin (fun _ => ⟨fun y => absurd y (by decide), fun _ => ?_⟩) (fun y => absurd h9 y))
          · rw [if_pos (by omega)] at hK; exact hK
          · rw [if_neg (by omega)] at hK
            rw [lit 5000, nI_add, show 5000 + (j + 1) = 5001 + j by omega, ← nI_add]
            exact hK
        · obtain ⟨f, rfl⟩ : ∃ f, fuel = f + 1 := ⟨fuel - 1, by omega⟩
          obtain ⟨y1, y2, y3⟩ := take_sim r2 r3 hb r4
          have e9 : (rtk ρ (T j)).1 = 9 := (y2 h0).2.1.mpr h9
          refine mod M1 ρ r1 r2 r3 r4 e32 e31 K f (fun M2 gF gR gI => ⟨fun q => absurd e9 q, fun _ => ⟨fun q => ?_, fun q => ?_⟩⟩)
          · have := hK M2 gF gR
            rw [if_neg q] at this; exact this
          · have := hK M2 gF gR
            rw [if_pos q] at this; exact this
      · -- it goes on
        have ht9 : (rtk ρ0 (T j)).2.2.2.2.2.2 ≤ 9 := t3.elim id (fun q => absurd (t2.mp q) h9)
        obtain ⟨r, R1, ic, im⟩ := ih (j + 1) (tk R (T j)).2 (by omega) ⟨_, rtk_WF x1 hb, t1, ht9⟩
        refine ⟨r, R1, fun state left tLine nodes K fuel hf hK => ?_, fun M1 ρ r1 r2 r3 r4 e32 e31 K fuel hf hK => ?_⟩
        · obtain ⟨f, rfl⟩ : ∃ f, fuel = f + 1 := ⟨fuel - 1, by omega⟩
          exact cls state left tLine nodes K f (fun _ => ic state left tLine nodes K f (by omega) hK) (fun q => absurd h0 q)
        · obtain ⟨f, rfl⟩ : ∃ f, fuel = f + 1 := ⟨fuel - 1, by omega⟩
          obtain ⟨y1, y2, y3⟩ := take_sim r2 r3 hb r4
          obtain ⟨u1, u2, u3⟩ := y2 h0
          have n9 : ¬ (rtk ρ (T j)).1 = 9 := fun q => h9 (u2.mp q)
          have er : (rtk ρ (T j)).1 = 0 := by
            rcases y1 with y1 | ⟨y1, -⟩
            · rw [y1]; exact h0
            · exact absurd y1 n9
          refine mod M1 ρ r1 r2 r3 r4 e32 e31 K f (fun M2 gF gR gI => ⟨fun _ => ⟨fun _ => ?_, fun q => absurd (by rw [er]; decide) q⟩, fun q => absurd q n9⟩)
          exact im M2 _ gI (rtk_WF r2 hb) u1 (u3.elim id (fun q => absurd q n9)) ((gF.1 32 (by unfold PT; omega)).trans e32) ((gF.2.1 31 (by unfold PT; omega)).trans e31) K f (by omega) (fun M3 hF hR => hK M3 (gF.tr hF) (gR.tr hR))
    · -- a fault
      refine ⟨(1000 * (tk R (T j)).1) + nI j, (tk R (T j)).2, fun state left tLine nodes K fuel hf hK => ?_, fun M1 ρ r1 r2 r3 r4 e32 e31 K fuel hf hK => ?_⟩
      · obtain ⟨f, rfl⟩ : ∃ f, fuel = f + 1 := ⟨fuel - 1, by omega⟩
        exact cls state left tLine nodes K f (fun q => absurd q h0) (fun _ => hK)
      · obtain ⟨f, rfl⟩ : ∃ f, fuel = f + 1 := ⟨fuel - 1, by omega⟩
        obtain ⟨y1, y2, y3⟩ := take_sim r2 r3 hb r4
        have er : (rtk ρ (T j)).1 = (tk R (T j)).1 := by
          rcases y1 with y1 | ⟨-, y1⟩
          · exact y1
          · exact absurd y1 h0
        have hne : ¬ (tk R (T j)).1 = 9 ∧ ¬ (tk R (T j)).1 ≤ 0 := by
          rcases y3 with y3 | y3 | y3 | y3
          · exact absurd y3 h0
          · rw [y3]; decide
          · rw [y3]; decide
          · rw [y3]; decide
        refine mod M1 ρ r1 r2 r3 r4 e32 e31 K f (fun M2 gF gR gI => ?_)
        rw [er]
        exact ⟨fun _ => ⟨fun q => absurd q hne.2, fun _ => hK M2 gF gR⟩, fun q => absurd q hne.1⟩
theorem ok_read : OKread Sm := by
  intro n hn S M h
  have hS := h
  obtain ⟨a1, a2, a3, a4, a5, a6, a7, g, a8, a9, a10⟩ := h
  obtain ⟨z, hz, ez⟩ := a4
  obtain ⟨state, left, tapeLen, tapeB, tLine, tReader, nodes⟩ := S
  obtain ⟨mI, mA, mL⟩ := M
  dsimp only at a1 a2 a3 a5 a6 a8 ez
  subst ez
  obtain ⟨r, R1, ic, im⟩ := read_sim hz a6 z 0 beginR (by omega) ⟨row0 (fun _ => 0), row0_WF _, row0_RD _, Nat.zero_le 9⟩
  unfold wp_X4_read
  refine wp_begin3 (ic state left tLine nodes _ 1000 (by omega) ?_)
  unfold wp_X5_read
  refine wp_begin5 (M := (va_up mI 0 0, mA, mL)) (r := 4) (by omega) rfl (fun M1 β hF hR hI => ?_)
  refine im M1 (row0 β) hI (row0_WF β) (row0_RD β) (Nat.zero_le 9) ((hF.1 32 (by unfold PT; omega)).trans a3) ((hF.2.1 31 (by unfold PT; omega)).trans a5) _ 1000 (by omega) (fun M2 gF gR => ⟨?_, rfl⟩)
  have hF2 := hF.tr gF
  have hl := Loc5.row hF2 (hR.tr gR)
  refine Sim.mono (c := 200 * n) ?_ (by omega)
  exact Sim.tp hS rfl rfl rfl (hF2.1 1 (by unfold PT; omega)) (hF2.1 2 (by unfold PT; omega)) (hF2.1 24 (by unfold PT; omega)) ⟨z, hz, rfl⟩ ((hF2.1 32 (by unfold PT; omega)).trans a3) ((hF2.2.1 31 (by unfold PT; omega)).trans a5) a6 (fun i hi => EqN.tr EqN.ints (hl.eqN (by omega)))
