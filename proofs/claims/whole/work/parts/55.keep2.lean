/-! the reference keeps a frame -/
/-- of the rows in P only place r changes, of the long rows only place r of 16 -/
def At (P : Nat → Prop) (r : Nat) (M M1 : ModelS) : Prop := M1.1 = M.1 ∧ (∀ f, ¬ P f → M1.2.1 f = M.2.1 f) ∧ (∀ f, P f → ∀ q, q ≠ r → M1.2.1 f q = M.2.1 f q) ∧ (∀ f, f ≠ 16 → M1.2.2 f = M.2.2 f) ∧ (∀ q, q ≠ r → M1.2.2 16 q = M.2.2 16 q)
theorem At.rf {P : Nat → Prop} {r : Nat} {M : ModelS} : At P r M M := ⟨rfl, fun _ _ => rfl, fun _ _ _ _ => rfl, fun _ _ => rfl, fun _ _ => rfl⟩
theorem At.tr {P : Nat → Prop} {r : Nat} {M M1 M2 : ModelS} (a : At P r M M1) (b : At P r M1 M2) : At P r M M2 := ⟨b.1.trans a.1, fun f h => (b.2.1 f h).trans (a.2.1 f h), fun f h q hq => (b.2.2.1 f h q hq).trans (a.2.2.1 f h q hq), fun f h => (b.2.2.2.1 f h).trans (a.2.2.2.1 f h), fun q h => (b.2.2.2.2 q h).trans (a.2.2.2.2 q h)⟩
theorem At.row {P : Nat → Prop} {r : Nat} {M M1 : ModelS} (a : At P r M M1) {f : Nat} (h : ¬ P f) : M1.2.1 f = M.2.1 f := a.2.1 f h
/-- one place of one row -/
theorem At.one {P : Nat → Prop} {r f0 : Nat} {x : Int32} (hP : P f0) {mI : Nat → Int32} {mA : Nat → Nat → Int32} {mL : Nat → Nat → Int64} : At P r (mI, mA, mL) (mI, va_up mA f0 (upd (mA f0) r x), mL) := by
  refine ⟨rfl, fun f h => up_n (fun e => h (e ▸ hP)), fun f _ q hq => ?_, fun _ _ => rfl, fun _ _ => rfl⟩
  by_cases e : f = f0
  · subst e
    exact (congrFun (up_s (f := mA) (k := f) (v := upd (mA f) r x)) q).trans (pk_un hq)
  · exact congrFun (up_n e) q
theorem At.lng {P : Nat → Prop} {r : Nat} {x : Int64} {mI : Nat → Int32} {mA : Nat → Nat → Int32} {mL : Nat → Nat → Int64} : At P r (mI, mA, mL) (mI, mA, va_up mL 16 (vp_updL (mL 16) r x)) :=
  ⟨rfl, fun _ _ => rfl, fun _ _ _ _ => rfl, fun f h => up_n h, fun q hq => (congrFun (up_s (f := mL) (k := 16) (v := vp_updL (mL 16) r x)) q).trans (pk_uLn hq)⟩
def PK (f : Nat) : Prop := f = 3 ∨ f = 5 ∨ f = 7 ∨ f = 14 ∨ f = 15 ∨ f = 17
def decv (x : Int32) : Int32 := if x ≤ 0 then 0 else x - 1
theorem keep165 {K : ModelS → Prop} {mI : Nat → Int32} {mA : Nat → Nat → Int32} {mL : Nat → Nat → Int64} {r : Nat} (hr : r < 4) {v1 k0 k1 : Int32} (h1 : v1 = nI r) (h2 : k1 = nI r) (h : K (mI, va_up (va_up mA 5 (upd (mA 5) r k0)) 3 (upd (mA 3) r 1), mL)) : wp_X5_keep_165 K (mI, mA, mL) v1 k0 k1 := by
  have hin : vp_in (nI r) 4 := vp_in_nI hr (by decide)
  unfold wp_X5_keep_165
  dsimp only
  rw [h1, h2, nI_clamp (by omega)]
  exact ⟨hin, hin, h⟩
theorem keep71 (K : ModelS → Prop) (r : Nat) (hr : r < 4) (β : Nat → Int32) (sz : Nat) (hz : sz ≤ 8) (M : ModelS) (hβ : ∀ j, j < 128 → M.2.1 25 (128 * r + j) = β j) (h17 : M.2.1 17 r = nI sz) (v2 : Int32) (s : Nat) (hs : (v2 = 0 ∧ s = 19) ∨ (¬ v2 = 0 ∧ s = 39))
    (h : ∀ M1, At PK r M M1 → M1.2.1 14 = M.2.1 14 → M1.2.1 15 = M.2.1 15 → M1.2.1 17 = M.2.1 17 → M1.2.2 16 r = rdt β s sz → M1.2.1 7 r = M.2.1 7 r + 1 → M1.2.1 5 r = decv (M.2.1 5 r) → M1.2.1 3 r = 1 → K M1) : ∀ (m i fuel : Nat) (v1 v5 : Int32) (v3 : Int64), i + m = sz → m < fuel → v1 = nI r → v5 = nI i → v3 = rdt β s i → wp_X5_keep_71 K fuel M v1 v2 v3 v5 := by
  intro m
  induction m with
  | zero =>
    intro i fuel v1 v5 v3 hi hf h1 h5 h3
    cases fuel with
    | zero => omega
    | succ f =>
      have hin : vp_in v1 4 := by rw [h1]; exact vp_in_nI hr (by decide)
      have hcl : v1.toNatClampNeg = r := by rw [h1]; exact nI_clamp (by omega)
      have ei : i = sz := by omega
      subst ei
      obtain ⟨mI, mA, mL⟩ := M
      have hend : ∀ k0 : Int32, k0 = decv (mA 5 r) → wp_X5_keep_165 K (mI, va_up mA 7 (upd (mA 7) r (mA 7 r + 1)), va_up mL 16 (vp_updL (mL 16) r v3)) v1 k0 v1 := by
        intro k0 hk0
        refine keep165 hr h1 h1 (h _ ?_ ?_ ?_ ?_ ?_ ?_ ?_ ?_)
        · have a1 : At PK r (mI, mA, mL) (mI, mA, va_up mL 16 (vp_updL (mL 16) r v3)) := At.lng
          have a2 : At PK r (mI, mA, va_up mL 16 (vp_updL (mL 16) r v3)) (mI, va_up mA 7 (upd (mA 7) r (mA 7 r + 1)), va_up mL 16 (vp_updL (mL 16) r v3)) := At.one (by unfold PK; omega)
          have a3 : At PK r (mI, va_up mA 7 (upd (mA 7) r (mA 7 r + 1)), va_up mL 16 (vp_updL (mL 16) r v3)) _ := At.one (f0 := 5) (x := k0) (by unfold PK; omega)
          have a4 : At PK r (mI, va_up (va_up mA 7 (upd (mA 7) r (mA 7 r + 1))) 5 (upd ((va_up mA 7 (upd (mA 7) r (mA 7 r + 1))) 5) r k0), va_up mL 16 (vp_updL (mL 16) r v3)) _ := At.one (f0 := 3) (x := 1) (by unfold PK; omega)
          exact ((a1.tr a2).tr a3).tr a4
        · rfl
        · rfl
        · rfl
        · exact pk_uLs.trans h3
        · exact pk_us
        · exact pk_us.trans hk0
        · exact pk_us
      unfold wp_X5_keep_71
      rw [hcl, show mA 17 r = nI i from h17, h5]
      refine ⟨hin, fun _ => ⟨hin, hin, hin, hin, fun a => hend 0 ?_, fun a => ⟨hin, hend (mA 5 r - 1) ?_⟩⟩, fun h9 => absurd (nI_le (Nat.le_refl _) (by omega)) h9⟩
      · unfold decv
        rw [if_pos a]
      · unfold decv
        rw [if_neg a]
  | succ m ih =>
    intro i fuel v1 v5 v3 hi hf h1 h5 h3
    cases fuel with
    | zero => omega
    | succ f =>
      have hin : vp_in v1 4 := by rw [h1]; exact vp_in_nI hr (by decide)
      have hcl : v1.toNatClampNeg = r := by rw [h1]; exact nI_clamp (by omega)
      have h96 : ∀ k0 : Int32, k0 = nI s → wp_X5_keep_96 K (wp_X5_keep_71 K f) M v1 v2 v5 k0 v1 v3 := by
        intro k0 hk0
        have hn : wp_X5_number M v1 (k0 + (8 * v5)) 8 (fun r22 => (∀ n24 : Int64, n24 = v3 ||| (r22.toInt64 <<< ((8 * v5).toInt64 &&& 63)) → (∀ n25 : Int32, n25 = v5 + 1 → wp_X5_keep_71 K f M v1 v2 n24 n25))) := by
          refine wp_num (by omega) hβ (s := s + 8 * i) (many := 8) (by omega) h1 (by rw [hk0, h5, lit 8, pk_mul, nI_add]) e8 ?_
          intro n24 e24 n25 e25
          refine ih (i + 1) f v1 n25 n24 (by omega) (by omega) h1 (by rw [e25, h5, nI_1]) ?_
          rw [e24, h3, h5]
          rfl
        obtain ⟨mI, mA, mL⟩ := M
        unfold wp_X5_keep_96
        exact hn
      obtain ⟨mI, mA, mL⟩ := M
      unfold wp_X5_keep_71
      rw [hcl, show mA 17 r = nI sz from h17, h5]
      rw [h5] at h96
      refine ⟨hin, fun h9 => absurd h9 (nI_ge (by omega) (by omega)), fun _ => ⟨fun a => h96 19 ?_, fun a => h96 39 ?_⟩⟩
      · rcases hs with ⟨x, y⟩ | ⟨x, y⟩
        · rw [y]; rfl
        · exact absurd a x
      · rcases hs with ⟨x, y⟩ | ⟨x, y⟩
        · exact absurd x a
        · rw [y]; rfl
theorem keep54 {K : ModelS → Prop} {r : Nat} (hr : r < 4) {β : Nat → Int32} {M : ModelS} (hβ : ∀ j, j < 128 → M.2.1 25 (128 * r + j) = β j) (hB : ∀ j, sp β ≤ j → j < sp β + 4 → isB (β j)) {v1 v2 k0 k1 : Int32} (h1 : v1 = nI r) (h2 : k1 = nI r) (hs : (v2 = 0 ∧ sp β = 15) ∨ (¬ v2 = 0 ∧ sp β = 35))
    (h : ∀ M1, At PK r M M1 → M1.2.1 14 = M.2.1 14 → M1.2.1 15 r = k0 → M1.2.1 17 r = nI (szn β) → M1.2.2 16 r = rdt β (sp β + 4) (szn β) → M1.2.1 7 r = M.2.1 7 r + 1 → M1.2.1 5 r = decv (M.2.1 5 r) → M1.2.1 3 r = 1 → K M1) : wp_X5_keep_54 K M v1 v2 k0 k1 := by
  have hin : vp_in v1 4 := by rw [h1]; exact vp_in_nI hr (by decide)
  have hcl : v1.toNatClampNeg = r := by rw [h1]; exact nI_clamp (by omega)
  have hin1 : vp_in k1 4 := by rw [h2]; exact vp_in_nI hr (by decide)
  have hcl1 : k1.toNatClampNeg = r := by rw [h2]; exact nI_clamp (by omega)
  obtain ⟨mI, mA, mL⟩ := M
  unfold wp_X5_keep_54
  dsimp only
  rw [hcl, hcl1]
  refine ⟨hin1, wp_bytesOf (M := (mI, va_up mA 15 (upd (mA 15) r k0), mL)) (by omega) hβ hB h1 ⟨hin, ?_⟩⟩
  have a1 : At PK r (mI, mA, mL) (mI, va_up mA 15 (upd (mA 15) r k0), mL) := At.one (by unfold PK; omega)
  have a2 : At PK r (mI, va_up mA 15 (upd (mA 15) r k0), mL) (mI, va_up (va_up mA 15 (upd (mA 15) r k0)) 17 (upd (mA 17) r (nI (szn β))), mL) := At.one (f0 := 17) (by unfold PK; omega)
  refine keep71 K r hr β (szn β) (szn_le β) (mI, va_up (va_up mA 15 (upd (mA 15) r k0)) 17 (upd (mA 17) r (nI (szn β))), mL) hβ pk_us v2 (sp β + 4) ?_ (fun M1 b0 b1 b2 b3 b4 b5 b6 b7 => h M1 ((a1.tr a2).tr b0) b1 ?_ ?_ b4 b5 b6 b7) (szn β) 0 1000 v1 0 0 (by omega) (by have := szn_le β; omega) h1 rfl rfl
  · rcases hs with ⟨x, y⟩ | ⟨x, y⟩
    · exact Or.inl ⟨x, by omega⟩
    · exact Or.inr ⟨x, by omega⟩
  · rw [b2]
    exact pk_us
  · rw [b3]
    exact pk_us
theorem wp_keep5 {K : ModelS → Prop} {r : Nat} (hr : r < 4) {β : Nat → Int32} {M : ModelS} (hβ : ∀ j, j < 128 → M.2.1 25 (128 * r + j) = β j) (hB : ∀ j, j < sp β + 4 → isB (β j)) {v1 : Int32} (h1 : v1 = nI r)
    (h : ∀ M1, At PK r M M1 → M1.2.1 14 r = (if β 13 = 1 then 1 else 0) → M1.2.1 15 r = (if β 13 = 1 then nw β 14 (nv β 1 11) 18 else nv β 1 11) → M1.2.1 17 r = nI (szn β) → M1.2.2 16 r = rdt β (sp β + 4) (szn β) → M1.2.1 7 r = M.2.1 7 r + 1 → M1.2.1 5 r = decv (M.2.1 5 r) → M1.2.1 3 r = 1 → K M1) : wp_X5_keep M v1 K := by
  have hin : vp_in v1 4 := by rw [h1]; exact vp_in_nI hr (by decide)
  have hcl : v1.toNatClampNeg = r := by rw [h1]; exact nI_clamp (by omega)
  have hsp := sp_le β
  obtain ⟨mI, mA, mL⟩ := M
  unfold wp_X5_keep
  dsimp only
  rw [hcl]
  refine wp_isLong (M := (mI, mA, mL)) (by omega) hβ h1 ?_
  by_cases lg : β 13 = 1
  · rw [if_pos lg]
    have es : sp β = 35 := by unfold sp; rw [if_pos lg]
    rw [if_pos lg, if_pos lg] at h
    refine ⟨hin, bz_1, fun q => absurd q (by decide), fun _ => wp_num (M := (mI, va_up mA 14 (upd (mA 14) r 1), mL)) (by omega) hβ (s := 1) (many := 11) (by omega) h1 rfl rfl (wp_num (M := (mI, va_up mA 14 (upd (mA 14) r 1), mL)) (by omega) hβ (s := 14) (many := 18) (by omega) h1 rfl rfl ?_)⟩
    rw [← id_long β (fun j hj => hB j (by omega))]
    have a1 : At PK r (mI, mA, mL) (mI, va_up mA 14 (upd (mA 14) r 1), mL) := At.one (by unfold PK; omega)
    refine keep54 (M := (mI, va_up mA 14 (upd (mA 14) r 1), mL)) hr hβ (fun j a c => hB j c) h1 h1 (Or.inr ⟨by decide, es⟩) (fun M1 b0 b1 b2 b3 b4 b5 b6 b7 => h M1 (a1.tr b0) ?_ b2 b3 b4 b5 b6 b7)
    rw [b1]
    exact pk_us
  · rw [if_neg lg]
    have es : sp β = 15 := by unfold sp; rw [if_neg lg]
    rw [if_neg lg, if_neg lg] at h
    refine ⟨hin, bz_0, fun _ => wp_num (M := (mI, va_up mA 14 (upd (mA 14) r 0), mL)) (by omega) hβ (s := 1) (many := 11) (by omega) h1 rfl rfl ?_, fun q => absurd rfl q⟩
    have a1 : At PK r (mI, mA, mL) (mI, va_up mA 14 (upd (mA 14) r 0), mL) := At.one (by unfold PK; omega)
    refine keep54 (M := (mI, va_up mA 14 (upd (mA 14) r 0), mL)) hr hβ (fun j a c => hB j c) h1 h1 (Or.inl ⟨rfl, es⟩) (fun M1 b0 b1 b2 b3 b4 b5 b6 b7 => h M1 (a1.tr b0) ?_ b2 b3 b4 b5 b6 b7)
    rw [b1]
    exact pk_us
