/-! the reference's reader: a row of bits and its numbers -/
def nw (β : Nat → Int32) (s : Nat) (v : Int32) : Nat → Int32
  | 0 => v
  | m + 1 => 2 * nw β s v m + β (s + m)
def nv (β : Nat → Int32) (s m : Nat) : Int32 := nw β s 0 m
def cr (β : Nat → Int32) : Nat → Int32
  | 0 => 0
  | m + 1 => nc (cr β m) (β m)
theorem cr_ck (β : Nat → Int32) : ∀ m, ck (cr β m)
  | 0 => ck_0
  | _ + 1 => nc_ck
def b01 (x : Int32) : Nat := if x = 1 then 1 else 0
theorem b01_eq {x : Int32} (h : isB x) : x = nI (b01 x) := by
  rcases h with rfl | rfl <;> decide
theorem b01_le (x : Int32) : b01 x ≤ 1 := by
  unfold b01
  split <;> omega
def nvn (β : Nat → Int32) (s : Nat) : Nat → Nat
  | 0 => 0
  | m + 1 => 2 * nvn β s m + b01 (β (s + m))
theorem nvn_lt (β : Nat → Int32) (s : Nat) : ∀ m, nvn β s m < 2 ^ m
  | 0 => Nat.zero_lt_one
  | m + 1 => by
    have h1 := nvn_lt β s m
    have h2 := b01_le (β (s + m))
    unfold nvn
    rw [Nat.pow_succ]
    omega
theorem nv_nvn (β : Nat → Int32) (s : Nat) : ∀ m, (∀ j, s ≤ j → j < s + m → isB (β j)) → nv β s m = nI (nvn β s m)
  | 0, _ => rfl
  | m + 1, h => by
    have h1 := nv_nvn β s m (fun j a b => h j a (by omega))
    show 2 * nv β s m + β (s + m) = nI (2 * nvn β s m + b01 (β (s + m)))
    rw [h1, e2, pk_mul, b01_eq (h (s + m) (by omega) (by omega)), nI_add]
    rw [← b01_eq (h (s + m) (by omega) (by omega))]
def sp (β : Nat → Int32) : Nat := if β 13 = 1 then 35 else 15
def szn (β : Nat → Int32) : Nat := min 8 (nvn β (sp β) 4)
theorem szn_le (β : Nat → Int32) : szn β ≤ 8 := Nat.min_le_left _ _
theorem sp_le (β : Nat → Int32) : 15 ≤ sp β ∧ sp β ≤ 35 := by
  unfold sp
  split <;> omega
/-- bits, count, run, last, need, tail -/
abbrev RowS : Type := (Nat → Int32) × Nat × Int32 × Int32 × Nat × Nat
def WF (ρ : RowS) : Prop := (∀ j, j < ρ.2.1 → isB (ρ.1 j)) ∧ ((ρ.2.2.2.2.1 = 999 ∧ (ρ.2.1 < 19 ∨ (ρ.1 13 = 1 ∧ ρ.2.1 < 39))) ∨ (ρ.2.2.2.2.1 = sp ρ.1 + 4 + 8 * szn ρ.1 + 15 ∧ sp ρ.1 + 4 ≤ ρ.2.1 ∧ ρ.2.1 ≤ ρ.2.2.2.2.1))
abbrev right (β : Nat → Int32) (nd : Nat) : Prop := cr β (nd - 15) = nv β (nd - 15) 15
def upb (β : Nat → Int32) (k : Nat) (b : Int32) : Nat → Int32 := fun j => if j = k then b else β j
def nd1 (β : Nat → Int32) (k nd : Nat) : Nat := if 13 < k ∧ k = sp β + 4 then k + 8 * szn β + 15 else nd
def rtk : RowS → Int32 → Int32 × RowS := fun (β, k, al, la, nd, t) b =>
  if k = nd then (if t = 2 ∧ ¬ right β nd then 2 else if ¬ t = 1 ∧ b = 0 then 3 else if t = 9 then 9 else 0, (β, k, al, la, nd, t + 1))
  else if al = 5 then (if b = la then (1, (β, k, al, la, nd, t)) else (0, (β, k, 1, b, nd, t)))
  else if k = 0 ∧ b = 1 then (3, (β, k, al, la, nd, t))
  else (0, (upb β k b, k + 1, (if b = la then al + 1 else 1), b, nd1 (upb β k b) (k + 1) nd, t))
def RowIs (M : ModelS) (r : Nat) (ρ : RowS) : Prop := M.2.1 26 r = nI ρ.2.1 ∧ M.2.1 27 r = ρ.2.2.1 ∧ M.2.1 28 r = ρ.2.2.2.1 ∧ M.2.1 29 r = nI ρ.2.2.2.2.1 ∧ M.2.1 30 r = nI ρ.2.2.2.2.2 ∧ ∀ j, j < 128 → M.2.1 25 (128 * r + j) = ρ.1 j
def PT (k : Nat) : Prop := 25 ≤ k ∧ k ≤ 30
/-- a reader's row changes, and no other -/
def RowF (r : Nat) (M M1 : ModelS) : Prop := (∀ f, 26 ≤ f → f ≤ 30 → ∀ q, q ≠ r → M1.2.1 f q = M.2.1 f q) ∧ ∀ q, (q < 128 * r ∨ 128 * r + 128 ≤ q) → M1.2.1 25 q = M.2.1 25 q
theorem RowF.rf {r : Nat} {M : ModelS} : RowF r M M := ⟨fun _ _ _ _ _ => rfl, fun _ _ => rfl⟩
theorem RowF.tr {r : Nat} {M M1 M2 : ModelS} (h1 : RowF r M M1) (h2 : RowF r M1 M2) : RowF r M M2 := ⟨fun f a b q c => (h2.1 f a b q c).trans (h1.1 f a b q c), fun q hq => (h2.2 q hq).trans (h1.2 q hq)⟩
theorem RowIs.other {M M1 : ModelS} {r q : Nat} {ρ : RowS} (h : RowIs M q ρ) (hF : RowF r M M1) (hq : q ≠ r) : RowIs M1 q ρ := by
  obtain ⟨h1, h2, h3, h4, h5, h6⟩ := h
  refine ⟨?_, ?_, ?_, ?_, ?_, fun j hj => ?_⟩
  · rw [hF.1 26 (by omega) (by omega) q hq]; exact h1
  · rw [hF.1 27 (by omega) (by omega) q hq]; exact h2
  · rw [hF.1 28 (by omega) (by omega) q hq]; exact h3
  · rw [hF.1 29 (by omega) (by omega) q hq]; exact h4
  · rw [hF.1 30 (by omega) (by omega) q hq]; exact h5
  · rw [hF.2 (128 * q + j) (by omega)]; exact h6 j hj
theorem RowIs.same {M M1 : ModelS} {q : Nat} {ρ : RowS} (h : RowIs M q ρ) (hF : ∀ f, PT f → M1.2.1 f = M.2.1 f) : RowIs M1 q ρ := by
  obtain ⟨h1, h2, h3, h4, h5, h6⟩ := h
  unfold RowIs
  rw [hF 26 (by unfold PT; omega), hF 27 (by unfold PT; omega), hF 28 (by unfold PT; omega), hF 29 (by unfold PT; omega), hF 30 (by unfold PT; omega), hF 25 (by unfold PT; omega)]
  exact ⟨h1, h2, h3, h4, h5, h6⟩
theorem num6 (K : Int32 → Prop) (M : ModelS) (r : Nat) (hr : r < 5) (β : Nat → Int32) (hβ : ∀ j, j < 128 → M.2.1 25 (128 * r + j) = β j) (s many : Nat) (hs : s + many ≤ 128) (h : K (nv β s many)) : ∀ (m i fuel : Nat) (v1 v2 v3 v4 v5 : Int32), i + m = many → m < fuel → v1 = nI r → v2 = nI s → v3 = nI many → v4 = nv β s i → v5 = nI i → wp_X5_number_6 K fuel M v1 v2 v3 v4 v5 := by
  intro m
  induction m with
  | zero =>
    intro i fuel v1 v2 v3 v4 v5 hi hf h1 h2 h3 h4 h5
    cases fuel with
    | zero => omega
    | succ f =>
      obtain ⟨mI, mA, mL⟩ := M
      unfold wp_X5_number_6
      have e : i = many := by omega
      subst e
      refine ⟨fun _ => by rw [h4]; exact h, fun h9 => absurd ?_ h9⟩
      rw [h3, h5]
      exact nI_le (Nat.le_refl _) (by omega)
  | succ m ih =>
    intro i fuel v1 v2 v3 v4 v5 hi hf h1 h2 h3 h4 h5
    cases fuel with
    | zero => omega
    | succ f =>
      have hb : M.2.1 25 (128 * r + s + i) = β (s + i) := by
        have := hβ (s + i) (by omega)
        rw [← Nat.add_assoc] at this
        exact this
      have e : (((128 : Int32) * v1) + v2) + v5 = nI (128 * r + s + i) := by rw [h1, h2, h5, lit 128, pk_mul, nI_add, nI_add]
      have ih2 := ih (i + 1) f v1 v2 v3 (nv β s (i + 1)) (v5 + 1) (by omega) (by omega) h1 h2 h3 rfl (by rw [h5, nI_1])
      obtain ⟨mI, mA, mL⟩ := M
      unfold wp_X5_number_6
      refine ⟨fun h9 => absurd h9 ?_, fun _ => ⟨?_, fun n3 e3 n4 e4 => ?_⟩⟩
      · rw [h3, h5]
        exact fun q => absurd ((nI_leI (by omega) (by omega)).mp q) (by omega)
      · rw [e]
        exact vp_in_nI (by omega) (by decide)
      · rw [e, nI_clamp (by omega), show mA 25 (128 * r + s + i) = β (s + i) from hb, h4] at e3
        rw [show n3 = nv β s (i + 1) from e3, e4]
        exact ih2
theorem wp_num {K : Int32 → Prop} {M : ModelS} {r : Nat} (hr : r < 5) {β : Nat → Int32} (hβ : ∀ j, j < 128 → M.2.1 25 (128 * r + j) = β j) {s many : Nat} (hs : s + many ≤ 128) {v1 v2 v3 : Int32} (h1 : v1 = nI r) (h2 : v2 = nI s) (h3 : v3 = nI many) (h : K (nv β s many)) : wp_X5_number M v1 v2 v3 K := by
  have := num6 K M r hr β hβ s many hs h many 0 1000 v1 v2 v3 0 0 (by omega) (by omega) h1 h2 h3 rfl rfl
  obtain ⟨mI, mA, mL⟩ := M
  unfold wp_X5_number
  exact this
theorem wp_isLong {K : Int32 → Prop} {M : ModelS} {r : Nat} (hr : r < 5) {β : Nat → Int32} (hβ : ∀ j, j < 128 → M.2.1 25 (128 * r + j) = β j) {v1 : Int32} (h1 : v1 = nI r) (h : K (if β 13 = 1 then 1 else 0)) : wp_X5_isLong M v1 K := by
  have e : (128 : Int32) * v1 + 13 = nI (128 * r + 13) := by rw [h1, lit 128, pk_mul, lit 13, nI_add]
  have hb := hβ 13 (by omega)
  obtain ⟨mI, mA, mL⟩ := M
  unfold wp_X5_isLong
  dsimp only
  rw [e, nI_clamp (by omega), show mA 25 (128 * r + 13) = β 13 from hb]
  refine ⟨vp_in_nI (by omega) (by decide), fun hn => ?_, fun hn => ?_⟩
  · rw [if_neg hn] at h
    exact h
  · rw [if_pos hn] at h
    exact h
theorem wp_bytesOf {K : Int32 → Prop} {M : ModelS} {r : Nat} (hr : r < 5) {β : Nat → Int32} (hβ : ∀ j, j < 128 → M.2.1 25 (128 * r + j) = β j) (hB : ∀ j, sp β ≤ j → j < sp β + 4 → isB (β j)) {v1 : Int32} (h1 : v1 = nI r) (h : K (nI (szn β))) : wp_X5_bytesOf M v1 K := by
  have hsp := sp_le β
  have e17 : ∀ k0 : Int32, k0 = nI (sp β) → wp_X5_bytesOf_17 K M k0 v1 := by
    intro k0 hk0
    have hn : wp_X5_number M v1 k0 4 (fun r4 => ((r4 ≤ 8 → K r4) ∧ (¬ r4 ≤ 8 → K 8))) := by
      refine wp_num hr hβ (s := sp β) (many := 4) (by omega) h1 hk0 e4 ?_
      rw [nv_nvn β (sp β) 4 hB]
      have hlt := nvn_lt β (sp β) 4
      have hlt : nvn β (sp β) 4 < 16 := hlt
      unfold szn at h
      refine ⟨fun hle => ?_, fun hle => ?_⟩
      · rw [lit 8] at hle
        have := (nI_leI (by omega) (by omega)).mp hle
        rw [Nat.min_eq_right this] at h
        exact h
      · have : ¬ nvn β (sp β) 4 ≤ 8 := fun q => hle (by rw [lit 8]; exact nI_le q (by omega))
        rw [Nat.min_eq_left (by omega)] at h
        exact h
    obtain ⟨mI, mA, mL⟩ := M
    unfold wp_X5_bytesOf_17
    exact hn
  have hl : wp_X5_isLong M v1 (fun r1 => ((r1 = 0 → wp_X5_bytesOf_17 K M 15 v1) ∧ (¬ r1 = 0 → wp_X5_bytesOf_17 K M 35 v1))) := by
    refine wp_isLong hr hβ h1 ?_
    by_cases hb : β 13 = 1
    · rw [if_pos hb]
      refine ⟨fun q => absurd q (by decide), fun _ => e17 35 ?_⟩
      unfold sp
      rw [if_pos hb]
      rfl
    · rw [if_neg hb]
      refine ⟨fun _ => e17 15 ?_, fun q => absurd rfl q⟩
      unfold sp
      rw [if_neg hb]
      rfl
  obtain ⟨mI, mA, mL⟩ := M
  unfold wp_X5_bytesOf
  exact hl
theorem right4 (K : Int32 → Prop) (M : ModelS) (r : Nat) (hr : r < 5) (β : Nat → Int32) (hβ : ∀ j, j < 128 → M.2.1 25 (128 * r + j) = β j) (nd : Nat) (h15 : 15 ≤ nd) (hnd : nd ≤ 128) (hM : M.2.1 29 r = nI nd) (hB : ∀ j, j < nd → isB (β j)) (h : K (if right β nd then 1 else 0)) : ∀ (m i fuel : Nat) (v1 v2 v3 : Int32), i + m = nd - 15 → m < fuel → v1 = nI r → v2 = cr β i → v3 = nI i → wp_X5_isRight_4 K fuel M v1 v2 v3 := by
  intro m
  induction m with
  | zero =>
    intro i fuel v1 v2 v3 hi hf h1 h2 h3
    cases fuel with
    | zero => omega
    | succ f =>
      have hin : vp_in v1 5 := by rw [h1]; exact vp_in_nI hr (by decide)
      have hcl : v1.toNatClampNeg = r := by rw [h1]; exact nI_clamp (by omega)
      have e29 : M.2.1 29 v1.toNatClampNeg - 15 = nI (nd - 15) := by rw [hcl, hM, lit 15, pk_sub (by omega)]
      have hn : wp_X5_number M v1 (M.2.1 29 v1.toNatClampNeg - 15) 15 (fun r4 => ((¬ v2 = r4 → K 0) ∧ (v2 = r4 → K 1))) := by
        refine wp_num hr hβ (s := nd - 15) (many := 15) (by omega) h1 e29 e15 ?_
        rw [h2, show i = nd - 15 by omega]
        unfold right at h
        refine ⟨fun hne => ?_, fun he => ?_⟩
        · rw [if_neg hne] at h
          exact h
        · rw [if_pos he] at h
          exact h
      obtain ⟨mI, mA, mL⟩ := M
      unfold wp_X5_isRight_4
      refine ⟨hin, fun _ => ⟨hin, hn⟩, fun h9 => absurd ?_ h9⟩
      rw [show mA 29 v1.toNatClampNeg - 15 = nI (nd - 15) from e29, h3]
      exact nI_le (by omega) (by omega)
  | succ m ih =>
    intro i fuel v1 v2 v3 hi hf h1 h2 h3
    cases fuel with
    | zero => omega
    | succ f =>
      have hin : vp_in v1 5 := by rw [h1]; exact vp_in_nI hr (by decide)
      have hcl : v1.toNatClampNeg = r := by rw [h1]; exact nI_clamp (by omega)
      have e29 : M.2.1 29 v1.toNatClampNeg - 15 = nI (nd - 15) := by rw [hcl, hM, lit 15, pk_sub (by omega)]
      have e : (128 : Int32) * v1 + v3 = nI (128 * r + i) := by rw [h1, h3, lit 128, pk_mul, nI_add]
      have hb := hβ i (by omega)
      have hn : wp_X5_nextCheck v2 (β i) (fun r8 => (∀ n9 : Int32, n9 = v3 + 1 → wp_X5_isRight_4 K f M v1 r8 n9)) := by
        refine wp_nc5 (by rw [h2]; exact cr_ck β i) (hB i (by omega)) ?_
        intro n9 e9
        exact ih (i + 1) f v1 _ n9 (by omega) (by omega) h1 (by rw [h2]; rfl) (by rw [e9, h3, nI_1])
      obtain ⟨mI, mA, mL⟩ := M
      unfold wp_X5_isRight_4
      refine ⟨hin, fun h9 => absurd h9 ?_, fun _ => ⟨?_, ?_⟩⟩
      · rw [show mA 29 v1.toNatClampNeg - 15 = nI (nd - 15) from e29, h3]
        exact fun q => absurd ((nI_leI (by omega) (by omega)).mp q) (by omega)
      · rw [e]
        exact vp_in_nI (by omega) (by decide)
      · rw [e, nI_clamp (by omega), show mA 25 (128 * r + i) = β i from hb]
        exact hn
theorem wp_isRight {K : Int32 → Prop} {M : ModelS} {r : Nat} (hr : r < 5) {β : Nat → Int32} (hβ : ∀ j, j < 128 → M.2.1 25 (128 * r + j) = β j) {nd : Nat} (h15 : 15 ≤ nd) (hnd : nd ≤ 128) (hM : M.2.1 29 r = nI nd) (hB : ∀ j, j < nd → isB (β j)) {v1 : Int32} (h1 : v1 = nI r) (h : K (if right β nd then 1 else 0)) : wp_X5_isRight M v1 K := by
  have := right4 K M r hr β hβ nd h15 hnd hM hB h (nd - 15) 0 1000 v1 0 0 (by omega) (by omega) h1 rfl rfl
  obtain ⟨mI, mA, mL⟩ := M
  unfold wp_X5_isRight
  exact this
