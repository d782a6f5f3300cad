/-! a sender has seen a bit -/
theorem lose_iff {hl k : Nat} (h1 : 1 ≤ hl) (h2 : hl ≤ 35) (h3 : k ≤ 300) : ((nI hl - 1) - nI k ≤ 2 ↔ hl < k + 4) ∧ (4 ≤ nI hl - nI k ↔ k + 4 ≤ hl) := by
  have e1 : nI hl - 1 = nI (hl - 1) := by rw [lit 1, pk_sub h1]
  rw [e1, Int32.le_iff_toInt_le, Int32.le_iff_toInt_le, pk_sub_toInt (by omega) (by omega), pk_sub_toInt (by omega) (by omega), show (2 : Int32).toInt = 2 from rfl, show (4 : Int32).toInt = 4 from rfl]
  omega
theorem wp_mayLose1 {K : Int32 → Prop} {L : LineS} {m p : Nat} {x : Int32} (hl : L.2.2.1 = nI m) (hm : m ≤ 160) (hp : p < m) (hx : x = nI p) (h1 : ¬ L.1 p = 0 → ¬ L.2.1 p = -1 → ¬ (L.2.2.2.1 - 1) - L.2.1 p ≤ 2 → K 1) (h0 : (L.1 p = 0 ∨ L.2.1 p = -1 ∨ (L.2.2.2.1 - 1) - L.2.1 p ≤ 2) → K 0) : wp_X1_mayLose L x K := by
  obtain ⟨bits, places, len, head, framed, alike, last, check⟩ := L
  have hl : len = nI m := hl
  have hin : vp_in (nI p) 160 := vp_in_nI (by omega) (by decide)
  unfold wp_X1_mayLose wp_X1_mayLose_31
  dsimp only at h0 h1
  rw [hx, hl, nI_clamp (by omega)]
  exact ⟨fun q => absurd q (nI_pos (by omega)), fun _ => ⟨fun q => absurd q (nI_ge hp (by omega)), fun _ => ⟨hin, fun q => h0 (Or.inl q), fun q1 => ⟨hin, fun q2 => ⟨hin, fun q3 => h0 (Or.inr (Or.inr q3)), fun q3 => h1 q1 q2 q3⟩, fun q2 => h0 (Or.inr (Or.inl q2))⟩⟩⟩⟩
theorem wp_isAns1 {K : Int32 → Prop} {L : LineS} {n p : Nat} {x : Int32} (hl : L.2.2.1 = nI (n + 10)) (hn : n ≤ 147) (hp : p < 1000) (hx : x = nI p) (h1 : p = n + 1 → K 1) (h0 : ¬ p = n + 1 → K 0) : wp_X1_isAnswer L x K := by
  obtain ⟨bits, places, len, head, framed, alike, last, check⟩ := L
  have hl : len = nI (n + 10) := hl
  have e : (len - 10) + 1 = nI (n + 1) := by rw [hl, lit 10, pk_sub (by omega), show n + 10 - 10 = n by omega, nI_1]
  unfold wp_X1_isAnswer
  dsimp only
  rw [hx, e]
  exact ⟨fun q => h0 (fun z => q (by rw [z])), fun q => h1 ((nI_eq (by omega) (by omega)).mp q)⟩
/-- the reference's cells behind a sender's look -/
def Sw (i p : Nat) (ρ : RowS) (b : Int32) (M M2 : ModelS) : Prop := Lk i M M2 ∧ RowIs M2 i (rtk ρ b).2 ∧ M2.2.1 21 i = nI (p + 1) ∧ (∀ f, ¬ (25 ≤ f ∧ f ≤ 30) → f ≠ 21 → M2.2.1 f = M.2.1 f)
theorem saw119 {K : Int32 → ModelS → Prop} {M : ModelS} (h : K 4 M) : wp_X5_saw_119 K M := by
  obtain ⟨mI, mA, mL⟩ := M
  exact h
set_option maxHeartbeats 1000000 in
theorem wp_saw5 {K : Int32 → ModelS → Prop} {M : ModelS} {i p s hl : Nat} {own place b v1 : Int32} {ρ : RowS} (hi : i < 4) (hp : p < 200) (e21 : M.2.1 21 i = nI p) (e18 : M.2.1 18 (200 * i + p) = own) (e19 : M.2.1 19 (200 * i + p) = place) (hρ : RowIs M i ρ) (hw : WF ρ) (ht : ρ.2.2.2.2.2 < 1000) (hb : isB b) (hs : s < 4) (he : M.2.1 23 (4 * i + s) = M.2.1 22 i) (hn : ∀ k, k < s → ¬ M.2.1 23 (4 * i + k) = M.2.1 22 i) (hlg : (M.2.1 10 (4 * i + s) = 0 ∧ hl = 15) ∨ (¬ M.2.1 10 (4 * i + s) = 0 ∧ hl = 35)) (h1 : v1 = nI i)
    (k5 : place = 201 → b = 1 → ∀ M2, Sw i p ρ b M M2 → K 5 M2) (k0 : place = 201 → ¬ b = 1 → ∀ M2, Sw i p ρ b M M2 → K 0 M2) (ke : ¬ place = 201 → b = own → ∀ M2, Sw i p ρ b M M2 → K 0 M2)
    (kl : ¬ place = 201 → ¬ b = own → ¬ own = 0 → ¬ place < 0 → 4 ≤ nI hl - place → ∀ M2, Sw i p ρ b M M2 → K 0 (M2.1, va_up M2.2.1 3 (upd (M2.2.1 3) i 2), M2.2.2)) (k4 : ¬ place = 201 → ¬ b = own → (own = 0 ∨ place < 0 ∨ ¬ 4 ≤ nI hl - place) → ∀ M2, Sw i p ρ b M M2 → K 4 M2) : wp_X5_saw M v1 b K := by
  have hin : vp_in v1 4 := pk_in i 4 hi h1
  have hcl : v1.toNatClampNeg = i := pk_cl i h1
  have e200 : (200 : Int32) * v1 + nI p = nI (200 * i + p) := by rw [h1, lit 200, pk_mul, nI_add]
  have hin2 : vp_in (nI (200 * i + p)) 1000 := vp_in_nI (by omega) (by decide)
  have htk : wp_X5_take M v1 b (fun r7 u8 => (vp_in v1 4 ∧ (vp_in v1 4 ∧ ((¬ place = 201 → ((¬ b = own → wp_X5_sentOne (u8.1, va_up u8.2.1 21 (upd (u8.2.1 21) i (((u8.2.1 21) i) + 1)), u8.2.2) v1 (fun r13 => (vp_in r13 16 ∧ (((u8.2.1 10) r13.toNatClampNeg = 0 → wp_X5_saw_100 K (u8.1, va_up u8.2.1 21 (upd (u8.2.1 21) i (((u8.2.1 21) i) + 1)), u8.2.2) v1 place own 15) ∧ (¬ (u8.2.1 10) r13.toNatClampNeg = 0 → wp_X5_saw_100 K (u8.1, va_up u8.2.1 21 (upd (u8.2.1 21) i (((u8.2.1 21) i) + 1)), u8.2.2) v1 place own 35))))) ∧ (b = own → K 0 (u8.1, va_up u8.2.1 21 (upd (u8.2.1 21) i (((u8.2.1 21) i) + 1)), u8.2.2)))) ∧ (place = 201 → ((¬ b = 1 → K 0 (u8.1, va_up u8.2.1 21 (upd (u8.2.1 21) i (((u8.2.1 21) i) + 1)), u8.2.2)) ∧ (b = 1 → K 5 (u8.1, va_up u8.2.1 21 (upd (u8.2.1 21) i (((u8.2.1 21) i) + 1)), u8.2.2)))))))) := by
    refine wp_take5 (by omega) hρ hw ht hb h1 (fun M1 hF hR hI => ?_)
    have l1 := Lk.row hF hR
    have e21' : M1.2.1 21 i = nI p := by rw [hF.2.1 21 (by unfold PT; omega)]; exact e21
    have e23 : M1.2.1 23 = M.2.1 23 := hF.2.1 23 (by unfold PT; omega)
    have e22 : M1.2.1 22 = M.2.1 22 := hF.2.1 22 (by unfold PT; omega)
    have e10 : M1.2.1 10 = M.2.1 10 := hF.2.1 10 (by unfold PT; omega)
    have hF2 := hF.2.1
    obtain ⟨mI, mA, mL⟩ := M1
    dsimp only at e21' e23 e22 e10 hF2
    have l2 : Lk i (mI, mA, mL) (mI, va_up mA 21 (upd (mA 21) i (mA 21 i + 1)), mL) := Lk.one (by unfold T0; omega) rfl (by decide)
    have hSw : Sw i p ρ b M (mI, va_up mA 21 (upd (mA 21) i (mA 21 i + 1)), mL) := by
      refine ⟨l1.tr l2, hI, ?_, fun f hf h21 => ?_⟩
      · show upd (mA 21) i (mA 21 i + 1) i = _
        rw [pk_us, e21', nI_1]
      · exact (up_n h21).trans (hF2 f hf)
    dsimp only
    have h100 : ∀ k0 : Int32, k0 = nI hl → ¬ place = 201 → ¬ b = own → wp_X5_saw_100 K (mI, va_up mA 21 (upd (mA 21) i (mA 21 i + 1)), mL) v1 place own k0 := by
      intro k0 hk0 q1 q2
      unfold wp_X5_saw_100
      rw [hk0, hcl]
      refine ⟨fun q3 => saw119 (k4 q1 q2 (Or.inl q3) _ hSw), fun q3 => ⟨fun q4 => saw119 (k4 q1 q2 (Or.inr (Or.inl q4)) _ hSw), fun q4 => ⟨fun q5 => ⟨hin, kl q1 q2 q3 q4 q5 _ hSw⟩, fun q5 => saw119 (k4 q1 q2 (Or.inr (Or.inr q5)) _ hSw)⟩⟩⟩
    refine ⟨hin, hin, fun q1 => ⟨fun q2 => ?_, fun q2 => ke q1 q2 _ hSw⟩, fun q1 => ⟨fun q2 => k0 q1 q2 _ hSw, fun q2 => k5 q1 q2 _ hSw⟩⟩
    refine wp_sent5 (M := (mI, va_up mA 21 (upd (mA 21) i (mA 21 i + 1)), mL)) (s := s) hi hs ?_ (fun k hk => ?_) h1 ⟨vp_in_nI (by omega) (by decide), ?_⟩
    · show mA 23 (4 * i + s) = mA 22 i
      rw [e23, e22]; exact he
    · show ¬ mA 23 (4 * i + k) = mA 22 i
      rw [e23, e22]; exact hn k hk
    · rw [nI_clamp (by omega), e10]
      rcases hlg with ⟨x, y⟩ | ⟨x, y⟩
      · exact ⟨fun _ => h100 15 (by rw [y]; rfl) q1 q2, fun q => absurd x q⟩
      · exact ⟨fun q => absurd q x, fun _ => h100 35 (by rw [y]; rfl) q1 q2⟩
  obtain ⟨mI, mA, mL⟩ := M
  dsimp only at e21 e18 e19
  unfold wp_X5_saw
  dsimp only
  rw [hcl, e21, e200, nI_clamp (by omega), e18, e19]
  refine ⟨hin, hin2, fun n3 e3 => ⟨hin, hin2, fun n6 e6 => ?_⟩⟩
  rw [e3, e6]
  exact htk
