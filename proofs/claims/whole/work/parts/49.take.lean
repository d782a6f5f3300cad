/-! the reference's take -/
theorem WF.nd {ρ : RowS} (h : WF ρ) (hk : ρ.2.1 = ρ.2.2.2.2.1) : 15 ≤ ρ.2.2.2.2.1 ∧ ρ.2.2.2.2.1 ≤ 118 := by
  obtain ⟨-, h⟩ := h
  have h1 := sp_le ρ.1
  have h2 := szn_le ρ.1
  rcases h with ⟨a, b⟩ | ⟨a, b, c⟩ <;> omega
theorem WF.k {ρ : RowS} (h : WF ρ) : ρ.2.1 ≤ 118 ∧ ρ.2.2.2.2.1 ≤ 999 := by
  obtain ⟨-, h⟩ := h
  have h1 := sp_le ρ.1
  have h2 := szn_le ρ.1
  rcases h with ⟨a, b⟩ | ⟨a, b, c⟩ <;> omega
theorem tail43 {K : Int32 → ModelS → Prop} {M : ModelS} {v3 : Int32} {t : Nat} (h3 : v3 = nI t) (ht : t < 1000) (h : K (if t = 9 then 9 else 0) M) : wp_X5_takeTail_43 K M v3 := by
  obtain ⟨mI, mA, mL⟩ := M
  unfold wp_X5_takeTail_43
  have e : v3 = 9 ↔ t = 9 := by rw [h3, lit 9]; exact nI_eq (by omega) (by omega)
  refine ⟨fun hn => ?_, fun hn => ?_⟩
  · rw [if_neg (fun q => hn (e.mpr q))] at h
    exact h
  · rw [if_pos (e.mp hn)] at h
    exact h
theorem tail32 {K : Int32 → ModelS → Prop} {M : ModelS} {v2 v3 : Int32} {t : Nat} (h3 : v3 = nI t) (ht : t < 1000) (h : K (if ¬ t = 1 ∧ v2 = 0 then 3 else if t = 9 then 9 else 0) M) : wp_X5_takeTail_32 K M v2 v3 := by
  have e : v3 = 1 ↔ t = 1 := by rw [h3, lit 1]; exact nI_eq (by omega) (by omega)
  have h43 : (¬ t = 1 → ¬ v2 = 0) → wp_X5_takeTail_43 K M v3 := by
    intro hc
    rw [if_neg (fun q => hc q.1 q.2)] at h
    exact tail43 h3 ht h
  obtain ⟨mI, mA, mL⟩ := M
  unfold wp_X5_takeTail_32
  refine ⟨fun hn => h43 (fun q => absurd (e.mp hn) q), fun hn => ⟨fun h0 => h43 (fun _ => h0), fun h0 => ?_⟩⟩
  rw [if_pos ⟨fun q => hn (e.mpr q), h0⟩] at h
  exact h
theorem wp_takeTail5 {K : Int32 → ModelS → Prop} {M : ModelS} {r : Nat} (hr : r < 5) {β : Nat → Int32} {k nd t : Nat} {al la : Int32} (hρ : RowIs M r (β, k, al, la, nd, t)) (hw : WF (β, k, al, la, nd, t)) (hk : k = nd) (ht : t < 1000) {b v1 : Int32} (h1 : v1 = nI r)
    (h : ∀ M1, Fr PT M M1 → RowF r M M1 → RowIs M1 r (β, k, al, la, nd, t + 1) → K (if t = 2 ∧ ¬ right β nd then 2 else if ¬ t = 1 ∧ b = 0 then 3 else if t = 9 then 9 else 0) M1) : wp_X5_takeTail M v1 b K := by
  have hin : vp_in v1 5 := by rw [h1]; exact vp_in_nI hr (by decide)
  have hcl : v1.toNatClampNeg = r := by rw [h1]; exact nI_clamp (by omega)
  obtain ⟨p1, p2, p3, p4, p5, p6⟩ := hρ
  have hnd := hw.nd hk
  have hwB := hw.1
  obtain ⟨mI, mA, mL⟩ := M
  have hM := h (mI, va_up mA 30 (upd (mA 30) r (nI t + 1)), mL) ⟨fun _ _ => rfl, fun k hk => up_n (fun e => hk (by unfold PT; omega)), rfl⟩ ⟨fun f h1 h2 q hq => ?_, fun q _ => rfl⟩ ⟨p1, p2, p3, p4, ?_, p6⟩
  rotate_left
  · by_cases e : f = 30
    · subst e
      exact (congrFun (up_s (f := mA) (k := 30) (v := upd (mA 30) r (nI t + 1))) q).trans (pk_un hq)
    · exact congrFun (up_n e) q
  · show upd (mA 30) r (nI t + 1) r = nI (t + 1)
    rw [pk_us, nI_1]
  unfold wp_X5_takeTail
  dsimp only
  rw [hcl, show mA 30 r = nI t from p5]
  refine ⟨hin, fun n2 e2 => ⟨hin, hin, ?_⟩⟩
  have et : n2 = 2 ↔ t = 2 := by rw [e2, lit 2]; exact nI_eq (by omega) (by omega)
  refine ⟨fun hn => ?_, fun hn => ?_⟩
  · rw [if_neg (fun q => hn (et.mpr q.1))] at hM
    exact tail32 e2 ht hM
  · refine wp_isRight (M := (mI, va_up mA 30 (upd (mA 30) r (nI t + 1)), mL)) hr (β := β) (nd := nd) p6 hnd.1 (by have := hnd.2; dsimp only at this; omega) p4 (fun j hj => hwB j (by dsimp only; omega)) h1 ?_
    by_cases hR : right β nd
    · rw [if_pos hR]
      rw [if_neg (fun q => q.2 hR)] at hM
      exact ⟨fun _ => tail32 e2 ht hM, fun q => absurd q (by decide)⟩
    · rw [if_neg hR]
      rw [if_pos ⟨et.mp hn, hR⟩] at hM
      exact ⟨fun q => absurd rfl q, fun _ => hM⟩
theorem take198 {K : Int32 → ModelS → Prop} {M : ModelS} (h : K 0 M) : wp_X5_take_198 K M := by
  obtain ⟨mI, mA, mL⟩ := M
  exact h
theorem upb_s {β : Nat → Int32} {k : Nat} {b : Int32} : upb β k b k = b := if_pos rfl
theorem upb_n {β : Nat → Int32} {k j : Nat} {b : Int32} (h : j ≠ k) : upb β k b j = β j := if_neg h
/-- behind the bit: may be that the size is known now -/
theorem take139 {K : Int32 → ModelS → Prop} {M : ModelS} {r : Nat} (hr : r < 5) {β : Nat → Int32} {k nd t : Nat} {al la : Int32} (hρ : RowIs M r (β, k, al, la, nd, t)) (hB : ∀ j, j < k → isB (β j)) (hk : k ≤ 118) {v1 : Int32} (h1 : v1 = nI r)
    (h : ∀ M1, Fr PT M M1 → RowF r M M1 → RowIs M1 r (β, k, al, la, nd1 β k nd, t) → K 0 M1) : wp_X5_take_139 K M v1 := by
  have hin : vp_in v1 5 := by rw [h1]; exact vp_in_nI hr (by decide)
  have hcl : v1.toNatClampNeg = r := by rw [h1]; exact nI_clamp (by omega)
  have hρ0 := hρ
  obtain ⟨p1, p2, p3, p4, p5, p6⟩ := hρ0
  dsimp only at p1 p2 p3 p4 p5 p6
  have stay : ¬ (13 < k ∧ k = sp β + 4) → wp_X5_take_198 K M := by
    intro hn
    refine take198 (h M Fr.rf RowF.rf ?_)
    unfold nd1
    rw [if_neg hn]
    exact hρ
  have h171 : ∀ k0 k1 : Int32, 13 < k → k0 = nI (sp β + 4) → k1 = nI k → wp_X5_take_171 K M v1 k0 k1 := by
    intro k0 k1 h13 hk0 hk1
    have hsp := sp_le β
    have e : k1 = k0 ↔ k = sp β + 4 := by rw [hk0, hk1]; exact nI_eq (by omega) (by omega)
    by_cases hc : k = sp β + 4
    · have hz := szn_le β
      have hb : wp_X5_bytesOf M v1 (fun r24 => (vp_in v1 5 ∧ wp_X5_take_198 K (M.1, va_up M.2.1 29 (upd (M.2.1 29) v1.toNatClampNeg (((M.2.1 26 v1.toNatClampNeg) + (8 * r24)) + 15)), M.2.2))) := by
        refine wp_bytesOf hr p6 (fun j a b => hB j (by omega)) h1 ⟨hin, ?_⟩
        have e29 : ((M.2.1 26 v1.toNatClampNeg) + (8 * nI (szn β))) + 15 = nI (k + 8 * szn β + 15) := by rw [hcl, p1, lit 8, pk_mul, nI_add, lit 15, nI_add]
        rw [e29, hcl]
        refine take198 (h _ ⟨fun _ _ => rfl, fun k hk => up_n (fun e => hk (by unfold PT; omega)), rfl⟩ ⟨fun f h1 h2 q hq => ?_, fun q _ => rfl⟩ ⟨p1, p2, p3, ?_, p5, p6⟩)
        · by_cases e : f = 29
          · subst e
            exact (congrFun (up_s (f := M.2.1) (k := 29) (v := upd (M.2.1 29) r (nI (k + 8 * szn β + 15)))) q).trans (pk_un hq)
          · exact congrFun (up_n e) q
        · show upd (M.2.1 29) r _ r = _
          rw [pk_us]
          unfold nd1
          rw [if_pos ⟨h13, hc⟩]
      obtain ⟨mI, mA, mL⟩ := M
      unfold wp_X5_take_171
      exact ⟨fun q => absurd (e.mpr hc) q, fun _ => ⟨hin, hb⟩⟩
    · have hs := stay (fun q => hc q.2)
      obtain ⟨mI, mA, mL⟩ := M
      unfold wp_X5_take_171
      exact ⟨fun _ => hs, fun q => absurd (e.mp q) hc⟩
  have hl : 13 < k → wp_X5_isLong M v1 (fun r19 => ((r19 = 0 → wp_X5_take_171 K M v1 19 (M.2.1 26 v1.toNatClampNeg)) ∧ (¬ r19 = 0 → wp_X5_take_171 K M v1 39 (M.2.1 26 v1.toNatClampNeg)))) := by
    intro h13
    refine wp_isLong hr p6 h1 ?_
    by_cases hb : β 13 = 1
    · rw [if_pos hb]
      refine ⟨fun q => absurd q (by decide), fun _ => h171 39 _ h13 ?_ (by rw [hcl]; exact p1)⟩
      unfold sp
      rw [if_pos hb]
      rfl
    · rw [if_neg hb]
      refine ⟨fun _ => h171 19 _ h13 ?_ (by rw [hcl]; exact p1), fun q => absurd rfl q⟩
      unfold sp
      rw [if_neg hb]
      rfl
  have e13 : M.2.1 26 v1.toNatClampNeg ≤ 13 ↔ k ≤ 13 := by rw [hcl, p1, lit 13]; exact nI_leI (by omega) (by omega)
  obtain ⟨mI, mA, mL⟩ := M
  unfold wp_X5_take_139
  refine ⟨hin, fun hle => stay (fun q => ?_), fun hle => ⟨hin, hl ?_⟩⟩
  · have := e13.mp hle
    omega
  · have : ¬ k ≤ 13 := fun q => hle (e13.mpr q)
    omega
theorem take103 {K : Int32 → ModelS → Prop} {M : ModelS} {r : Nat} (hr : r < 5) {β : Nat → Int32} {k nd t : Nat} {al la : Int32} (hρ : RowIs M r (β, k, al, la, nd, t)) (hB : ∀ j, j < k → isB (β j)) (hk : k < 118) {v1 v2 k0 k1 : Int32} (h1 : v1 = nI r) (h2 : k1 = nI r) (hb : isB v2)
    (h : ∀ M1, Fr PT M M1 → RowF r M M1 → RowIs M1 r (upb β k v2, k + 1, k0, v2, nd1 (upb β k v2) (k + 1) nd, t) → K 0 M1) : wp_X5_take_103 K M v1 v2 k0 k1 := by
  have hin : vp_in v1 5 := by rw [h1]; exact vp_in_nI hr (by decide)
  have hin1 : vp_in k1 5 := by rw [h2]; exact vp_in_nI hr (by decide)
  have hcl : v1.toNatClampNeg = r := by rw [h1]; exact nI_clamp (by omega)
  have hcl1 : k1.toNatClampNeg = r := by rw [h2]; exact nI_clamp (by omega)
  obtain ⟨p1, p2, p3, p4, p5, p6⟩ := hρ
  dsimp only at p1 p2 p3 p4 p5 p6
  obtain ⟨mI, mA, mL⟩ := M
  dsimp only at p1 p2 p3 p4 p5 p6
  have e : (128 : Int32) * v1 + mA 26 r = nI (128 * r + k) := by rw [h1, p1, lit 128, pk_mul, nI_add]
  unfold wp_X5_take_103
  dsimp only
  rw [hcl, hcl1, e, nI_clamp (by omega)]
  refine ⟨hin1, hin, hin, vp_in_nI (by omega) (by decide), hin, hin, ?_⟩
  generalize hM1 : ((mI, va_up (va_up (va_up (va_up mA 27 (upd (mA 27) r k0)) 28 (upd (mA 28) r v2)) 25 (upd (mA 25) (128 * r + k) v2)) 26 (upd (mA 26) r (mA 26 r + 1)), mL) : ModelS) = M1
  have q25 : M1.2.1 25 = upd (mA 25) (128 * r + k) v2 := by rw [← hM1]; rfl
  have q26 : M1.2.1 26 = upd (mA 26) r (mA 26 r + 1) := by rw [← hM1]; rfl
  have q27 : M1.2.1 27 = upd (mA 27) r k0 := by rw [← hM1]; rfl
  have q28 : M1.2.1 28 = upd (mA 28) r v2 := by rw [← hM1]; rfl
  have q29 : M1.2.1 29 = mA 29 := by rw [← hM1]; rfl
  have q30 : M1.2.1 30 = mA 30 := by rw [← hM1]; rfl
  have hF : Fr PT (mI, mA, mL) M1 := by
    rw [← hM1]
    refine ⟨fun _ _ => rfl, fun k hk => ?_, rfl⟩
    have hk : ¬ (25 ≤ k ∧ k ≤ 30) := hk
    show va_up (va_up (va_up (va_up mA 27 _) 28 _) 25 _) 26 _ k = mA k
    rw [up_n (by omega), up_n (by omega), up_n (by omega), up_n (by omega)]
  have hR : RowF r (mI, mA, mL) M1 := by
    refine ⟨fun f h1 h2 q hq => ?_, fun q hq => ?_⟩
    · rcases (show f = 26 ∨ f = 27 ∨ f = 28 ∨ f = 29 ∨ f = 30 by omega) with rfl | rfl | rfl | rfl | rfl
      · rw [q26]; exact pk_un hq
      · rw [q27]; exact pk_un hq
      · rw [q28]; exact pk_un hq
      · rw [q29]
      · rw [q30]
    · rw [q25]
      exact pk_un (by omega)
  refine take139 hr (β := upb β k v2) (k := k + 1) (nd := nd) (t := t) (al := k0) (la := v2) ⟨?_, ?_, ?_, ?_, ?_, fun j hj => ?_⟩ (fun j hj => ?_) (by omega) h1 (fun M2 gF gR gI => h M2 (hF.tr gF) (hR.tr gR) gI)
  · rw [q26, pk_us, p1, nI_1]
  · rw [q27, pk_us]
  · rw [q28, pk_us]
  · rw [q29]; exact p4
  · rw [q30]; exact p5
  · rw [q25]
    by_cases ej : j = k
    · subst ej
      dsimp only
      rw [pk_us, upb_s]
    · dsimp only
      rw [pk_un (by omega), upb_n ej]
      exact p6 j hj
  · by_cases ej : j = k
    · subst ej
      rw [upb_s]; exact hb
    · rw [upb_n ej]
      exact hB j (by omega)
theorem take76 {K : Int32 → ModelS → Prop} {M : ModelS} {r : Nat} (hr : r < 5) {β : Nat → Int32} {k nd t : Nat} {al la : Int32} (hρ : RowIs M r (β, k, al, la, nd, t)) (hB : ∀ j, j < k → isB (β j)) (hk : k < 118) {v1 v2 : Int32} (h1 : v1 = nI r) (hb : isB v2)
    (h : ∀ M1, Fr PT M M1 → RowF r M M1 → RowIs M1 r (upb β k v2, k + 1, (if v2 = la then al + 1 else 1), v2, nd1 (upb β k v2) (k + 1) nd, t) → K 0 M1) : wp_X5_take_76 K M v1 v2 := by
  have hin : vp_in v1 5 := by rw [h1]; exact vp_in_nI hr (by decide)
  have hcl : v1.toNatClampNeg = r := by rw [h1]; exact nI_clamp (by omega)
  have e1 : ¬ v2 = la → wp_X5_take_103 K M v1 v2 1 v1 := fun hn => take103 hr hρ hB hk h1 h1 hb (by rw [if_neg hn] at h; exact h)
  have e2 : v2 = la → wp_X5_take_103 K M v1 v2 (al + 1) v1 := fun hn => take103 hr hρ hB hk h1 h1 hb (by rw [if_pos hn] at h; exact h)
  obtain ⟨p1, p2, p3, p4, p5, p6⟩ := hρ
  obtain ⟨mI, mA, mL⟩ := M
  unfold wp_X5_take_76
  dsimp only
  rw [hcl, show mA 28 r = la from p3, show mA 27 r = al from p2]
  exact ⟨hin, e1, fun q => ⟨hin, e2 q⟩⟩
theorem wp_take5 {K : Int32 → ModelS → Prop} {M : ModelS} {r : Nat} (hr : r < 5) {ρ : RowS} (hρ : RowIs M r ρ) (hw : WF ρ) (ht : ρ.2.2.2.2.2 < 1000) {b v1 : Int32} (hb : isB b) (h1 : v1 = nI r)
    (h : ∀ M1, Fr PT M M1 → RowF r M M1 → RowIs M1 r (rtk ρ b).2 → K (rtk ρ b).1 M1) : wp_X5_take M v1 b K := by
  have hin : vp_in v1 5 := by rw [h1]; exact vp_in_nI hr (by decide)
  have hcl : v1.toNatClampNeg = r := by rw [h1]; exact nI_clamp (by omega)
  obtain ⟨β, k, al, la, nd, t⟩ := ρ
  have hk := hw.k
  unfold rtk at h
  dsimp only at h ht hk
  have hρ0 := hρ
  obtain ⟨p1, p2, p3, p4, p5, p6⟩ := hρ0
  dsimp only at p1 p2 p3 p4 p5 p6
  have ekn : nI k = nI nd ↔ k = nd := nI_eq (by omega) (by omega)
  have ek0 : nI k = 0 ↔ k = 0 := by rw [lit 0]; exact nI_eq (by omega) (by omega)
  have c1 : k = nd → wp_X5_takeTail M v1 b (fun r33 u34 => K r33 (u34.1, u34.2.1, u34.2.2)) := by
    intro hc
    rw [if_pos hc] at h
    exact wp_takeTail5 hr hρ hw hc ht h1 h
  have c2 : ¬ k = nd → ¬ al = 5 → ¬ (k = 0 ∧ b = 1) → wp_X5_take_76 K M v1 b := by
    intro a1 a2 a3
    rw [if_neg a1, if_neg a2, if_neg a3] at h
    refine take76 hr hρ hw.1 ?_ h1 hb h
    have hz := szn_le β
    have hsp := sp_le β
    rcases hw.2 with ⟨x, y⟩ | ⟨x, y, z⟩ <;> dsimp only at x y
    · omega
    · dsimp only at z; omega
  have c3 : ¬ k = nd → ¬ al = 5 → k = 0 → b = 1 → K 3 M := by
    intro a1 a2 a3 a4
    rw [if_neg a1, if_neg a2, if_pos ⟨a3, a4⟩] at h
    exact h M Fr.rf RowF.rf hρ
  have c4 : ¬ k = nd → al = 5 → b = la → K 1 M := by
    intro a1 a2 a3
    rw [if_neg a1, if_pos a2, if_pos a3] at h
    exact h M Fr.rf RowF.rf hρ
  have c5 : ¬ k = nd → al = 5 → ¬ b = la → ∀ M1, Fr PT M M1 → RowF r M M1 → RowIs M1 r (β, k, 1, b, nd, t) → K 0 M1 := by
    intro a1 a2 a3
    rw [if_neg a1, if_pos a2, if_neg a3] at h
    exact h
  obtain ⟨mI, mA, mL⟩ := M
  dsimp only at p1 p2 p3 p4 p5 p6
  unfold wp_X5_take
  dsimp only
  rw [hcl, p1, p2, p3, p4]
  refine ⟨hin, hin, fun hn => ⟨hin, fun h5 => ⟨hin, fun h0 => c2 (fun q => hn (ekn.mpr q)) h5 (fun q => h0 (ek0.mpr q.1)), fun h0 => ⟨fun hb1 => c2 (fun q => hn (ekn.mpr q)) h5 (fun q => hb1 q.2), fun hb1 => c3 (fun q => hn (ekn.mpr q)) h5 (ek0.mp h0) hb1⟩⟩, fun h5 => ⟨hin, fun hl => ⟨hin, hin, c5 (fun q => hn (ekn.mpr q)) h5 hl _ ?_ ?_ ?_⟩, fun hl => c4 (fun q => hn (ekn.mpr q)) h5 hl⟩⟩, fun hn => c1 (ekn.mp hn)⟩
  · refine ⟨fun _ _ => rfl, fun k hk => ?_, rfl⟩
    have hk : ¬ (25 ≤ k ∧ k ≤ 30) := hk
    show va_up (va_up mA 28 _) 27 _ k = mA k
    rw [up_n (by omega), up_n (by omega)]
  · refine ⟨fun f h1 h2 q hq => ?_, fun q hq => rfl⟩
    rcases (show f = 26 ∨ f = 27 ∨ f = 28 ∨ f = 29 ∨ f = 30 by omega) with rfl | rfl | rfl | rfl | rfl
    · rfl
    · exact pk_un hq
    · exact pk_un hq
    · rfl
    · rfl
  · exact ⟨p1, pk_us, pk_us, p4, p5, p6⟩
