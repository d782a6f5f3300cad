/-! one framed bit more: class and row -/
theorem tkH_keep (R : ReaderS) (v1 v2 : Int32) : (tkH R v1 v2).2.1 = R.2.1 ∧ (tkH R v1 v2).2.2.1 = R.2.2.1 ∧ (tkH R v1 v2).2.2.2.1 = R.2.2.2.1 := by
  obtain ⟨taken, tail, alike, last, check, chkTaken, sizePl, chkPl, fr⟩ := R
  unfold tkH
  dsimp only
  split
  · exact ⟨rfl, rfl, rfl⟩
  · split
    · exact ⟨rfl, rfl, rfl⟩
    · split <;> exact ⟨rfl, rfl, rfl⟩
theorem tkF_keep (R : ReaderS) (b : Int32) : (tkF R b).2.1 = R.2.1 ∧ (tkF R b).2.2.1 = R.2.2.1 ∧ (tkF R b).2.2.2.1 = R.2.2.2.1 := by
  obtain ⟨taken, tail, alike, last, check, chkTaken, sizePl, chkPl, fr⟩ := R
  unfold tkF
  dsimp only
  split
  · split
    · split
      · exact ⟨rfl, rfl, rfl⟩
      · unfold tkS
        dsimp only
        split <;> exact ⟨rfl, rfl, rfl⟩
    · exact tkH_keep _ _ _
  · exact ⟨rfl, rfl, rfl⟩
abbrev R0 (β : Nat → Int32) (k : Nat) (tl al la : Int32) : ReaderS := (nI k, tl, al, la, cr β (min k (cp β k)), nv β (cp β k) (k - cp β k), nI (spk β k), nI (cp β k), (lgv β k, idv β k, dtv β k, szv β k))
theorem RDp_eq {R : ReaderS} {β : Nat → Int32} {k : Nat} (h : RDp R β k) : R = R0 β k R.2.1 R.2.2.1 R.2.2.2.1 := by
  obtain ⟨taken, tail, alike, last, check, chkTaken, sizePl, chkPl, fr⟩ := R
  obtain ⟨h1, h2, h3, h4, h5, h6⟩ := h
  dsimp only at h1 h2 h3 h4 h5 h6
  subst h1 h2 h3 h4 h5 h6
  rfl
theorem nv_up {β : Nat → Int32} {k s m : Nat} {b : Int32} (h : s + m = k) (hb : isB b) : (nv β s m <<< (1 &&& 31)) ||| b = nv (upb β k b) s (m + 1) := by
  rw [shl_or1 _ _ hb]
  show _ = 2 * nv (upb β k b) s m + upb β k b (s + m)
  rw [h, upb_s, nv_congr (fun j a c => upb_n (by omega))]
theorem tkF_A {β : Nat → Int32} {k : Nat} {tl al la b : Int32} (hb : isB b) (hk : k ≤ 118) (hc : cp β k ≤ k) : RDp (tkF (R0 β k tl al la) b) (upb β k b) (k + 1) := by
  have hcl := cp_le β k
  have h14 : 14 ≤ k := by omega
  have hs : spk β k + 4 ≤ k := by
    unfold cp at hc
    split at hc <;> omega
  obtain ⟨u1, u2, u3⟩ := up14 (β := β) (b := b) h14
  have uz := up_szn (β := β) (b := b) h14 hs
  have ui := up_idv (β := β) (b := b) h14 (by omega)
  have uc : cp (upb β k b) (k + 1) = cp β k := by
    unfold cp
    rw [u1, uz, if_neg (by omega), if_neg (by omega)]
  have hcz : spk β k + 4 + 8 * szn β ≤ k := by
    unfold cp at hc
    rw [if_neg (by omega)] at hc
    exact hc
  have e1 : ¬ nI k < nI (cp β k) := nI_nlt hc (by omega)
  unfold tkF
  dsimp only [R0]
  rw [if_neg e1]
  refine ⟨nI_1 k, ?_, ?_, ?_, ?_, ?_⟩
  · show cr β (min k (cp β k)) = _
    rw [uc, show min (k + 1) (cp β k) = cp β k by omega, show min k (cp β k) = cp β k by omega]
    exact (cr_congr _ (fun j a => upb_n (by omega))).symm
  · show (nv β (cp β k) (k - cp β k) <<< (1 &&& 31)) ||| b = _
    rw [uc, show k + 1 - cp β k = (k - cp β k) + 1 by omega]
    exact nv_up (by omega) hb
  · show nI (spk β k) = _
    rw [u1]
  · show nI (cp β k) = _
    rw [uc]
  · show (lgv β k, idv β k, dtv β k, szv β k) = _
    rw [u2, ui]
    have ed : dtv (upb β k b) (k + 1) = dtv β k := by
      unfold dtv
      rw [u1, uz, show min (k + 1 - (spk β k + 4)) (8 * szn β) = 8 * szn β by omega, show min (k - (spk β k + 4)) (8 * szn β) = 8 * szn β by omega]
      exact dt_congr _ (fun j a c => upb_n (by omega))
    have es : szv (upb β k b) (k + 1) = szv β k := by
      unfold szv
      rw [u1, uz, if_neg (by omega), if_neg (by omega)]
    rw [ed, es]
theorem tkF_D {β : Nat → Int32} {k : Nat} {tl al la b : Int32} (hk : k ≤ 118) (hc : k < cp β k) (hs : spk β k + 4 ≤ k) : RDp (tkF (R0 β k tl al la) b) (upb β k b) (k + 1) := by
  have hcl := cp_le β k
  have hsl := spk_le β k
  have h14 : 14 ≤ k := by omega
  obtain ⟨u1, u2, u3⟩ := up14 (β := β) (b := b) h14
  have uz := up_szn (β := β) (b := b) h14 hs
  have ui := up_idv (β := β) (b := b) h14 (by omega)
  have uc : cp (upb β k b) (k + 1) = cp β k := by
    unfold cp
    rw [u1, uz, if_neg (by omega), if_neg (by omega)]
  have hcz : k < spk β k + 4 + 8 * szn β := by
    unfold cp at hc
    rw [if_neg (by omega)] at hc
    exact hc
  have e1 : nI k < nI (cp β k) := nI_lt hc (by omega)
  have e2 : nI (spk β k) ≤ nI k := nI_le (by omega) (by omega)
  have e3 : nI (spk β k) + 4 ≤ nI k := by rw [e4, nI_add]; exact nI_le (by omega) (by omega)
  unfold tkF
  dsimp only [R0]
  rw [if_pos e1, if_pos e2, if_pos e3]
  unfold tkD
  dsimp only
  refine ⟨nI_1 k, ?_, ?_, ?_, ?_, ?_⟩
  · show nc (cr β (min k (cp β k))) b = _
    rw [uc, show min (k + 1) (cp β k) = k + 1 by omega, show min k (cp β k) = k by omega]
    show _ = nc (cr (upb β k b) k) (upb β k b k)
    rw [upb_s, cr_congr _ (fun j a => upb_n (by omega))]
  · show nv β (cp β k) (k - cp β k) = _
    rw [uc, show k + 1 - cp β k = 0 by omega, show k - cp β k = 0 by omega]
    rfl
  · show nI (spk β k) = _
    rw [u1]
  · show nI (cp β k) = _
    rw [uc]
  · have es : szv (upb β k b) (k + 1) = szv β k := by
      unfold szv
      rw [u1, uz, if_neg (by omega), if_neg (by omega)]
    rw [u2, ui, es]
    have ed : dtv (upb β k b) (k + 1) = dtv β k ||| (b.toInt64 <<< ((nI (shf (k - (spk β k + 4)))).toInt64 &&& 63)) := by
      unfold dtv
      rw [u1, uz, show min (k + 1 - (spk β k + 4)) (8 * szn β) = (k - (spk β k + 4)) + 1 by omega, show min (k - (spk β k + 4)) (8 * szn β) = k - (spk β k + 4) by omega]
      show dt (upb β k b) (spk β k + 4) (k - (spk β k + 4)) ||| _ = _
      rw [dt_congr _ (fun j a c => upb_n (by omega)), show spk β k + 4 + (k - (spk β k + 4)) = k by omega, upb_s]
    have ev : ((((((nI k - nI (spk β k)) - 4) / 8) * 8) + 8) - 1) - (((nI k - nI (spk β k)) - 4) - ((nI k - nI (spk β k)) - 4) / 8 * 8) = nI (shf (k - (spk β k + 4))) := by
      have hmm : (k - (spk β k + 4)) < 100 := by omega
      rw [pk_sub (by omega), e4, pk_sub (by omega), show k - spk β k - 4 = k - (spk β k + 4) by omega]
      rw [lit 8, pk_rem (by omega) (by omega) (by omega), pk_div (by omega) (by omega) (by omega), pk_mul, nI_add, lit 1, pk_sub (by omega), pk_sub (by omega)]
      rfl
    rw [ed, ev]
theorem tkF_S {β : Nat → Int32} {k : Nat} {tl al la b : Int32} (hb : isB b) (hB : ∀ j, j < k → isB (β j)) (hc : spk β k ≤ k) (hs : k < spk β k + 4) : RDp (tkF (R0 β k tl al la) b) (upb β k b) (k + 1) := by
  have hcl := cp_le β k
  have hsl := spk_le β k
  have h14 : 14 ≤ k := by omega
  obtain ⟨u1, u2, u3⟩ := up14 (β := β) (b := b) h14
  have ui := up_idv (β := β) (b := b) h14 hc
  have ecp : cp β k = spk β k + 4 := by
    unfold cp
    rw [if_pos hs]
  have e1 : nI k < nI (cp β k) := nI_lt (by omega) (by omega)
  have e2 : nI (spk β k) ≤ nI k := nI_le (by omega) (by omega)
  have e3 : ¬ nI (spk β k) + 4 ≤ nI k := by rw [e4, nI_add]; exact nI_ge (by omega) (by omega)
  have esz : szv β k = nv β (spk β k) (k - spk β k) := by
    unfold szv
    rw [if_pos hs]
  have edt : dtv β k = 0 := by
    unfold dtv
    rw [show min (k - (spk β k + 4)) (8 * szn β) = 0 by omega]
    rfl
  have edt1 : dtv (upb β k b) (k + 1) = 0 := by
    unfold dtv
    rw [u1, show min (k + 1 - (spk β k + 4)) (8 * szn (upb β k b)) = 0 by omega]
    rfl
  have enext : (nv β (spk β k) (k - spk β k) <<< (1 &&& 31)) ||| b = nv (upb β k b) (spk β k) (k - spk β k + 1) := nv_up (by omega) hb
  have hB' : ∀ j, j < k + 1 → isB (upb β k b j) := by
    intro j hj
    by_cases e : j = k
    · subst e
      rw [upb_s]; exact hb
    · rw [upb_n e]; exact hB j (by omega)
  have ec : nc (cr β (min k (cp β k))) b = cr (upb β k b) (k + 1) := by
    rw [show min k (cp β k) = k by omega]
    show _ = nc (cr (upb β k b) k) (upb β k b k)
    rw [upb_s, cr_congr _ (fun j a => upb_n (by omega))]
  unfold tkF
  dsimp only [R0]
  rw [if_pos e1, if_pos e2, if_neg e3]
  unfold tkS
  dsimp only
  rw [esz, enext, edt]
  by_cases hl : k = spk β k + 3
  · have e5 : nI k = nI (spk β k) + 4 - 1 := by rw [e4, nI_add, lit 1, pk_sub (by omega), show spk β k + 4 - 1 = k by omega]
    have ez : tkSv (nv β (spk β k) (k - spk β k)) b = nI (szn (upb β k b)) := by
      unfold tkSv
      rw [enext, show k - spk β k + 1 = 4 by omega, nv_nvn _ _ _ (fun j a c => hB' j (by omega))]
      have hlt : nvn (upb β k b) (spk β k) 4 < 16 := nvn_lt (upb β k b) (spk β k) 4
      unfold szn
      rw [u3, ← spk_sp h14]
      by_cases c : 8 < nvn (upb β k b) (spk β k) 4
      · rw [if_pos (by rw [lit 8]; exact nI_lt c (by omega)), Nat.min_eq_left (by omega)]
        rfl
      · rw [if_neg (by rw [lit 8]; exact nI_nlt (by omega) (by omega)), Nat.min_eq_right (by omega)]
    have hz8 := szn_le (upb β k b)
    have uc : cp (upb β k b) (k + 1) = spk β k + 4 + 8 * szn (upb β k b) := by
      unfold cp
      rw [u1, if_neg (by omega)]
    rw [if_pos e5, ez]
    refine ⟨nI_1 k, ?_, ?_, ?_, ?_, ?_⟩
    · show nc (cr β (min k (cp β k))) b = _
      rw [ec, uc, show min (k + 1) (spk β k + 4 + 8 * szn (upb β k b)) = k + 1 by omega]
    · show nv β (cp β k) (k - cp β k) = _
      rw [uc, show k + 1 - (spk β k + 4 + 8 * szn (upb β k b)) = 0 by omega, show k - cp β k = 0 by omega]
      rfl
    · show nI (spk β k) = _
      rw [u1]
    · show nI (spk β k) + 4 + 8 * nI (szn (upb β k b)) = _
      rw [uc, e4, nI_add, lit 8, pk_mul, nI_add]
    · show (lgv β k, idv β k, 0, nI (szn (upb β k b))) = _
      rw [u2, ui, edt1]
      unfold szv
      rw [u1, if_neg (by omega)]
  · have e5 : ¬ nI k = nI (spk β k) + 4 - 1 := by
      rw [e4, nI_add, lit 1, pk_sub (by omega)]
      exact fun q => hl (by have := (nI_eq (by omega) (by omega)).mp q; omega)
    have uc : cp (upb β k b) (k + 1) = spk β k + 4 := by
      unfold cp
      rw [u1, if_pos (by omega)]
    rw [if_neg e5]
    refine ⟨nI_1 k, ?_, ?_, ?_, ?_, ?_⟩
    · show nc (cr β (min k (cp β k))) b = _
      rw [ec, uc, show min (k + 1) (spk β k + 4) = k + 1 by omega]
    · show nv β (cp β k) (k - cp β k) = _
      rw [uc, show k + 1 - (spk β k + 4) = 0 by omega, show k - cp β k = 0 by omega]
      rfl
    · show nI (spk β k) = _
      rw [u1]
    · show nI (cp β k) = _
      rw [uc, ecp]
    · show (lgv β k, idv β k, 0, _) = _
      rw [u2, ui, edt1]
      unfold szv
      rw [u1, if_pos (by omega), show k + 1 - spk β k = k - spk β k + 1 by omega]
