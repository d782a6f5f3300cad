def wp_X2_addWanted : NodeS → Int32 → Int32 → Int64 → Int32 → (NodeS → Prop) → Prop := fun (on, role, wants, sndC, rcvC, nSent, nRcvd, lastF, found, sending, next, wanted, lastR, line, reader) p0 p1 p2 p3 K => ((4 ≤ wants → K (on, role, wants, sndC, rcvC, nSent, nRcvd, lastF, found, sending, next, wanted, lastR, line, reader)) ∧ (¬ 4 ≤ wants → (vp_in wants 4 ∧ (wants = 0 → wp_X0_set (wanted 0) p0 p1 p2 p3 (fun u2 => K (on, role, 1, sndC, rcvC, nSent, nRcvd, lastF, found, sending, next, va_up wanted 0 u2, lastR, line, reader))) ∧ (wants = 1 → wp_X0_set (wanted 1) p0 p1 p2 p3 (fun u3 => K (on, role, 2, sndC, rcvC, nSent, nRcvd, lastF, found, sending, next, va_up wanted 1 u3, lastR, line, reader))) ∧ (wants = 2 → wp_X0_set (wanted 2) p0 p1 p2 p3 (fun u4 => K (on, role, 3, sndC, rcvC, nSent, nRcvd, lastF, found, sending, next, va_up wanted 2 u4, lastR, line, reader))) ∧ (wants = 3 → wp_X0_set (wanted 3) p0 p1 p2 p3 (fun u5 => K (on, role, 4, sndC, rcvC, nSent, nRcvd, lastF, found, sending, next, va_up wanted 3 u5, lastR, line, reader))))))
set_option maxHeartbeats 4000000 in
set_option maxRecDepth 100000 in
theorem c_X2_addWanted (l : Launch) (dC : Nat → ClassId) (dI : Nat → Nat → Nat) (y : Nat → ClassId) (a : NodeA) (sz : Nat) (S : NodeS) (p0 : Int32) (p1 : Int32) (p2 : Int64) (p3 : Int32) (K : NodeS → Prop) (hf : wp_X2_addWanted S p0 p1 p2 p3 K) : MV l yX2_addWanted wsX2_addWanted { frames := 1, cells := 0, slots := 0, locals := 25 } dC dI y [.ref a.1, .int p0, .int p1, .long p2, .int p3] (ndW y a S) sz (fun u => ndW y a u) K := by
  refine Met.ofW (cc := cX2_addWanted) (maxL := 6) (ret := none) (by decide) rfl ?_
  intro p e s m args below meth c s₁ B hml hv
  obtain ⟨rfl, hsz, hP, hK, hD0⟩ := hv
  have hx := B.exec
  have hb := B.bytes
  have hr := B.returns
  have hts := atoms_spec (ws := wsX2_addWanted) B.pre
  have hown : s.vm.findClass RX2 = some m.cls := findClass_of_methodNamed B.named
  have hlocks := B.notSynchronized
  subst hsz
  have hD := hD0.self (sz := s.heap.size)
  generalize hAe : va_A (ndW y a S) s.heap.size = A at hD ⊢
  have hA : ∀ q : Nat, s.heap.size ≤ q → A q := fun q h => by rw [← hAe]; exact Or.inr h
  have hS : va_S A s.heap s.heap [] := va_S.rf
  have C0 : Cx p s m [.ref a.1, .int p0, .int p1, .long p2, .int p3].toArray meth c cX2_addWanted 6 none wsX2_addWanted RX2 A dC dI y := ⟨hx, hb, hr, hml, hown, hts, hlocks, hA, hK⟩
  have w11 := hts (.fieldLink RX2 11 "SharedWire$Node" "wanted" "[LSharedWire$Frame;") (List.mem_of_getElem? (i := 2) rfl)
  have w44 := hts (.fieldLink RX2 44 "SharedWire$Node" "wants" "I") (List.mem_of_getElem? (i := 1) rfl)
  have hinX2 : ∀ w ∈ wsX20, w ∈ wsX2_addWanted := fun w h => List.mem_cons_of_mem _ (List.mem_append_left _ (List.mem_append_right _ (h)))
  have hl := lv_entry ([.ref a.1, .int p0, .int p1, .long p2, .int p3]) (n := 6) (Nat.le_of_ble_eq_true rfl)
  rw [lg_entry_eq]
  generalize (lg_sl ([.ref a.1, .int p0, .int p1, .long p2, .int p3]) ++ List.replicate (6 - (lg_sl ([.ref a.1, .int p0, .int p1, .long p2, .int p3])).length) Slot.unset).toArray = ls at hl ⊢
  have hl : lv_has ls 6 [(0, .ref a.1), (1, .int p0), (2, .int p1), (3, .long p2), (5, .int p3)] := hl
  obtain ⟨on, role, wants, sndC, rcvC, nSent, nRcvd, lastF, found, sending, next, wanted, lastR, line, reader⟩ := S
  clear hAe hD0
  generalize hL0 : ([] : List Loc) = locs at hS ⊢
  unfold wp_X2_addWanted at hf
  refine lv_aload_n hx hb dX2_addWanted_0 rfl (lv_at hl 0 rfl) ?_
  refine va_get (D := (dC, dI)) (ci := 2) (v := .int wants) (C := RX2) (T := TX2) (N := 15) hx hb hts hinX2 hown hK.1 hP 0 rfl rfl 6 (by decide) w44 (fun _ h9 => h9) rfl dX2_addWanted_1 ?_
  refine lv_iconst (v := 4) hx hb dX2_addWanted_4 (by decide) ?_
  refine lv_icmp_ge (tgt := 35) hx hb dX2_addWanted_5 (by decide) (fun c1 => ?_) (fun c1 => ?_)
  · replace hf := hf.1 c1
    exact W.vret hx hb hr (fun t ht hW => ⟨⟨(on, role, wants, sndC, rcvC, nSent, nRcvd, lastF, found, sending, next, wanted, lastR, line, reader), rfl, hf, by rw [ht]; exact hP, hD⟩, hS.F ht⟩) hS.2.2 dX2_addWanted_35
  · replace hf := hf.2 c1
    refine lv_aload_n hx hb dX2_addWanted_8 rfl (lv_at hl 0 rfl) ?_
    refine va_get (D := (dC, dI)) (ci := 2) (v := .ref a.2.1) (C := RX2) (T := TX2) (N := 15) hx hb hts hinX2 hown hK.1 hP 0 rfl rfl 0 (by decide) w11 (fun _ h9 => h9) rfl dX2_addWanted_9 ?_
    refine lv_aload_n hx hb dX2_addWanted_12 rfl (lv_at hl 0 rfl) ?_
    refine va_get (D := (dC, dI)) (ci := 2) (v := .int wants) (C := RX2) (T := TX2) (N := 15) hx hb hts hinX2 hown hK.1 hP 0 rfl rfl 6 (by decide) w44 (fun _ h9 => h9) rfl dX2_addWanted_13 ?_
    obtain ⟨hg9, hf0, hf1, hf2, hf3⟩ := hf
    rcases vin4 hg9 with e9 | e9 | e9 | e9
    · replace hf := hf0 e9
      subst e9
      refine ar_qld (j := 0) hx hb hK.1 hP 1 3 rfl rfl (clamp_lit 0 rfl) (vin_lit 0 4 rfl rfl) dX2_addWanted_16 ?_
      refine lv_iload_n hx hb dX2_addWanted_17 rfl (lv_at hl 1 rfl) ?_
      refine lv_iload_n hx hb dX2_addWanted_18 rfl (lv_at hl 2 rfl) ?_
      refine lv_lload_n hx hb dX2_addWanted_19 rfl (lv_at hl 3 rfl) ?_
      refine lv_iload hx hb dX2_addWanted_20 (lv_at hl 4 rfl) ?_
      refine kVv (As := [.int p0, .int p1, .long p2, .int p3]) (rest := []) (pre := (ndW y a (on, role, 0, sndC, rcvC, nSent, nRcvd, lastF, found, sending, next, wanted, lastR, line, reader)).take 2) (post := (ndW y a (on, role, 0, sndC, rcvC, nSent, nRcvd, lastF, found, sending, next, wanted, lastR, line, reader)).drop 3) ⟨hx, hb, hml, hown, hts⟩ (c_X0_set l dC dI y (a.2.2.1 0) s.heap.size (wanted 0) p0 p1 p2 p3 _ hf) (cwV 4 hts gX2_addWanted_X0_set rfl rfl rfl (by decide +kernel) ⟨Nat.le_of_ble_eq_true rfl, Nat.le_of_ble_eq_true rfl⟩) hK hP hD (va_recv hK.1 hP (ci := 0) (q0 := 2) rfl rfl) hS hA rfl hl.1 rfl (Nat.le_of_ble_eq_true rfl) dX2_addWanted_22 ⟨Nat.zero_le _, Nat.zero_le _⟩ (fun u2 H locs hf hP hD hS => ?_)
      have hP : va_P (dC, dI) vwCl (ndW y a (on, role, 0, sndC, rcvC, nSent, nRcvd, lastF, found, sending, next, va_up wanted 0 u2, lastR, line, reader)) H := hP
      have hD : va_D A (ndW y a (on, role, 0, sndC, rcvC, nSent, nRcvd, lastF, found, sending, next, va_up wanted 0 u2, lastR, line, reader)) := hD
      refine lv_aload_n hx hb dX2_addWanted_25 rfl (lv_at hl 0 rfl) ?_
      refine lv_dup hx hb dX2_addWanted_26 rfl ?_
      refine va_get (D := (dC, dI)) (ci := 2) (v := .int 0) (C := RX2) (T := TX2) (N := 15) hx hb hts hinX2 hown hK.1 hP 0 rfl rfl 6 (by decide) w44 (fun _ h9 => h9) rfl dX2_addWanted_27 ?_
      refine lv_iconst (v := 1) hx hb dX2_addWanted_30 (by decide) ?_
      refine lv_iadd hx hb dX2_addWanted_31 ?_
      refine fold_i (v := 1) (by decide) ?_
      refine va_put (D := (dC, dI)) (ci := 2) (v := .int 1) (ty := .int) (C := RX2) (T := TX2) (N := 15) hx hb hts hinX2 tyX2 tyX2_ok nmX2 hown hK.1 hP hD hS 0 rfl rfl 6 (by decide) w44 (fun _ h9 => h9) rfl (by decide +kernel) rfl rfl (Nat.le_of_ble_eq_true rfl) dX2_addWanted_32 (fun H locs hP hD hS => ?_)
      have hP : va_P (dC, dI) vwCl (ndW y a (on, role, 1, sndC, rcvC, nSent, nRcvd, lastF, found, sending, next, va_up wanted 0 u2, lastR, line, reader)) H := hP
      have hD : va_D A (ndW y a (on, role, 1, sndC, rcvC, nSent, nRcvd, lastF, found, sending, next, va_up wanted 0 u2, lastR, line, reader)) := hD
      exact W.vret hx hb hr (fun t ht hW => ⟨⟨(on, role, 1, sndC, rcvC, nSent, nRcvd, lastF, found, sending, next, va_up wanted 0 u2, lastR, line, reader), rfl, hf, by rw [ht]; exact hP, hD⟩, hS.F ht⟩) hS.2.2 dX2_addWanted_35
    · replace hf := hf1 e9
      subst e9
      refine ar_qld (j := 1) hx hb hK.1 hP 1 3 rfl rfl (clamp_lit 1 rfl) (vin_lit 1 4 rfl rfl) dX2_addWanted_16 ?_
      refine lv_iload_n hx hb dX2_addWanted_17 rfl (lv_at hl 1 rfl) ?_
      refine lv_iload_n hx hb dX2_addWanted_18 rfl (lv_at hl 2 rfl) ?_
      refine lv_lload_n hx hb dX2_addWanted_19 rfl (lv_at hl 3 rfl) ?_
      refine lv_iload hx hb dX2_addWanted_20 (lv_at hl 4 rfl) ?_
      refine kVv (As := [.int p0, .int p1, .long p2, .int p3]) (rest := []) (pre := (ndW y a (on, role, 1, sndC, rcvC, nSent, nRcvd, lastF, found, sending, next, wanted, lastR, line, reader)).take 3) (post := (ndW y a (on, role, 1, sndC, rcvC, nSent, nRcvd, lastF, found, sending, next, wanted, lastR, line, reader)).drop 4) ⟨hx, hb, hml, hown, hts⟩ (c_X0_set l dC dI y (a.2.2.1 1) s.heap.size (wanted 1) p0 p1 p2 p3 _ hf) (cwV 4 hts gX2_addWanted_X0_set rfl rfl rfl (by decide +kernel) ⟨Nat.le_of_ble_eq_true rfl, Nat.le_of_ble_eq_true rfl⟩) hK hP hD (va_recv hK.1 hP (ci := 0) (q0 := 3) rfl rfl) hS hA rfl hl.1 rfl (Nat.le_of_ble_eq_true rfl) dX2_addWanted_22 ⟨Nat.zero_le _, Nat.zero_le _⟩ (fun u3 H locs hf hP hD hS => ?_)
      have hP : va_P (dC, dI) vwCl (ndW y a (on, role, 1, sndC, rcvC, nSent, nRcvd, lastF, found, sending, next, va_up wanted 1 u3, lastR, line, reader)) H := hP
      have hD : va_D A (ndW y a (on, role, 1, sndC, rcvC, nSent, nRcvd, lastF, found, sending, next, va_up wanted 1 u3, lastR, line, reader)) := hD
      refine lv_aload_n hx hb dX2_addWanted_25 rfl (lv_at hl 0 rfl) ?_
      refine lv_dup hx hb dX2_addWanted_26 rfl ?_
      refine va_get (D := (dC, dI)) (ci := 2) (v := .int 1) (C := RX2) (T := TX2) (N := 15) hx hb hts hinX2 hown hK.1 hP 0 rfl rfl 6 (by decide) w44 (fun _ h9 => h9) rfl dX2_addWanted_27 ?_
      refine lv_iconst (v := 1) hx hb dX2_addWanted_30 (by decide) ?_
      refine lv_iadd hx hb dX2_addWanted_31 ?_
      refine fold_i (v := 2) (by decide) ?_
      refine va_put (D := (dC, dI)) (ci := 2) (v := .int 2) (ty := .int) (C := RX2) (T := TX2) (N := 15) hx hb hts hinX2 tyX2 tyX2_ok nmX2 hown hK.1 hP hD hS 0 rfl rfl 6 (by decide) w44 (fun _ h9 => h9) rfl (by decide +kernel) rfl rfl (Nat.le_of_ble_eq_true rfl) dX2_addWanted_32 (fun H locs hP hD hS => ?_)
      have hP : va_P (dC, dI) vwCl (ndW y a (on, role, 2, sndC, rcvC, nSent, nRcvd, lastF, found, sending, next, va_up wanted 1 u3, lastR, line, reader)) H := hP
      have hD : va_D A (ndW y a (on, role, 2, sndC, rcvC, nSent, nRcvd, lastF, found, sending, next, va_up wanted 1 u3, lastR, line, reader)) := hD
      exact W.vret hx hb hr (fun t ht hW => ⟨⟨(on, role, 2, sndC, rcvC, nSent, nRcvd, lastF, found, sending, next, va_up wanted 1 u3, lastR, line, reader), rfl, hf, by rw [ht]; exact hP, hD⟩, hS.F ht⟩) hS.2.2 dX2_addWanted_35
    · replace hf := hf2 e9
      subst e9
      refine ar_qld (j := 2) hx hb hK.1 hP 1 3 rfl rfl (clamp_lit 2 rfl) (vin_lit 2 4 rfl rfl) dX2_addWanted_16 ?_
      refine lv_iload_n hx hb dX2_addWanted_17 rfl (lv_at hl 1 rfl) ?_
      refine lv_iload_n hx hb dX2_addWanted_18 rfl (lv_at hl 2 rfl) ?_
      refine lv_lload_n hx hb dX2_addWanted_19 rfl (lv_at hl 3 rfl) ?_
      refine lv_iload hx hb dX2_addWanted_20 (lv_at hl 4 rfl) ?_
      refine kVv (As := [.int p0, .int p1, .long p2, .int p3]) (rest := []) (pre := (ndW y a (on, role, 2, sndC, rcvC, nSent, nRcvd, lastF, found, sending, next, wanted, lastR, line, reader)).take 4) (post := (ndW y a (on, role, 2, sndC, rcvC, nSent, nRcvd, lastF, found, sending, next, wanted, lastR, line, reader)).drop 5) ⟨hx, hb, hml, hown, hts⟩ (c_X0_set l dC dI y (a.2.2.1 2) s.heap.size (wanted 2) p0 p1 p2 p3 _ hf) (cwV 4 hts gX2_addWanted_X0_set rfl rfl rfl (by decide +kernel) ⟨Nat.le_of_ble_eq_true rfl, Nat.le_of_ble_eq_true rfl⟩) hK hP hD (va_recv hK.1 hP (ci := 0) (q0 := 4) rfl rfl) hS hA rfl hl.1 rfl (Nat.le_of_ble_eq_true rfl) dX2_addWanted_22 ⟨Nat.zero_le _, Nat.zero_le _⟩ (fun u4 H locs hf hP hD hS => ?_)
      have hP : va_P (dC, dI) vwCl (ndW y a (on, role, 2, sndC, rcvC, nSent, nRcvd, lastF, found, sending, next, va_up wanted 2 u4, lastR, line, reader)) H := hP
      have hD : va_D A (ndW y a (on, role, 2, sndC, rcvC, nSent, nRcvd, lastF, found, sending, next, va_up wanted 2 u4, lastR, line, reader)) := hD
      refine lv_aload_n hx hb dX2_addWanted_25 rfl (lv_at hl 0 rfl) ?_
      refine lv_dup hx hb dX2_addWanted_26 rfl ?_
      refine va_get (D := (dC, dI)) (ci := 2) (v := .int 2) (C := RX2) (T := TX2) (N := 15) hx hb hts hinX2 hown hK.1 hP 0 rfl rfl 6 (by decide) w44 (fun _ h9 => h9) rfl dX2_addWanted_27 ?_
      refine lv_iconst (v := 1) hx hb dX2_addWanted_30 (by decide) ?_
      refine lv_iadd hx hb dX2_addWanted_31 ?_
      refine fold_i (v := 3) (by decide) ?_
      refine va_put (D := (dC, dI)) (ci := 2) (v := .int 3) (ty := .int) (C := RX2) (T := TX2) (N := 15) hx hb hts hinX2 tyX2 tyX2_ok nmX2 hown hK.1 hP hD hS 0 rfl rfl 6 (by decide) w44 (fun _ h9 => h9) rfl (by decide +kernel) rfl rfl (Nat.le_of_ble_eq_true rfl) dX2_addWanted_32 (fun H locs hP hD hS => ?_)
      have hP : va_P (dC, dI) vwCl (ndW y a (on, role, 3, sndC, rcvC, nSent, nRcvd, lastF, found, sending, next, va_up wanted 2 u4, lastR, line, reader)) H := hP
      have hD : va_D A (ndW y a (on, role, 3, sndC, rcvC, nSent, nRcvd, lastF, found, sending, next, va_up wanted 2 u4, lastR, line, reader)) := hD
      exact W.vret hx hb hr (fun t ht hW => ⟨⟨(on, role, 3, sndC, rcvC, nSent, nRcvd, lastF, found, sending, next, va_up wanted 2 u4, lastR, line, reader), rfl, hf, by rw [ht]; exact hP, hD⟩, hS.F ht⟩) hS.2.2 dX2_addWanted_35
    · replace hf := hf3 e9
      subst e9
      refine ar_qld (j := 3) hx hb hK.1 hP 1 3 rfl rfl (clamp_lit 3 rfl) (vin_lit 3 4 rfl rfl) dX2_addWanted_16 ?_
      refine lv_iload_n hx hb dX2_addWanted_17 rfl (lv_at hl 1 rfl) ?_
      refine lv_iload_n hx hb dX2_addWanted_18 rfl (lv_at hl 2 rfl) ?_
      refine lv_lload_n hx hb dX2_addWanted_19 rfl (lv_at hl 3 rfl) ?_
      refine lv_iload hx hb dX2_addWanted_20 (lv_at hl 4 rfl) ?_
      refine kVv (As := [.int p0, .int p1, .long p2, .int p3]) (rest := []) (pre := (ndW y a (on, role, 3, sndC, rcvC, nSent, nRcvd, lastF, found, sending, next, wanted, lastR, line, reader)).take 5) (post := (ndW y a (on, role, 3, sndC, rcvC, nSent, nRcvd, lastF, found, sending, next, wanted, lastR, line, reader)).drop 6) ⟨hx, hb, hml, hown, hts⟩ (c_X0_set l dC dI y (a.2.2.1 3) s.heap.size (wanted 3) p0 p1 p2 p3 _ hf) (cwV 4 hts gX2_addWanted_X0_set rfl rfl rfl (by decide +kernel) ⟨Nat.le_of_ble_eq_true rfl, Nat.le_of_ble_eq_true rfl⟩) hK hP hD (va_recv hK.1 hP (ci := 0) (q0 := 5) rfl rfl) hS hA rfl hl.1 rfl (Nat.le_of_ble_eq_true rfl) dX2_addWanted_22 ⟨Nat.zero_le _, Nat.zero_le _⟩ (fun u5 H locs hf hP hD hS => ?_)
      have hP : va_P (dC, dI) vwCl (ndW y a (on, role, 3, sndC, rcvC, nSent, nRcvd, lastF, found, sending, next, va_up wanted 3 u5, lastR, line, reader)) H := hP
      have hD : va_D A (ndW y a (on, role, 3, sndC, rcvC, nSent, nRcvd, lastF, found, sending, next, va_up wanted 3 u5, lastR, line, reader)) := hD
      refine lv_aload_n hx hb dX2_addWanted_25 rfl (lv_at hl 0 rfl) ?_
      refine lv_dup hx hb dX2_addWanted_26 rfl ?_
      refine va_get (D := (dC, dI)) (ci := 2) (v := .int 3) (C := RX2) (T := TX2) (N := 15) hx hb hts hinX2 hown hK.1 hP 0 rfl rfl 6 (by decide) w44 (fun _ h9 => h9) rfl dX2_addWanted_27 ?_
      refine lv_iconst (v := 1) hx hb dX2_addWanted_30 (by decide) ?_
      refine lv_iadd hx hb dX2_addWanted_31 ?_
      refine fold_i (v := 4) (by decide) ?_
      refine va_put (D := (dC, dI)) (ci := 2) (v := .int 4) (ty := .int) (C := RX2) (T := TX2) (N := 15) hx hb hts hinX2 tyX2 tyX2_ok nmX2 hown hK.1 hP hD hS 0 rfl rfl 6 (by decide) w44 (fun _ h9 => h9) rfl (by decide +kernel) rfl rfl (Nat.le_of_ble_eq_true rfl) dX2_addWanted_32 (fun H locs hP hD hS => ?_)
      have hP : va_P (dC, dI) vwCl (ndW y a (on, role, 4, sndC, rcvC, nSent, nRcvd, lastF, found, sending, next, va_up wanted 3 u5, lastR, line, reader)) H := hP
      have hD : va_D A (ndW y a (on, role, 4, sndC, rcvC, nSent, nRcvd, lastF, found, sending, next, va_up wanted 3 u5, lastR, line, reader)) := hD
      exact W.vret hx hb hr (fun t ht hW => ⟨⟨(on, role, 4, sndC, rcvC, nSent, nRcvd, lastF, found, sending, next, va_up wanted 3 u5, lastR, line, reader), rfl, hf, by rw [ht]; exact hP, hD⟩, hS.F ht⟩) hS.2.2 dX2_addWanted_35

def wp_X2_offered_4_0_4 (K : Int32 → Prop) : NodeS → Prop := fun (on, role, wants, sndC, rcvC, nSent, nRcvd, lastF, found, sending, next, wanted, lastR, line, reader) => ((wants ≤ 4 → K 0) ∧ (¬ wants ≤ 4 → False))
def wp_X2_offered_40_0_3 (K : Int32 → Prop) : NodeS → Prop := fun (on, role, wants, sndC, rcvC, nSent, nRcvd, lastF, found, sending, next, wanted, lastR, line, reader) => wp_X2_offered_4_0_4 K (on, role, wants, sndC, rcvC, nSent, nRcvd, lastF, found, sending, next, wanted, lastR, line, reader)
def wp_X2_offered_4_3_4 (K : Int32 → Prop) : NodeS → Prop := fun (on, role, wants, sndC, rcvC, nSent, nRcvd, lastF, found, sending, next, wanted, lastR, line, reader) => ((wants ≤ 4 → K 3) ∧ (¬ wants ≤ 4 → False))
def wp_X2_offered_40_3_3 (K : Int32 → Prop) : NodeS → Prop := fun (on, role, wants, sndC, rcvC, nSent, nRcvd, lastF, found, sending, next, wanted, lastR, line, reader) => wp_X2_offered_4_3_4 K (on, role, wants, sndC, rcvC, nSent, nRcvd, lastF, found, sending, next, wanted, lastR, line, reader)
def wp_X2_offered_38_3 (K : Int32 → Prop) : NodeS → Prop := fun (on, role, wants, sndC, rcvC, nSent, nRcvd, lastF, found, sending, next, wanted, lastR, line, reader) => wp_X2_offered_40_3_3 K (on, role, wants, sndC, rcvC, nSent, nRcvd, lastF, found, sending, next, wanted, lastR, line, reader)
def wp_X2_offered_4_0_3 (K : Int32 → Prop) : NodeS → Prop := fun (on, role, wants, sndC, rcvC, nSent, nRcvd, lastF, found, sending, next, wanted, lastR, line, reader) => ((wants ≤ 3 → K 0) ∧ (¬ wants ≤ 3 → wp_X0_rank (wanted 3) (fun r15 => wp_X0_rank (wanted 0) (fun r17 => ((r17 ≤ r15 → wp_X2_offered_40_0_3 K (on, role, wants, sndC, rcvC, nSent, nRcvd, lastF, found, sending, next, wanted, lastR, line, reader)) ∧ (¬ r17 ≤ r15 → wp_X2_offered_38_3 K (on, role, wants, sndC, rcvC, nSent, nRcvd, lastF, found, sending, next, wanted, lastR, line, reader)))))))
def wp_X2_offered_40_0_2 (K : Int32 → Prop) : NodeS → Prop := fun (on, role, wants, sndC, rcvC, nSent, nRcvd, lastF, found, sending, next, wanted, lastR, line, reader) => wp_X2_offered_4_0_3 K (on, role, wants, sndC, rcvC, nSent, nRcvd, lastF, found, sending, next, wanted, lastR, line, reader)
def wp_X2_offered_4_2_4 (K : Int32 → Prop) : NodeS → Prop := fun (on, role, wants, sndC, rcvC, nSent, nRcvd, lastF, found, sending, next, wanted, lastR, line, reader) => ((wants ≤ 4 → K 2) ∧ (¬ wants ≤ 4 → False))
def wp_X2_offered_40_2_3 (K : Int32 → Prop) : NodeS → Prop := fun (on, role, wants, sndC, rcvC, nSent, nRcvd, lastF, found, sending, next, wanted, lastR, line, reader) => wp_X2_offered_4_2_4 K (on, role, wants, sndC, rcvC, nSent, nRcvd, lastF, found, sending, next, wanted, lastR, line, reader)
def wp_X2_offered_4_2_3 (K : Int32 → Prop) : NodeS → Prop := fun (on, role, wants, sndC, rcvC, nSent, nRcvd, lastF, found, sending, next, wanted, lastR, line, reader) => ((wants ≤ 3 → K 2) ∧ (¬ wants ≤ 3 → wp_X0_rank (wanted 3) (fun r23 => wp_X0_rank (wanted 2) (fun r25 => ((r25 ≤ r23 → wp_X2_offered_40_2_3 K (on, role, wants, sndC, rcvC, nSent, nRcvd, lastF, found, sending, next, wanted, lastR, line, reader)) ∧ (¬ r25 ≤ r23 → wp_X2_offered_38_3 K (on, role, wants, sndC, rcvC, nSent, nRcvd, lastF, found, sending, next, wanted, lastR, line, reader)))))))
def wp_X2_offered_40_2_2 (K : Int32 → Prop) : NodeS → Prop := fun (on, role, wants, sndC, rcvC, nSent, nRcvd, lastF, found, sending, next, wanted, lastR, line, reader) => wp_X2_offered_4_2_3 K (on, role, wants, sndC, rcvC, nSent, nRcvd, lastF, found, sending, next, wanted, lastR, line, reader)
def wp_X2_offered_38_2 (K : Int32 → Prop) : NodeS → Prop := fun (on, role, wants, sndC, rcvC, nSent, nRcvd, lastF, found, sending, next, wanted, lastR, line, reader) => wp_X2_offered_40_2_2 K (on, role, wants, sndC, rcvC, nSent, nRcvd, lastF, found, sending, next, wanted, lastR, line, reader)
def wp_X2_offered_4_0_2 (K : Int32 → Prop) : NodeS → Prop := fun (on, role, wants, sndC, rcvC, nSent, nRcvd, lastF, found, sending, next, wanted, lastR, line, reader) => ((wants ≤ 2 → K 0) ∧ (¬ wants ≤ 2 → wp_X0_rank (wanted 2) (fun r9 => wp_X0_rank (wanted 0) (fun r11 => ((r11 ≤ r9 → wp_X2_offered_40_0_2 K (on, role, wants, sndC, rcvC, nSent, nRcvd, lastF, found, sending, next, wanted, lastR, line, reader)) ∧ (¬ r11 ≤ r9 → wp_X2_offered_38_2 K (on, role, wants, sndC, rcvC, nSent, nRcvd, lastF, found, sending, next, wanted, lastR, line, reader)))))))
def wp_X2_offered_40_0_1 (K : Int32 → Prop) : NodeS → Prop := fun (on, role, wants, sndC, rcvC, nSent, nRcvd, lastF, found, sending, next, wanted, lastR, line, reader) => wp_X2_offered_4_0_2 K (on, role, wants, sndC, rcvC, nSent, nRcvd, lastF, found, sending, next, wanted, lastR, line, reader)
def wp_X2_offered_4_1_4 (K : Int32 → Prop) : NodeS → Prop := fun (on, role, wants, sndC, rcvC, nSent, nRcvd, lastF, found, sending, next, wanted, lastR, line, reader) => ((wants ≤ 4 → K 1) ∧ (¬ wants ≤ 4 → False))
def wp_X2_offered_40_1_3 (K : Int32 → Prop) : NodeS → Prop := fun (on, role, wants, sndC, rcvC, nSent, nRcvd, lastF, found, sending, next, wanted, lastR, line, reader) => wp_X2_offered_4_1_4 K (on, role, wants, sndC, rcvC, nSent, nRcvd, lastF, found, sending, next, wanted, lastR, line, reader)
def wp_X2_offered_4_1_3 (K : Int32 → Prop) : NodeS → Prop := fun (on, role, wants, sndC, rcvC, nSent, nRcvd, lastF, found, sending, next, wanted, lastR, line, reader) => ((wants ≤ 3 → K 1) ∧ (¬ wants ≤ 3 → wp_X0_rank (wanted 3) (fun r36 => wp_X0_rank (wanted 1) (fun r38 => ((r38 ≤ r36 → wp_X2_offered_40_1_3 K (on, role, wants, sndC, rcvC, nSent, nRcvd, lastF, found, sending, next, wanted, lastR, line, reader)) ∧ (¬ r38 ≤ r36 → wp_X2_offered_38_3 K (on, role, wants, sndC, rcvC, nSent, nRcvd, lastF, found, sending, next, wanted, lastR, line, reader)))))))
def wp_X2_offered_40_1_2 (K : Int32 → Prop) : NodeS → Prop := fun (on, role, wants, sndC, rcvC, nSent, nRcvd, lastF, found, sending, next, wanted, lastR, line, reader) => wp_X2_offered_4_1_3 K (on, role, wants, sndC, rcvC, nSent, nRcvd, lastF, found, sending, next, wanted, lastR, line, reader)
def wp_X2_offered_4_1_2 (K : Int32 → Prop) : NodeS → Prop := fun (on, role, wants, sndC, rcvC, nSent, nRcvd, lastF, found, sending, next, wanted, lastR, line, reader) => ((wants ≤ 2 → K 1) ∧ (¬ wants ≤ 2 → wp_X0_rank (wanted 2) (fun r30 => wp_X0_rank (wanted 1) (fun r32 => ((r32 ≤ r30 → wp_X2_offered_40_1_2 K (on, role, wants, sndC, rcvC, nSent, nRcvd, lastF, found, sending, next, wanted, lastR, line, reader)) ∧ (¬ r32 ≤ r30 → wp_X2_offered_38_2 K (on, role, wants, sndC, rcvC, nSent, nRcvd, lastF, found, sending, next, wanted, lastR, line, reader)))))))
def wp_X2_offered_40_1_1 (K : Int32 → Prop) : NodeS → Prop := fun (on, role, wants, sndC, rcvC, nSent, nRcvd, lastF, found, sending, next, wanted, lastR, line, reader) => wp_X2_offered_4_1_2 K (on, role, wants, sndC, rcvC, nSent, nRcvd, lastF, found, sending, next, wanted, lastR, line, reader)
def wp_X2_offered_38_1 (K : Int32 → Prop) : NodeS → Prop := fun (on, role, wants, sndC, rcvC, nSent, nRcvd, lastF, found, sending, next, wanted, lastR, line, reader) => wp_X2_offered_40_1_1 K (on, role, wants, sndC, rcvC, nSent, nRcvd, lastF, found, sending, next, wanted, lastR, line, reader)
def wp_X2_offered_4_0_1 (K : Int32 → Prop) : NodeS → Prop := fun (on, role, wants, sndC, rcvC, nSent, nRcvd, lastF, found, sending, next, wanted, lastR, line, reader) => ((wants ≤ 1 → K 0) ∧ (¬ wants ≤ 1 → wp_X0_rank (wanted 1) (fun r3 => wp_X0_rank (wanted 0) (fun r5 => ((r5 ≤ r3 → wp_X2_offered_40_0_1 K (on, role, wants, sndC, rcvC, nSent, nRcvd, lastF, found, sending, next, wanted, lastR, line, reader)) ∧ (¬ r5 ≤ r3 → wp_X2_offered_38_1 K (on, role, wants, sndC, rcvC, nSent, nRcvd, lastF, found, sending, next, wanted, lastR, line, reader)))))))
def wp_X2_offered_40_0_0 (K : Int32 → Prop) : NodeS → Prop := fun (on, role, wants, sndC, rcvC, nSent, nRcvd, lastF, found, sending, next, wanted, lastR, line, reader) => wp_X2_offered_4_0_1 K (on, role, wants, sndC, rcvC, nSent, nRcvd, lastF, found, sending, next, wanted, lastR, line, reader)
def wp_X2_offered_38_0 (K : Int32 → Prop) : NodeS → Prop := fun (on, role, wants, sndC, rcvC, nSent, nRcvd, lastF, found, sending, next, wanted, lastR, line, reader) => wp_X2_offered_40_0_0 K (on, role, wants, sndC, rcvC, nSent, nRcvd, lastF, found, sending, next, wanted, lastR, line, reader)
def wp_X2_offered_4_m1_0 (K : Int32 → Prop) : NodeS → Prop := fun (on, role, wants, sndC, rcvC, nSent, nRcvd, lastF, found, sending, next, wanted, lastR, line, reader) => ((wants ≤ 0 → K (-1)) ∧ (¬ wants ≤ 0 → wp_X2_offered_38_0 K (on, role, wants, sndC, rcvC, nSent, nRcvd, lastF, found, sending, next, wanted, lastR, line, reader)))
def wp_X2_offered : NodeS → (Int32 → Prop) → Prop := fun (on, role, wants, sndC, rcvC, nSent, nRcvd, lastF, found, sending, next, wanted, lastR, line, reader) K => wp_X2_offered_4_m1_0 K (on, role, wants, sndC, rcvC, nSent, nRcvd, lastF, found, sending, next, wanted, lastR, line, reader)
set_option maxHeartbeats 4000000 in
set_option maxRecDepth 100000 in
theorem j_X2_offered_4_0_4 {p : Program} {l : Launch} {e : Env} {s : State} {m : MethodId} {args : Array Value} {below : List Frame} {meth : Method} {c : Code} {dC : Nat → ClassId} {dI : Nat → Nat → Nat} {y : Nat → ClassId} {A : Nat → Prop} (C0 : Cx p s m args meth c cX2_offered 3 (some .int) wsX2_offered RX2 A dC dI y) (a : NodeA) (K : Int32 → Prop) (S0 : NodeS) : ∀ (S : NodeS) (H : Heap) (locs : List Loc) (ls : Array Slot), va_P (dC, dI) vwCl (ndW y a S) H → va_D A (ndW y a S) → va_S A s.heap H locs → lv_has ls 3 [(0, .ref a.1), (1, .int 0), (2, .int 4)] → S = S0 → wp_X2_offered_4_0_4 K S → W p l e ({ frames := 1, cells := 0, slots := 0, locals := 21 } : Room) s m args below meth c H locs 0 0 (MQ below (va_Qi (fun r u => K r ∧ u = S0) (BW dC dI A (fun u => ndW y a u)) A) args s 0 0 A) (F0 m 4 ls []) := by
  obtain ⟨hx, hb, hr, hml, hown, hts, hlocks, hA, hK⟩ := id C0
  have w11 := hts (.fieldLink RX2 11 "SharedWire$Node" "wanted" "[LSharedWire$Frame;") (List.mem_of_getElem? (i := 2) rfl)
  have w44 := hts (.fieldLink RX2 44 "SharedWire$Node" "wants" "I") (List.mem_of_getElem? (i := 1) rfl)
  have hinX2 : ∀ w ∈ wsX20, w ∈ wsX2_offered := fun w h => List.mem_cons_of_mem _ (List.mem_append_left _ (List.mem_append_right _ (h)))
  intro S H locs ls hP hD hS hl hSS hf
  obtain ⟨on, role, wants, sndC, rcvC, nSent, nRcvd, lastF, found, sending, next, wanted, lastR, line, reader⟩ := S
  unfold wp_X2_offered_4_0_4 at hf
  refine lv_iload_n hx hb dX2_offered_4 rfl (lv_at hl 2 rfl) ?_
  refine lv_aload_n hx hb dX2_offered_5 rfl (lv_at hl 0 rfl) ?_
  refine va_get (D := (dC, dI)) (ci := 2) (v := .int wants) (C := RX2) (T := TX2) (N := 15) hx hb hts hinX2 hown hK.1 hP 0 rfl rfl 6 (by decide) w44 (fun _ h9 => h9) rfl dX2_offered_6 ?_
  refine lv_icmp_ge (tgt := 46) hx hb dX2_offered_9 (by decide) (fun c20 => ?_) (fun c20 => ?_)
  · replace hf := hf.1 c20
    refine lv_iload_n hx hb dX2_offered_46 rfl (lv_at hl 1 rfl) ?_
    exact W.iret (v := 0) hx hb hr (fun t ht hW => ⟨⟨0, (on, role, wants, sndC, rcvC, nSent, nRcvd, lastF, found, sending, next, wanted, lastR, line, reader), rfl, ⟨hf, hSS⟩, by rw [ht]; exact hP, hD⟩, hS.F ht⟩) hS.2.2 dX2_offered_47
  · replace hf := hf.2 c20
    refine lv_iload_n hx hb dX2_offered_12 rfl (lv_at hl 1 rfl) ?_
    refine lv_iconst (v := (-1)) hx hb dX2_offered_13 (by decide) ?_
    refine lv_icmp_eq (tgt := 38) hx hb dX2_offered_14 (by decide) (fun c9 => absurd c9 (by decide)) (fun _ => ?_)
    refine lv_aload_n hx hb dX2_offered_17 rfl (lv_at hl 0 rfl) ?_
    refine va_get (D := (dC, dI)) (ci := 2) (v := .ref a.2.1) (C := RX2) (T := TX2) (N := 15) hx hb hts hinX2 hown hK.1 hP 0 rfl rfl 0 (by decide) w11 (fun _ h9 => h9) rfl dX2_offered_18 ?_
    refine lv_iload_n hx hb dX2_offered_21 rfl (lv_at hl 2 rfl) ?_
    exact hf.elim
set_option maxHeartbeats 4000000 in
set_option maxRecDepth 100000 in
theorem j_X2_offered_40_0_3 {p : Program} {l : Launch} {e : Env} {s : State} {m : MethodId} {args : Array Value} {below : List Frame} {meth : Method} {c : Code} {dC : Nat → ClassId} {dI : Nat → Nat → Nat} {y : Nat → ClassId} {A : Nat → Prop} (C0 : Cx p s m args meth c cX2_offered 3 (some .int) wsX2_offered RX2 A dC dI y) (a : NodeA) (K : Int32 → Prop) (S0 : NodeS) : ∀ (S : NodeS) (H : Heap) (locs : List Loc) (ls : Array Slot), va_P (dC, dI) vwCl (ndW y a S) H → va_D A (ndW y a S) → va_S A s.heap H locs → lv_has ls 3 [(0, .ref a.1), (1, .int 0), (2, .int 3)] → S = S0 → wp_X2_offered_40_0_3 K S → W p l e ({ frames := 1, cells := 0, slots := 0, locals := 21 } : Room) s m args below meth c H locs 0 0 (MQ below (va_Qi (fun r u => K r ∧ u = S0) (BW dC dI A (fun u => ndW y a u)) A) args s 0 0 A) (F0 m 40 ls []) := by
  obtain ⟨hx, hb, hr, hml, hown, hts, hlocks, hA, hK⟩ := id C0
  intro S H locs ls hP hD hS hl hSS hf
  obtain ⟨on, role, wants, sndC, rcvC, nSent, nRcvd, lastF, found, sending, next, wanted, lastR, line, reader⟩ := S
  unfold wp_X2_offered_40_0_3 at hf
  refine lv_iinc (v := 4) (lv' := [(2, .int 4), (0, .ref a.1), (1, .int 0)]) hx hb dX2_offered_40 hl (k := 2) rfl (by decide) (by decide) rfl (fun ls hl => ?_)
  refine lv_goto (tgt := 4) hx hb dX2_offered_43 (by decide) ?_
  exact j_X2_offered_4_0_4 C0 a K _ (on, role, wants, sndC, rcvC, nSent, nRcvd, lastF, found, sending, next, wanted, lastR, line, reader) H locs ls hP hD hS (lv_sub hl [1, 2, 0] rfl) hSS hf
set_option maxHeartbeats 4000000 in
set_option maxRecDepth 100000 in
theorem j_X2_offered_4_3_4 {p : Program} {l : Launch} {e : Env} {s : State} {m : MethodId} {args : Array Value} {below : List Frame} {meth : Method} {c : Code} {dC : Nat → ClassId} {dI : Nat → Nat → Nat} {y : Nat → ClassId} {A : Nat → Prop} (C0 : Cx p s m args meth c cX2_offered 3 (some .int) wsX2_offered RX2 A dC dI y) (a : NodeA) (K : Int32 → Prop) (S0 : NodeS) : ∀ (S : NodeS) (H : Heap) (locs : List Loc) (ls : Array Slot), va_P (dC, dI) vwCl (ndW y a S) H → va_D A (ndW y a S) → va_S A s.heap H locs → lv_has ls 3 [(0, .ref a.1), (1, .int 3), (2, .int 4)] → S = S0 → wp_X2_offered_4_3_4 K S → W p l e ({ frames := 1, cells := 0, slots := 0, locals := 21 } : Room) s m args below meth c H locs 0 0 (MQ below (va_Qi (fun r u => K r ∧ u = S0) (BW dC dI A (fun u => ndW y a u)) A) args s 0 0 A) (F0 m 4 ls []) := by
  obtain ⟨hx, hb, hr, hml, hown, hts, hlocks, hA, hK⟩ := id C0
  have w11 := hts (.fieldLink RX2 11 "SharedWire$Node" "wanted" "[LSharedWire$Frame;") (List.mem_of_getElem? (i := 2) rfl)
  have w44 := hts (.fieldLink RX2 44 "SharedWire$Node" "wants" "I") (List.mem_of_getElem? (i := 1) rfl)
  have hinX2 : ∀ w ∈ wsX20, w ∈ wsX2_offered := fun w h => List.mem_cons_of_mem _ (List.mem_append_left _ (List.mem_append_right _ (h)))
  intro S H locs ls hP hD hS hl hSS hf
  obtain ⟨on, role, wants, sndC, rcvC, nSent, nRcvd, lastF, found, sending, next, wanted, lastR, line, reader⟩ := S
  unfold wp_X2_offered_4_3_4 at hf
  refine lv_iload_n hx hb dX2_offered_4 rfl (lv_at hl 2 rfl) ?_
  refine lv_aload_n hx hb dX2_offered_5 rfl (lv_at hl 0 rfl) ?_
  refine va_get (D := (dC, dI)) (ci := 2) (v := .int wants) (C := RX2) (T := TX2) (N := 15) hx hb hts hinX2 hown hK.1 hP 0 rfl rfl 6 (by decide) w44 (fun _ h9 => h9) rfl dX2_offered_6 ?_
  refine lv_icmp_ge (tgt := 46) hx hb dX2_offered_9 (by decide) (fun c21 => ?_) (fun c21 => ?_)
  · replace hf := hf.1 c21
    refine lv_iload_n hx hb dX2_offered_46 rfl (lv_at hl 1 rfl) ?_
    exact W.iret (v := 3) hx hb hr (fun t ht hW => ⟨⟨3, (on, role, wants, sndC, rcvC, nSent, nRcvd, lastF, found, sending, next, wanted, lastR, line, reader), rfl, ⟨hf, hSS⟩, by rw [ht]; exact hP, hD⟩, hS.F ht⟩) hS.2.2 dX2_offered_47
  · replace hf := hf.2 c21
    refine lv_iload_n hx hb dX2_offered_12 rfl (lv_at hl 1 rfl) ?_
    refine lv_iconst (v := (-1)) hx hb dX2_offered_13 (by decide) ?_
    refine lv_icmp_eq (tgt := 38) hx hb dX2_offered_14 (by decide) (fun c9 => absurd c9 (by decide)) (fun _ => ?_)
    refine lv_aload_n hx hb dX2_offered_17 rfl (lv_at hl 0 rfl) ?_
    refine va_get (D := (dC, dI)) (ci := 2) (v := .ref a.2.1) (C := RX2) (T := TX2) (N := 15) hx hb hts hinX2 hown hK.1 hP 0 rfl rfl 0 (by decide) w11 (fun _ h9 => h9) rfl dX2_offered_18 ?_
    refine lv_iload_n hx hb dX2_offered_21 rfl (lv_at hl 2 rfl) ?_
    exact hf.elim
set_option maxHeartbeats 4000000 in
set_option maxRecDepth 100000 in
theorem j_X2_offered_40_3_3 {p : Program} {l : Launch} {e : Env} {s : State} {m : MethodId} {args : Array Value} {below : List Frame} {meth : Method} {c : Code} {dC : Nat → ClassId} {dI : Nat → Nat → Nat} {y : Nat → ClassId} {A : Nat → Prop} (C0 : Cx p s m args meth c cX2_offered 3 (some .int) wsX2_offered RX2 A dC dI y) (a : NodeA) (K : Int32 → Prop) (S0 : NodeS) : ∀ (S : NodeS) (H : Heap) (locs : List Loc) (ls : Array Slot), va_P (dC, dI) vwCl (ndW y a S) H → va_D A (ndW y a S) → va_S A s.heap H locs → lv_has ls 3 [(0, .ref a.1), (1, .int 3), (2, .int 3)] → S = S0 → wp_X2_offered_40_3_3 K S → W p l e ({ frames := 1, cells := 0, slots := 0, locals := 21 } : Room) s m args below meth c H locs 0 0 (MQ below (va_Qi (fun r u => K r ∧ u = S0) (BW dC dI A (fun u => ndW y a u)) A) args s 0 0 A) (F0 m 40 ls []) := by
  obtain ⟨hx, hb, hr, hml, hown, hts, hlocks, hA, hK⟩ := id C0
  intro S H locs ls hP hD hS hl hSS hf
  obtain ⟨on, role, wants, sndC, rcvC, nSent, nRcvd, lastF, found, sending, next, wanted, lastR, line, reader⟩ := S
  unfold wp_X2_offered_40_3_3 at hf
  refine lv_iinc (v := 4) (lv' := [(2, .int 4), (0, .ref a.1), (1, .int 3)]) hx hb dX2_offered_40 hl (k := 2) rfl (by decide) (by decide) rfl (fun ls hl => ?_)
  refine lv_goto (tgt := 4) hx hb dX2_offered_43 (by decide) ?_
  exact j_X2_offered_4_3_4 C0 a K _ (on, role, wants, sndC, rcvC, nSent, nRcvd, lastF, found, sending, next, wanted, lastR, line, reader) H locs ls hP hD hS (lv_sub hl [1, 2, 0] rfl) hSS hf
set_option maxHeartbeats 4000000 in
set_option maxRecDepth 100000 in
theorem j_X2_offered_38_3 {p : Program} {l : Launch} {e : Env} {s : State} {m : MethodId} {args : Array Value} {below : List Frame} {meth : Method} {c : Code} {dC : Nat → ClassId} {dI : Nat → Nat → Nat} {y : Nat → ClassId} {A : Nat → Prop} (C0 : Cx p s m args meth c cX2_offered 3 (some .int) wsX2_offered RX2 A dC dI y) (a : NodeA) (K : Int32 → Prop) (S0 : NodeS) : ∀ (S : NodeS) (H : Heap) (locs : List Loc) (ls : Array Slot), va_P (dC, dI) vwCl (ndW y a S) H → va_D A (ndW y a S) → va_S A s.heap H locs → lv_has ls 3 [(0, .ref a.1), (2, .int 3)] → S = S0 → wp_X2_offered_38_3 K S → W p l e ({ frames := 1, cells := 0, slots := 0, locals := 21 } : Room) s m args below meth c H locs 0 0 (MQ below (va_Qi (fun r u => K r ∧ u = S0) (BW dC dI A (fun u => ndW y a u)) A) args s 0 0 A) (F0 m 38 ls []) := by
  obtain ⟨hx, hb, hr, hml, hown, hts, hlocks, hA, hK⟩ := id C0
  intro S H locs ls hP hD hS hl hSS hf
  obtain ⟨on, role, wants, sndC, rcvC, nSent, nRcvd, lastF, found, sending, next, wanted, lastR, line, reader⟩ := S
  unfold wp_X2_offered_38_3 at hf
  refine lv_iload_n hx hb dX2_offered_38 rfl (lv_at hl 1 rfl) ?_
  refine lv_istore_n (lv' := [(1, .int 3), (0, .ref a.1), (2, .int 3)]) hx hb dX2_offered_39 rfl hl (by decide) rfl (fun ls hl => ?_)
  exact j_X2_offered_40_3_3 C0 a K _ (on, role, wants, sndC, rcvC, nSent, nRcvd, lastF, found, sending, next, wanted, lastR, line, reader) H locs ls hP hD hS (lv_sub hl [1, 0, 2] rfl) hSS hf
set_option maxHeartbeats 4000000 in
set_option maxRecDepth 100000 in
theorem j_X2_offered_4_0_3 {p : Program} {l : Launch} {e : Env} {s : State} {m : MethodId} {args : Array Value} {below : List Frame} {meth : Method} {c : Code} {dC : Nat → ClassId} {dI : Nat → Nat → Nat} {y : Nat → ClassId} {A : Nat → Prop} (C0 : Cx p s m args meth c cX2_offered 3 (some .int) wsX2_offered RX2 A dC dI y) (a : NodeA) (K : Int32 → Prop) (S0 : NodeS) : ∀ (S : NodeS) (H : Heap) (locs : List Loc) (ls : Array Slot), va_P (dC, dI) vwCl (ndW y a S) H → va_D A (ndW y a S) → va_S A s.heap H locs → lv_has ls 3 [(0, .ref a.1), (1, .int 0), (2, .int 3)] → S = S0 → wp_X2_offered_4_0_3 K S → W p l e ({ frames := 1, cells := 0, slots := 0, locals := 21 } : Room) s m args below meth c H locs 0 0 (MQ below (va_Qi (fun r u => K r ∧ u = S0) (BW dC dI A (fun u => ndW y a u)) A) args s 0 0 A) (F0 m 4 ls []) := by
  obtain ⟨hx, hb, hr, hml, hown, hts, hlocks, hA, hK⟩ := id C0
  have w11 := hts (.fieldLink RX2 11 "SharedWire$Node" "wanted" "[LSharedWire$Frame;") (List.mem_of_getElem? (i := 2) rfl)
  have w44 := hts (.fieldLink RX2 44 "SharedWire$Node" "wants" "I") (List.mem_of_getElem? (i := 1) rfl)
  have hinX2 : ∀ w ∈ wsX20, w ∈ wsX2_offered := fun w h => List.mem_cons_of_mem _ (List.mem_append_left _ (List.mem_append_right _ (h)))
  intro S H locs ls hP hD hS hl hSS hf
  obtain ⟨on, role, wants, sndC, rcvC, nSent, nRcvd, lastF, found, sending, next, wanted, lastR, line, reader⟩ := S
  unfold wp_X2_offered_4_0_3 at hf
  refine lv_iload_n hx hb dX2_offered_4 rfl (lv_at hl 2 rfl) ?_
  refine lv_aload_n hx hb dX2_offered_5 rfl (lv_at hl 0 rfl) ?_
  refine va_get (D := (dC, dI)) (ci := 2) (v := .int wants) (C := RX2) (T := TX2) (N := 15) hx hb hts hinX2 hown hK.1 hP 0 rfl rfl 6 (by decide) w44 (fun _ h9 => h9) rfl dX2_offered_6 ?_
  refine lv_icmp_ge (tgt := 46) hx hb dX2_offered_9 (by decide) (fun c14 => ?_) (fun c14 => ?_)
  · replace hf := hf.1 c14
    refine lv_iload_n hx hb dX2_offered_46 rfl (lv_at hl 1 rfl) ?_
    exact W.iret (v := 0) hx hb hr (fun t ht hW => ⟨⟨0, (on, role, wants, sndC, rcvC, nSent, nRcvd, lastF, found, sending, next, wanted, lastR, line, reader), rfl, ⟨hf, hSS⟩, by rw [ht]; exact hP, hD⟩, hS.F ht⟩) hS.2.2 dX2_offered_47
  · replace hf := hf.2 c14
    refine lv_iload_n hx hb dX2_offered_12 rfl (lv_at hl 1 rfl) ?_
    refine lv_iconst (v := (-1)) hx hb dX2_offered_13 (by decide) ?_
    refine lv_icmp_eq (tgt := 38) hx hb dX2_offered_14 (by decide) (fun c9 => absurd c9 (by decide)) (fun _ => ?_)
    refine lv_aload_n hx hb dX2_offered_17 rfl (lv_at hl 0 rfl) ?_
    refine va_get (D := (dC, dI)) (ci := 2) (v := .ref a.2.1) (C := RX2) (T := TX2) (N := 15) hx hb hts hinX2 hown hK.1 hP 0 rfl rfl 0 (by decide) w11 (fun _ h9 => h9) rfl dX2_offered_18 ?_
    refine lv_iload_n hx hb dX2_offered_21 rfl (lv_at hl 2 rfl) ?_
    refine ar_qld (j := 3) hx hb hK.1 hP 1 3 rfl rfl (clamp_lit 3 rfl) (vin_lit 3 4 rfl rfl) dX2_offered_22 ?_
    refine kVi (As := []) (rest := []) (pre := (ndW y a (on, role, wants, sndC, rcvC, nSent, nRcvd, lastF, found, sending, next, wanted, lastR, line, reader)).take 5) (post := (ndW y a (on, role, wants, sndC, rcvC, nSent, nRcvd, lastF, found, sending, next, wanted, lastR, line, reader)).drop 6) ⟨hx, hb, hml, hown, hts⟩ (c_X0_rank l dC dI y (a.2.2.1 3) H.size (wanted 3) _ hf) (cwV 0 hts gX2_offered_X0_rank rfl rfl rfl (by decide +kernel) ⟨Nat.le_of_ble_eq_true rfl, Nat.le_of_ble_eq_true rfl⟩) hK hP hD (va_recv hK.1 hP (ci := 0) (q0 := 5) rfl rfl) hS hA rfl hl.1 rfl (Nat.le_of_ble_eq_true rfl) dX2_offered_23 ⟨Nat.zero_le _, Nat.zero_le _⟩ (fun r15 u16 H locs hf hP hD hS => ?_)
    obtain ⟨hf, e9⟩ := hf
    have e9 := e9.symm
    subst e9
    have hP : va_P (dC, dI) vwCl (ndW y a (on, role, wants, sndC, rcvC, nSent, nRcvd, lastF, found, sending, next, wanted, lastR, line, reader)) H := hP
    have hD : va_D A (ndW y a (on, role, wants, sndC, rcvC, nSent, nRcvd, lastF, found, sending, next, wanted, lastR, line, reader)) := hD
    refine lv_aload_n hx hb dX2_offered_26 rfl (lv_at hl 0 rfl) ?_
    refine va_get (D := (dC, dI)) (ci := 2) (v := .ref a.2.1) (C := RX2) (T := TX2) (N := 15) hx hb hts hinX2 hown hK.1 hP 0 rfl rfl 0 (by decide) w11 (fun _ h9 => h9) rfl dX2_offered_27 ?_
    refine lv_iload_n hx hb dX2_offered_30 rfl (lv_at hl 1 rfl) ?_
    refine ar_qld (j := 0) hx hb hK.1 hP 1 3 rfl rfl (clamp_lit 0 rfl) (vin_lit 0 4 rfl rfl) dX2_offered_31 ?_
    refine kVi (As := []) (rest := [.int r15]) (pre := (ndW y a (on, role, wants, sndC, rcvC, nSent, nRcvd, lastF, found, sending, next, wanted, lastR, line, reader)).take 2) (post := (ndW y a (on, role, wants, sndC, rcvC, nSent, nRcvd, lastF, found, sending, next, wanted, lastR, line, reader)).drop 3) ⟨hx, hb, hml, hown, hts⟩ (c_X0_rank l dC dI y (a.2.2.1 0) H.size (wanted 0) _ hf) (cwV 0 hts gX2_offered_X0_rank rfl rfl rfl (by decide +kernel) ⟨Nat.le_of_ble_eq_true rfl, Nat.le_of_ble_eq_true rfl⟩) hK hP hD (va_recv hK.1 hP (ci := 0) (q0 := 2) rfl rfl) hS hA rfl hl.1 rfl (Nat.le_of_ble_eq_true rfl) dX2_offered_32 ⟨Nat.zero_le _, Nat.zero_le _⟩ (fun r17 u18 H locs hf hP hD hS => ?_)
    obtain ⟨hf, e9⟩ := hf
    have e9 := e9.symm
    subst e9
    have hP : va_P (dC, dI) vwCl (ndW y a (on, role, wants, sndC, rcvC, nSent, nRcvd, lastF, found, sending, next, wanted, lastR, line, reader)) H := hP
    have hD : va_D A (ndW y a (on, role, wants, sndC, rcvC, nSent, nRcvd, lastF, found, sending, next, wanted, lastR, line, reader)) := hD
    refine lv_icmp_ge (tgt := 40) hx hb dX2_offered_35 (by decide) (fun c19 => ?_) (fun c19 => ?_)
    · replace hf := hf.1 c19
      exact j_X2_offered_40_0_3 C0 a K _ (on, role, wants, sndC, rcvC, nSent, nRcvd, lastF, found, sending, next, wanted, lastR, line, reader) H locs ls hP hD hS (lv_sub hl [0, 1, 2] rfl) hSS hf
    · replace hf := hf.2 c19
      exact j_X2_offered_38_3 C0 a K _ (on, role, wants, sndC, rcvC, nSent, nRcvd, lastF, found, sending, next, wanted, lastR, line, reader) H locs ls hP hD hS (lv_sub hl [0, 2] rfl) hSS hf
set_option maxHeartbeats 4000000 in
set_option maxRecDepth 100000 in
theorem j_X2_offered_40_0_2 {p : Program} {l : Launch} {e : Env} {s : State} {m : MethodId} {args : Array Value} {below : List Frame} {meth : Method} {c : Code} {dC : Nat → ClassId} {dI : Nat → Nat → Nat} {y : Nat → ClassId} {A : Nat → Prop} (C0 : Cx p s m args meth c cX2_offered 3 (some .int) wsX2_offered RX2 A dC dI y) (a : NodeA) (K : Int32 → Prop) (S0 : NodeS) : ∀ (S : NodeS) (H : Heap) (locs : List Loc) (ls : Array Slot), va_P (dC, dI) vwCl (ndW y a S) H → va_D A (ndW y a S) → va_S A s.heap H locs → lv_has ls 3 [(0, .ref a.1), (1, .int 0), (2, .int 2)] → S = S0 → wp_X2_offered_40_0_2 K S → W p l e ({ frames := 1, cells := 0, slots := 0, locals := 21 } : Room) s m args below meth c H locs 0 0 (MQ below (va_Qi (fun r u => K r ∧ u = S0) (BW dC dI A (fun u => ndW y a u)) A) args s 0 0 A) (F0 m 40 ls []) := by
  obtain ⟨hx, hb, hr, hml, hown, hts, hlocks, hA, hK⟩ := id C0
  intro S H locs ls hP hD hS hl hSS hf
  obtain ⟨on, role, wants, sndC, rcvC, nSent, nRcvd, lastF, found, sending, next, wanted, lastR, line, reader⟩ := S
  unfold wp_X2_offered_40_0_2 at hf
  refine lv_iinc (v := 3) (lv' := [(2, .int 3), (0, .ref a.1), (1, .int 0)]) hx hb dX2_offered_40 hl (k := 2) rfl (by decide) (by decide) rfl (fun ls hl => ?_)
  refine lv_goto (tgt := 4) hx hb dX2_offered_43 (by decide) ?_
  exact j_X2_offered_4_0_3 C0 a K _ (on, role, wants, sndC, rcvC, nSent, nRcvd, lastF, found, sending, next, wanted, lastR, line, reader) H locs ls hP hD hS (lv_sub hl [1, 2, 0] rfl) hSS hf
set_option maxHeartbeats 4000000 in
set_option maxRecDepth 100000 in
theorem j_X2_offered_4_2_4 {p : Program} {l : Launch} {e : Env} {s : State} {m : MethodId} {args : Array Value} {below : List Frame} {meth : Method} {c : Code} {dC : Nat → ClassId} {dI : Nat → Nat → Nat} {y : Nat → ClassId} {A : Nat → Prop} (C0 : Cx p s m args meth c cX2_offered 3 (some .int) wsX2_offered RX2 A dC dI y) (a : NodeA) (K : Int32 → Prop) (S0 : NodeS) : ∀ (S : NodeS) (H : Heap) (locs : List Loc) (ls : Array Slot), va_P (dC, dI) vwCl (ndW y a S) H → va_D A (ndW y a S) → va_S A s.heap H locs → lv_has ls 3 [(0, .ref a.1), (1, .int 2), (2, .int 4)] → S = S0 → wp_X2_offered_4_2_4 K S → W p l e ({ frames := 1, cells := 0, slots := 0, locals := 21 } : Room) s m args below meth c H locs 0 0 (MQ below (va_Qi (fun r u => K r ∧ u = S0) (BW dC dI A (fun u => ndW y a u)) A) args s 0 0 A) (F0 m 4 ls []) := by
  obtain ⟨hx, hb, hr, hml, hown, hts, hlocks, hA, hK⟩ := id C0
  have w11 := hts (.fieldLink RX2 11 "SharedWire$Node" "wanted" "[LSharedWire$Frame;") (List.mem_of_getElem? (i := 2) rfl)
  have w44 := hts (.fieldLink RX2 44 "SharedWire$Node" "wants" "I") (List.mem_of_getElem? (i := 1) rfl)
  have hinX2 : ∀ w ∈ wsX20, w ∈ wsX2_offered := fun w h => List.mem_cons_of_mem _ (List.mem_append_left _ (List.mem_append_right _ (h)))
  intro S H locs ls hP hD hS hl hSS hf
  obtain ⟨on, role, wants, sndC, rcvC, nSent, nRcvd, lastF, found, sending, next, wanted, lastR, line, reader⟩ := S
  unfold wp_X2_offered_4_2_4 at hf
  refine lv_iload_n hx hb dX2_offered_4 rfl (lv_at hl 2 rfl) ?_
  refine lv_aload_n hx hb dX2_offered_5 rfl (lv_at hl 0 rfl) ?_
  refine va_get (D := (dC, dI)) (ci := 2) (v := .int wants) (C := RX2) (T := TX2) (N := 15) hx hb hts hinX2 hown hK.1 hP 0 rfl rfl 6 (by decide) w44 (fun _ h9 => h9) rfl dX2_offered_6 ?_
  refine lv_icmp_ge (tgt := 46) hx hb dX2_offered_9 (by decide) (fun c28 => ?_) (fun c28 => ?_)
  · replace hf := hf.1 c28
    refine lv_iload_n hx hb dX2_offered_46 rfl (lv_at hl 1 rfl) ?_
    exact W.iret (v := 2) hx hb hr (fun t ht hW => ⟨⟨2, (on, role, wants, sndC, rcvC, nSent, nRcvd, lastF, found, sending, next, wanted, lastR, line, reader), rfl, ⟨hf, hSS⟩, by rw [ht]; exact hP, hD⟩, hS.F ht⟩) hS.2.2 dX2_offered_47
  · replace hf := hf.2 c28
    refine lv_iload_n hx hb dX2_offered_12 rfl (lv_at hl 1 rfl) ?_
    refine lv_iconst (v := (-1)) hx hb dX2_offered_13 (by decide) ?_
    refine lv_icmp_eq (tgt := 38) hx hb dX2_offered_14 (by decide) (fun c9 => absurd c9 (by decide)) (fun _ => ?_)
    refine lv_aload_n hx hb dX2_offered_17 rfl (lv_at hl 0 rfl) ?_
    refine va_get (D := (dC, dI)) (ci := 2) (v := .ref a.2.1) (C := RX2) (T := TX2) (N := 15) hx hb hts hinX2 hown hK.1 hP 0 rfl rfl 0 (by decide) w11 (fun _ h9 => h9) rfl dX2_offered_18 ?_
    refine lv_iload_n hx hb dX2_offered_21 rfl (lv_at hl 2 rfl) ?_
    exact hf.elim
set_option maxHeartbeats 4000000 in
set_option maxRecDepth 100000 in
theorem j_X2_offered_40_2_3 {p : Program} {l : Launch} {e : Env} {s : State} {m : MethodId} {args : Array Value} {below : List Frame} {meth : Method} {c : Code} {dC : Nat → ClassId} {dI : Nat → Nat → Nat} {y : Nat → ClassId} {A : Nat → Prop} (C0 : Cx p s m args meth c cX2_offered 3 (some .int) wsX2_offered RX2 A dC dI y) (a : NodeA) (K : Int32 → Prop) (S0 : NodeS) : ∀ (S : NodeS) (H : Heap) (locs : List Loc) (ls : Array Slot), va_P (dC, dI) vwCl (ndW y a S) H → va_D A (ndW y a S) → va_S A s.heap H locs → lv_has ls 3 [(0, .ref a.1), (1, .int 2), (2, .int 3)] → S = S0 → wp_X2_offered_40_2_3 K S → W p l e ({ frames := 1, cells := 0, slots := 0, locals := 21 } : Room) s m args below meth c H locs 0 0 (MQ below (va_Qi (fun r u => K r ∧ u = S0) (BW dC dI A (fun u => ndW y a u)) A) args s 0 0 A) (F0 m 40 ls []) := by
  obtain ⟨hx, hb, hr, hml, hown, hts, hlocks, hA, hK⟩ := id C0
  intro S H locs ls hP hD hS hl hSS hf
  obtain ⟨on, role, wants, sndC, rcvC, nSent, nRcvd, lastF, found, sending, next, wanted, lastR, line, reader⟩ := S
  unfold wp_X2_offered_40_2_3 at hf
  refine lv_iinc (v := 4) (lv' := [(2, .int 4), (0, .ref a.1), (1, .int 2)]) hx hb dX2_offered_40 hl (k := 2) rfl (by decide) (by decide) rfl (fun ls hl => ?_)
  refine lv_goto (tgt := 4) hx hb dX2_offered_43 (by decide) ?_
  exact j_X2_offered_4_2_4 C0 a K _ (on, role, wants, sndC, rcvC, nSent, nRcvd, lastF, found, sending, next, wanted, lastR, line, reader) H locs ls hP hD hS (lv_sub hl [1, 2, 0] rfl) hSS hf
set_option maxHeartbeats 4000000 in
set_option maxRecDepth 100000 in
theorem j_X2_offered_4_2_3 {p : Program} {l : Launch} {e : Env} {s : State} {m : MethodId} {args : Array Value} {below : List Frame} {meth : Method} {c : Code} {dC : Nat → ClassId} {dI : Nat → Nat → Nat} {y : Nat → ClassId} {A : Nat → Prop} (C0 : Cx p s m args meth c cX2_offered 3 (some .int) wsX2_offered RX2 A dC dI y) (a : NodeA) (K : Int32 → Prop) (S0 : NodeS) : ∀ (S : NodeS) (H : Heap) (locs : List Loc) (ls : Array Slot), va_P (dC, dI) vwCl (ndW y a S) H → va_D A (ndW y a S) → va_S A s.heap H locs → lv_has ls 3 [(0, .ref a.1), (1, .int 2), (2, .int 3)] → S = S0 → wp_X2_offered_4_2_3 K S → W p l e ({ frames := 1, cells := 0, slots := 0, locals := 21 } : Room) s m args below meth c H locs 0 0 (MQ below (va_Qi (fun r u => K r ∧ u = S0) (BW dC dI A (fun u => ndW y a u)) A) args s 0 0 A) (F0 m 4 ls []) := by
  obtain ⟨hx, hb, hr, hml, hown, hts, hlocks, hA, hK⟩ := id C0
  have w11 := hts (.fieldLink RX2 11 "SharedWire$Node" "wanted" "[LSharedWire$Frame;") (List.mem_of_getElem? (i := 2) rfl)
  have w44 := hts (.fieldLink RX2 44 "SharedWire$Node" "wants" "I") (List.mem_of_getElem? (i := 1) rfl)
  have hinX2 : ∀ w ∈ wsX20, w ∈ wsX2_offered := fun w h => List.mem_cons_of_mem _ (List.mem_append_left _ (List.mem_append_right _ (h)))
  intro S H locs ls hP hD hS hl hSS hf
  obtain ⟨on, role, wants, sndC, rcvC, nSent, nRcvd, lastF, found, sending, next, wanted, lastR, line, reader⟩ := S
  unfold wp_X2_offered_4_2_3 at hf
  refine lv_iload_n hx hb dX2_offered_4 rfl (lv_at hl 2 rfl) ?_
  refine lv_aload_n hx hb dX2_offered_5 rfl (lv_at hl 0 rfl) ?_
  refine va_get (D := (dC, dI)) (ci := 2) (v := .int wants) (C := RX2) (T := TX2) (N := 15) hx hb hts hinX2 hown hK.1 hP 0 rfl rfl 6 (by decide) w44 (fun _ h9 => h9) rfl dX2_offered_6 ?_
  refine lv_icmp_ge (tgt := 46) hx hb dX2_offered_9 (by decide) (fun c22 => ?_) (fun c22 => ?_)
  · replace hf := hf.1 c22
    refine lv_iload_n hx hb dX2_offered_46 rfl (lv_at hl 1 rfl) ?_
    exact W.iret (v := 2) hx hb hr (fun t ht hW => ⟨⟨2, (on, role, wants, sndC, rcvC, nSent, nRcvd, lastF, found, sending, next, wanted, lastR, line, reader), rfl, ⟨hf, hSS⟩, by rw [ht]; exact hP, hD⟩, hS.F ht⟩) hS.2.2 dX2_offered_47
  · replace hf := hf.2 c22
    refine lv_iload_n hx hb dX2_offered_12 rfl (lv_at hl 1 rfl) ?_
    refine lv_iconst (v := (-1)) hx hb dX2_offered_13 (by decide) ?_
    refine lv_icmp_eq (tgt := 38) hx hb dX2_offered_14 (by decide) (fun c9 => absurd c9 (by decide)) (fun _ => ?_)
    refine lv_aload_n hx hb dX2_offered_17 rfl (lv_at hl 0 rfl) ?_
    refine va_get (D := (dC, dI)) (ci := 2) (v := .ref a.2.1) (C := RX2) (T := TX2) (N := 15) hx hb hts hinX2 hown hK.1 hP 0 rfl rfl 0 (by decide) w11 (fun _ h9 => h9) rfl dX2_offered_18 ?_
    refine lv_iload_n hx hb dX2_offered_21 rfl (lv_at hl 2 rfl) ?_
    refine ar_qld (j := 3) hx hb hK.1 hP 1 3 rfl rfl (clamp_lit 3 rfl) (vin_lit 3 4 rfl rfl) dX2_offered_22 ?_
    refine kVi (As := []) (rest := []) (pre := (ndW y a (on, role, wants, sndC, rcvC, nSent, nRcvd, lastF, found, sending, next, wanted, lastR, line, reader)).take 5) (post := (ndW y a (on, role, wants, sndC, rcvC, nSent, nRcvd, lastF, found, sending, next, wanted, lastR, line, reader)).drop 6) ⟨hx, hb, hml, hown, hts⟩ (c_X0_rank l dC dI y (a.2.2.1 3) H.size (wanted 3) _ hf) (cwV 0 hts gX2_offered_X0_rank rfl rfl rfl (by decide +kernel) ⟨Nat.le_of_ble_eq_true rfl, Nat.le_of_ble_eq_true rfl⟩) hK hP hD (va_recv hK.1 hP (ci := 0) (q0 := 5) rfl rfl) hS hA rfl hl.1 rfl (Nat.le_of_ble_eq_true rfl) dX2_offered_23 ⟨Nat.zero_le _, Nat.zero_le _⟩ (fun r23 u24 H locs hf hP hD hS => ?_)
    obtain ⟨hf, e9⟩ := hf
    have e9 := e9.symm
    subst e9
    have hP : va_P (dC, dI) vwCl (ndW y a (on, role, wants, sndC, rcvC, nSent, nRcvd, lastF, found, sending, next, wanted, lastR, line, reader)) H := hP
    have hD : va_D A (ndW y a (on, role, wants, sndC, rcvC, nSent, nRcvd, lastF, found, sending, next, wanted, lastR, line, reader)) := hD
    refine lv_aload_n hx hb dX2_offered_26 rfl (lv_at hl 0 rfl) ?_
    refine va_get (D := (dC, dI)) (ci := 2) (v := .ref a.2.1) (C := RX2) (T := TX2) (N := 15) hx hb hts hinX2 hown hK.1 hP 0 rfl rfl 0 (by decide) w11 (fun _ h9 => h9) rfl dX2_offered_27 ?_
    refine lv_iload_n hx hb dX2_offered_30 rfl (lv_at hl 1 rfl) ?_
    refine ar_qld (j := 2) hx hb hK.1 hP 1 3 rfl rfl (clamp_lit 2 rfl) (vin_lit 2 4 rfl rfl) dX2_offered_31 ?_
    refine kVi (As := []) (rest := [.int r23]) (pre := (ndW y a (on, role, wants, sndC, rcvC, nSent, nRcvd, lastF, found, sending, next, wanted, lastR, line, reader)).take 4) (post := (ndW y a (on, role, wants, sndC, rcvC, nSent, nRcvd, lastF, found, sending, next, wanted, lastR, line, reader)).drop 5) ⟨hx, hb, hml, hown, hts⟩ (c_X0_rank l dC dI y (a.2.2.1 2) H.size (wanted 2) _ hf) (cwV 0 hts gX2_offered_X0_rank rfl rfl rfl (by decide +kernel) ⟨Nat.le_of_ble_eq_true rfl, Nat.le_of_ble_eq_true rfl⟩) hK hP hD (va_recv hK.1 hP (ci := 0) (q0 := 4) rfl rfl) hS hA rfl hl.1 rfl (Nat.le_of_ble_eq_true rfl) dX2_offered_32 ⟨Nat.zero_le _, Nat.zero_le _⟩ (fun r25 u26 H locs hf hP hD hS => ?_)
    obtain ⟨hf, e9⟩ := hf
    have e9 := e9.symm
    subst e9
    have hP : va_P (dC, dI) vwCl (ndW y a (on, role, wants, sndC, rcvC, nSent, nRcvd, lastF, found, sending, next, wanted, lastR, line, reader)) H := hP
    have hD : va_D A (ndW y a (on, role, wants, sndC, rcvC, nSent, nRcvd, lastF, found, sending, next, wanted, lastR, line, reader)) := hD
    refine lv_icmp_ge (tgt := 40) hx hb dX2_offered_35 (by decide) (fun c27 => ?_) (fun c27 => ?_)
    · replace hf := hf.1 c27
      exact j_X2_offered_40_2_3 C0 a K _ (on, role, wants, sndC, rcvC, nSent, nRcvd, lastF, found, sending, next, wanted, lastR, line, reader) H locs ls hP hD hS (lv_sub hl [0, 1, 2] rfl) hSS hf
    · replace hf := hf.2 c27
      exact j_X2_offered_38_3 C0 a K _ (on, role, wants, sndC, rcvC, nSent, nRcvd, lastF, found, sending, next, wanted, lastR, line, reader) H locs ls hP hD hS (lv_sub hl [0, 2] rfl) hSS hf
set_option maxHeartbeats 4000000 in
set_option maxRecDepth 100000 in
theorem j_X2_offered_40_2_2 {p : Program} {l : Launch} {e : Env} {s : State} {m : MethodId} {args : Array Value} {below : List Frame} {meth : Method} {c : Code} {dC : Nat → ClassId} {dI : Nat → Nat → Nat} {y : Nat → ClassId} {A : Nat → Prop} (C0 : Cx p s m args meth c cX2_offered 3 (some .int) wsX2_offered RX2 A dC dI y) (a : NodeA) (K : Int32 → Prop) (S0 : NodeS) : ∀ (S : NodeS) (H : Heap) (locs : List Loc) (ls : Array Slot), va_P (dC, dI) vwCl (ndW y a S) H → va_D A (ndW y a S) → va_S A s.heap H locs → lv_has ls 3 [(0, .ref a.1), (1, .int 2), (2, .int 2)] → S = S0 → wp_X2_offered_40_2_2 K S → W p l e ({ frames := 1, cells := 0, slots := 0, locals := 21 } : Room) s m args below meth c H locs 0 0 (MQ below (va_Qi (fun r u => K r ∧ u = S0) (BW dC dI A (fun u => ndW y a u)) A) args s 0 0 A) (F0 m 40 ls []) := by
  obtain ⟨hx, hb, hr, hml, hown, hts, hlocks, hA, hK⟩ := id C0
  intro S H locs ls hP hD hS hl hSS hf
  obtain ⟨on, role, wants, sndC, rcvC, nSent, nRcvd, lastF, found, sending, next, wanted, lastR, line, reader⟩ := S
  unfold wp_X2_offered_40_2_2 at hf
  refine lv_iinc (v := 3) (lv' := [(2, .int 3), (0, .ref a.1), (1, .int 2)]) hx hb dX2_offered_40 hl (k := 2) rfl (by decide) (by decide) rfl (fun ls hl => ?_)
  refine lv_goto (tgt := 4) hx hb dX2_offered_43 (by decide) ?_
  exact j_X2_offered_4_2_3 C0 a K _ (on, role, wants, sndC, rcvC, nSent, nRcvd, lastF, found, sending, next, wanted, lastR, line, reader) H locs ls hP hD hS (lv_sub hl [1, 2, 0] rfl) hSS hf
set_option maxHeartbeats 4000000 in
set_option maxRecDepth 100000 in
theorem j_X2_offered_38_2 {p : Program} {l : Launch} {e : Env} {s : State} {m : MethodId} {args : Array Value} {below : List Frame} {meth : Method} {c : Code} {dC : Nat → ClassId} {dI : Nat → Nat → Nat} {y : Nat → ClassId} {A : Nat → Prop} (C0 : Cx p s m args meth c cX2_offered 3 (some .int) wsX2_offered RX2 A dC dI y) (a : NodeA) (K : Int32 → Prop) (S0 : NodeS) : ∀ (S : NodeS) (H : Heap) (locs : List Loc) (ls : Array Slot), va_P (dC, dI) vwCl (ndW y a S) H → va_D A (ndW y a S) → va_S A s.heap H locs → lv_has ls 3 [(0, .ref a.1), (2, .int 2)] → S = S0 → wp_X2_offered_38_2 K S → W p l e ({ frames := 1, cells := 0, slots := 0, locals := 21 } : Room) s m args below meth c H locs 0 0 (MQ below (va_Qi (fun r u => K r ∧ u = S0) (BW dC dI A (fun u => ndW y a u)) A) args s 0 0 A) (F0 m 38 ls []) := by
  obtain ⟨hx, hb, hr, hml, hown, hts, hlocks, hA, hK⟩ := id C0
  intro S H locs ls hP hD hS hl hSS hf
  obtain ⟨on, role, wants, sndC, rcvC, nSent, nRcvd, lastF, found, sending, next, wanted, lastR, line, reader⟩ := S
  unfold wp_X2_offered_38_2 at hf
  refine lv_iload_n hx hb dX2_offered_38 rfl (lv_at hl 1 rfl) ?_
  refine lv_istore_n (lv' := [(1, .int 2), (0, .ref a.1), (2, .int 2)]) hx hb dX2_offered_39 rfl hl (by decide) rfl (fun ls hl => ?_)
  exact j_X2_offered_40_2_2 C0 a K _ (on, role, wants, sndC, rcvC, nSent, nRcvd, lastF, found, sending, next, wanted, lastR, line, reader) H locs ls hP hD hS (lv_sub hl [1, 0, 2] rfl) hSS hf
set_option maxHeartbeats 4000000 in
set_option maxRecDepth 100000 in
theorem j_X2_offered_4_0_2 {p : Program} {l : Launch} {e : Env} {s : State} {m : MethodId} {args : Array Value} {below : List Frame} {meth : Method} {c : Code} {dC : Nat → ClassId} {dI : Nat → Nat → Nat} {y : Nat → ClassId} {A : Nat → Prop} (C0 : Cx p s m args meth c cX2_offered 3 (some .int) wsX2_offered RX2 A dC dI y) (a : NodeA) (K : Int32 → Prop) (S0 : NodeS) : ∀ (S : NodeS) (H : Heap) (locs : List Loc) (ls : Array Slot), va_P (dC, dI) vwCl (ndW y a S) H → va_D A (ndW y a S) → va_S A s.heap H locs → lv_has ls 3 [(0, .ref a.1), (1, .int 0), (2, .int 2)] → S = S0 → wp_X2_offered_4_0_2 K S → W p l e ({ frames := 1, cells := 0, slots := 0, locals := 21 } : Room) s m args below meth c H locs 0 0 (MQ below (va_Qi (fun r u => K r ∧ u = S0) (BW dC dI A (fun u => ndW y a u)) A) args s 0 0 A) (F0 m 4 ls []) := by
  obtain ⟨hx, hb, hr, hml, hown, hts, hlocks, hA, hK⟩ := id C0
  have w11 := hts (.fieldLink RX2 11 "SharedWire$Node" "wanted" "[LSharedWire$Frame;") (List.mem_of_getElem? (i := 2) rfl)
  have w44 := hts (.fieldLink RX2 44 "SharedWire$Node" "wants" "I") (List.mem_of_getElem? (i := 1) rfl)
  have hinX2 : ∀ w ∈ wsX20, w ∈ wsX2_offered := fun w h => List.mem_cons_of_mem _ (List.mem_append_left _ (List.mem_append_right _ (h)))
  intro S H locs ls hP hD hS hl hSS hf
  obtain ⟨on, role, wants, sndC, rcvC, nSent, nRcvd, lastF, found, sending, next, wanted, lastR, line, reader⟩ := S
  unfold wp_X2_offered_4_0_2 at hf
  refine lv_iload_n hx hb dX2_offered_4 rfl (lv_at hl 2 rfl) ?_
  refine lv_aload_n hx hb dX2_offered_5 rfl (lv_at hl 0 rfl) ?_
  refine va_get (D := (dC, dI)) (ci := 2) (v := .int wants) (C := RX2) (T := TX2) (N := 15) hx hb hts hinX2 hown hK.1 hP 0 rfl rfl 6 (by decide) w44 (fun _ h9 => h9) rfl dX2_offered_6 ?_
  refine lv_icmp_ge (tgt := 46) hx hb dX2_offered_9 (by decide) (fun c8 => ?_) (fun c8 => ?_)
  · replace hf := hf.1 c8
    refine lv_iload_n hx hb dX2_offered_46 rfl (lv_at hl 1 rfl) ?_
    exact W.iret (v := 0) hx hb hr (fun t ht hW => ⟨⟨0, (on, role, wants, sndC, rcvC, nSent, nRcvd, lastF, found, sending, next, wanted, lastR, line, reader), rfl, ⟨hf, hSS⟩, by rw [ht]; exact hP, hD⟩, hS.F ht⟩) hS.2.2 dX2_offered_47
  · replace hf := hf.2 c8
    refine lv_iload_n hx hb dX2_offered_12 rfl (lv_at hl 1 rfl) ?_
    refine lv_iconst (v := (-1)) hx hb dX2_offered_13 (by decide) ?_
    refine lv_icmp_eq (tgt := 38) hx hb dX2_offered_14 (by decide) (fun c9 => absurd c9 (by decide)) (fun _ => ?_)
    refine lv_aload_n hx hb dX2_offered_17 rfl (lv_at hl 0 rfl) ?_
    refine va_get (D := (dC, dI)) (ci := 2) (v := .ref a.2.1) (C := RX2) (T := TX2) (N := 15) hx hb hts hinX2 hown hK.1 hP 0 rfl rfl 0 (by decide) w11 (fun _ h9 => h9) rfl dX2_offered_18 ?_
    refine lv_iload_n hx hb dX2_offered_21 rfl (lv_at hl 2 rfl) ?_
    refine ar_qld (j := 2) hx hb hK.1 hP 1 3 rfl rfl (clamp_lit 2 rfl) (vin_lit 2 4 rfl rfl) dX2_offered_22 ?_
    refine kVi (As := []) (rest := []) (pre := (ndW y a (on, role, wants, sndC, rcvC, nSent, nRcvd, lastF, found, sending, next, wanted, lastR, line, reader)).take 4) (post := (ndW y a (on, role, wants, sndC, rcvC, nSent, nRcvd, lastF, found, sending, next, wanted, lastR, line, reader)).drop 5) ⟨hx, hb, hml, hown, hts⟩ (c_X0_rank l dC dI y (a.2.2.1 2) H.size (wanted 2) _ hf) (cwV 0 hts gX2_offered_X0_rank rfl rfl rfl (by decide +kernel) ⟨Nat.le_of_ble_eq_true rfl, Nat.le_of_ble_eq_true rfl⟩) hK hP hD (va_recv hK.1 hP (ci := 0) (q0 := 4) rfl rfl) hS hA rfl hl.1 rfl (Nat.le_of_ble_eq_true rfl) dX2_offered_23 ⟨Nat.zero_le _, Nat.zero_le _⟩ (fun r9 u10 H locs hf hP hD hS => ?_)
    obtain ⟨hf, e9⟩ := hf
    have e9 := e9.symm
    subst e9
    have hP : va_P (dC, dI) vwCl (ndW y a (on, role, wants, sndC, rcvC, nSent, nRcvd, lastF, found, sending, next, wanted, lastR, line, reader)) H := hP
    have hD : va_D A (ndW y a (on, role, wants, sndC, rcvC, nSent, nRcvd, lastF, found, sending, next, wanted, lastR, line, reader)) := hD
    refine lv_aload_n hx hb dX2_offered_26 rfl (lv_at hl 0 rfl) ?_
    refine va_get (D := (dC, dI)) (ci := 2) (v := .ref a.2.1) (C := RX2) (T := TX2) (N := 15) hx hb hts hinX2 hown hK.1 hP 0 rfl rfl 0 (by decide) w11 (fun _ h9 => h9) rfl dX2_offered_27 ?_
    refine lv_iload_n hx hb dX2_offered_30 rfl (lv_at hl 1 rfl) ?_
    refine ar_qld (j := 0) hx hb hK.1 hP 1 3 rfl rfl (clamp_lit 0 rfl) (vin_lit 0 4 rfl rfl) dX2_offered_31 ?_
    refine kVi (As := []) (rest := [.int r9]) (pre := (ndW y a (on, role, wants, sndC, rcvC, nSent, nRcvd, lastF, found, sending, next, wanted, lastR, line, reader)).take 2) (post := (ndW y a (on, role, wants, sndC, rcvC, nSent, nRcvd, lastF, found, sending, next, wanted, lastR, line, reader)).drop 3) ⟨hx, hb, hml, hown, hts⟩ (c_X0_rank l dC dI y (a.2.2.1 0) H.size (wanted 0) _ hf) (cwV 0 hts gX2_offered_X0_rank rfl rfl rfl (by decide +kernel) ⟨Nat.le_of_ble_eq_true rfl, Nat.le_of_ble_eq_true rfl⟩) hK hP hD (va_recv hK.1 hP (ci := 0) (q0 := 2) rfl rfl) hS hA rfl hl.1 rfl (Nat.le_of_ble_eq_true rfl) dX2_offered_32 ⟨Nat.zero_le _, Nat.zero_le _⟩ (fun r11 u12 H locs hf hP hD hS => ?_)
    obtain ⟨hf, e9⟩ := hf
    have e9 := e9.symm
    subst e9
    have hP : va_P (dC, dI) vwCl (ndW y a (on, role, wants, sndC, rcvC, nSent, nRcvd, lastF, found, sending, next, wanted, lastR, line, reader)) H := hP
    have hD : va_D A (ndW y a (on, role, wants, sndC, rcvC, nSent, nRcvd, lastF, found, sending, next, wanted, lastR, line, reader)) := hD
    refine lv_icmp_ge (tgt := 40) hx hb dX2_offered_35 (by decide) (fun c13 => ?_) (fun c13 => ?_)
    · replace hf := hf.1 c13
      exact j_X2_offered_40_0_2 C0 a K _ (on, role, wants, sndC, rcvC, nSent, nRcvd, lastF, found, sending, next, wanted, lastR, line, reader) H locs ls hP hD hS (lv_sub hl [0, 1, 2] rfl) hSS hf
    · replace hf := hf.2 c13
      exact j_X2_offered_38_2 C0 a K _ (on, role, wants, sndC, rcvC, nSent, nRcvd, lastF, found, sending, next, wanted, lastR, line, reader) H locs ls hP hD hS (lv_sub hl [0, 2] rfl) hSS hf
set_option maxHeartbeats 4000000 in
set_option maxRecDepth 100000 in
theorem j_X2_offered_40_0_1 {p : Program} {l : Launch} {e : Env} {s : State} {m : MethodId} {args : Array Value} {below : List Frame} {meth : Method} {c : Code} {dC : Nat → ClassId} {dI : Nat → Nat → Nat} {y : Nat → ClassId} {A : Nat → Prop} (C0 : Cx p s m args meth c cX2_offered 3 (some .int) wsX2_offered RX2 A dC dI y) (a : NodeA) (K : Int32 → Prop) (S0 : NodeS) : ∀ (S : NodeS) (H : Heap) (locs : List Loc) (ls : Array Slot), va_P (dC, dI) vwCl (ndW y a S) H → va_D A (ndW y a S) → va_S A s.heap H locs → lv_has ls 3 [(0, .ref a.1), (1, .int 0), (2, .int 1)] → S = S0 → wp_X2_offered_40_0_1 K S → W p l e ({ frames := 1, cells := 0, slots := 0, locals := 21 } : Room) s m args below meth c H locs 0 0 (MQ below (va_Qi (fun r u => K r ∧ u = S0) (BW dC dI A (fun u => ndW y a u)) A) args s 0 0 A) (F0 m 40 ls []) := by
  obtain ⟨hx, hb, hr, hml, hown, hts, hlocks, hA, hK⟩ := id C0
  intro S H locs ls hP hD hS hl hSS hf
  obtain ⟨on, role, wants, sndC, rcvC, nSent, nRcvd, lastF, found, sending, next, wanted, lastR, line, reader⟩ := S
  unfold wp_X2_offered_40_0_1 at hf
  refine lv_iinc (v := 2) (lv' := [(2, .int 2), (0, .ref a.1), (1, .int 0)]) hx hb dX2_offered_40 hl (k := 2) rfl (by decide) (by decide) rfl (fun ls hl => ?_)
  refine lv_goto (tgt := 4) hx hb dX2_offered_43 (by decide) ?_
  exact j_X2_offered_4_0_2 C0 a K _ (on, role, wants, sndC, rcvC, nSent, nRcvd, lastF, found, sending, next, wanted, lastR, line, reader) H locs ls hP hD hS (lv_sub hl [1, 2, 0] rfl) hSS hf
set_option maxHeartbeats 4000000 in
set_option maxRecDepth 100000 in
theorem j_X2_offered_4_1_4 {p : Program} {l : Launch} {e : Env} {s : State} {m : MethodId} {args : Array Value} {below : List Frame} {meth : Method} {c : Code} {dC : Nat → ClassId} {dI : Nat → Nat → Nat} {y : Nat → ClassId} {A : Nat → Prop} (C0 : Cx p s m args meth c cX2_offered 3 (some .int) wsX2_offered RX2 A dC dI y) (a : NodeA) (K : Int32 → Prop) (S0 : NodeS) : ∀ (S : NodeS) (H : Heap) (locs : List Loc) (ls : Array Slot), va_P (dC, dI) vwCl (ndW y a S) H → va_D A (ndW y a S) → va_S A s.heap H locs → lv_has ls 3 [(0, .ref a.1), (1, .int 1), (2, .int 4)] → S = S0 → wp_X2_offered_4_1_4 K S → W p l e ({ frames := 1, cells := 0, slots := 0, locals := 21 } : Room) s m args below meth c H locs 0 0 (MQ below (va_Qi (fun r u => K r ∧ u = S0) (BW dC dI A (fun u => ndW y a u)) A) args s 0 0 A) (F0 m 4 ls []) := by
  obtain ⟨hx, hb, hr, hml, hown, hts, hlocks, hA, hK⟩ := id C0
  have w11 := hts (.fieldLink RX2 11 "SharedWire$Node" "wanted" "[LSharedWire$Frame;") (List.mem_of_getElem? (i := 2) rfl)
  have w44 := hts (.fieldLink RX2 44 "SharedWire$Node" "wants" "I") (List.mem_of_getElem? (i := 1) rfl)
  have hinX2 : ∀ w ∈ wsX20, w ∈ wsX2_offered := fun w h => List.mem_cons_of_mem _ (List.mem_append_left _ (List.mem_append_right _ (h)))
  intro S H locs ls hP hD hS hl hSS hf
  obtain ⟨on, role, wants, sndC, rcvC, nSent, nRcvd, lastF, found, sending, next, wanted, lastR, line, reader⟩ := S
  unfold wp_X2_offered_4_1_4 at hf
  refine lv_iload_n hx hb dX2_offered_4 rfl (lv_at hl 2 rfl) ?_
  refine lv_aload_n hx hb dX2_offered_5 rfl (lv_at hl 0 rfl) ?_
  refine va_get (D := (dC, dI)) (ci := 2) (v := .int wants) (C := RX2) (T := TX2) (N := 15) hx hb hts hinX2 hown hK.1 hP 0 rfl rfl 6 (by decide) w44 (fun _ h9 => h9) rfl dX2_offered_6 ?_
  refine lv_icmp_ge (tgt := 46) hx hb dX2_offered_9 (by decide) (fun c41 => ?_) (fun c41 => ?_)
  · replace hf := hf.1 c41
    refine lv_iload_n hx hb dX2_offered_46 rfl (lv_at hl 1 rfl) ?_
    exact W.iret (v := 1) hx hb hr (fun t ht hW => ⟨⟨1, (on, role, wants, sndC, rcvC, nSent, nRcvd, lastF, found, sending, next, wanted, lastR, line, reader), rfl, ⟨hf, hSS⟩, by rw [ht]; exact hP, hD⟩, hS.F ht⟩) hS.2.2 dX2_offered_47
  · replace hf := hf.2 c41
    refine lv_iload_n hx hb dX2_offered_12 rfl (lv_at hl 1 rfl) ?_
    refine lv_iconst (v := (-1)) hx hb dX2_offered_13 (by decide) ?_
    refine lv_icmp_eq (tgt := 38) hx hb dX2_offered_14 (by decide) (fun c9 => absurd c9 (by decide)) (fun _ => ?_)
    refine lv_aload_n hx hb dX2_offered_17 rfl (lv_at hl 0 rfl) ?_
    refine va_get (D := (dC, dI)) (ci := 2) (v := .ref a.2.1) (C := RX2) (T := TX2) (N := 15) hx hb hts hinX2 hown hK.1 hP 0 rfl rfl 0 (by decide) w11 (fun _ h9 => h9) rfl dX2_offered_18 ?_
    refine lv_iload_n hx hb dX2_offered_21 rfl (lv_at hl 2 rfl) ?_
    exact hf.elim
set_option maxHeartbeats 4000000 in
set_option maxRecDepth 100000 in
theorem j_X2_offered_40_1_3 {p : Program} {l : Launch} {e : Env} {s : State} {m : MethodId} {args : Array Value} {below : List Frame} {meth : Method} {c : Code} {dC : Nat → ClassId} {dI : Nat → Nat → Nat} {y : Nat → ClassId} {A : Nat → Prop} (C0 : Cx p s m args meth c cX2_offered 3 (some .int) wsX2_offered RX2 A dC dI y) (a : NodeA) (K : Int32 → Prop) (S0 : NodeS) : ∀ (S : NodeS) (H : Heap) (locs : List Loc) (ls : Array Slot), va_P (dC, dI) vwCl (ndW y a S) H → va_D A (ndW y a S) → va_S A s.heap H locs → lv_has ls 3 [(0, .ref a.1), (1, .int 1), (2, .int 3)] → S = S0 → wp_X2_offered_40_1_3 K S → W p l e ({ frames := 1, cells := 0, slots := 0, locals := 21 } : Room) s m args below meth c H locs 0 0 (MQ below (va_Qi (fun r u => K r ∧ u = S0) (BW dC dI A (fun u => ndW y a u)) A) args s 0 0 A) (F0 m 40 ls []) := by
  obtain ⟨hx, hb, hr, hml, hown, hts, hlocks, hA, hK⟩ := id C0
  intro S H locs ls hP hD hS hl hSS hf
  obtain ⟨on, role, wants, sndC, rcvC, nSent, nRcvd, lastF, found, sending, next, wanted, lastR, line, reader⟩ := S
  unfold wp_X2_offered_40_1_3 at hf
  refine lv_iinc (v := 4) (lv' := [(2, .int 4), (0, .ref a.1), (1, .int 1)]) hx hb dX2_offered_40 hl (k := 2) rfl (by decide) (by decide) rfl (fun ls hl => ?_)
  refine lv_goto (tgt := 4) hx hb dX2_offered_43 (by decide) ?_
  exact j_X2_offered_4_1_4 C0 a K _ (on, role, wants, sndC, rcvC, nSent, nRcvd, lastF, found, sending, next, wanted, lastR, line, reader) H locs ls hP hD hS (lv_sub hl [1, 2, 0] rfl) hSS hf
set_option maxHeartbeats 4000000 in
set_option maxRecDepth 100000 in
theorem j_X2_offered_4_1_3 {p : Program} {l : Launch} {e : Env} {s : State} {m : MethodId} {args : Array Value} {below : List Frame} {meth : Method} {c : Code} {dC : Nat → ClassId} {dI : Nat → Nat → Nat} {y : Nat → ClassId} {A : Nat → Prop} (C0 : Cx p s m args meth c cX2_offered 3 (some .int) wsX2_offered RX2 A dC dI y) (a : NodeA) (K : Int32 → Prop) (S0 : NodeS) : ∀ (S : NodeS) (H : Heap) (locs : List Loc) (ls : Array Slot), va_P (dC, dI) vwCl (ndW y a S) H → va_D A (ndW y a S) → va_S A s.heap H locs → lv_has ls 3 [(0, .ref a.1), (1, .int 1), (2, .int 3)] → S = S0 → wp_X2_offered_4_1_3 K S → W p l e ({ frames := 1, cells := 0, slots := 0, locals := 21 } : Room) s m args below meth c H locs 0 0 (MQ below (va_Qi (fun r u => K r ∧ u = S0) (BW dC dI A (fun u => ndW y a u)) A) args s 0 0 A) (F0 m 4 ls []) := by
  obtain ⟨hx, hb, hr, hml, hown, hts, hlocks, hA, hK⟩ := id C0
  have w11 := hts (.fieldLink RX2 11 "SharedWire$Node" "wanted" "[LSharedWire$Frame;") (List.mem_of_getElem? (i := 2) rfl)
  have w44 := hts (.fieldLink RX2 44 "SharedWire$Node" "wants" "I") (List.mem_of_getElem? (i := 1) rfl)
  have hinX2 : ∀ w ∈ wsX20, w ∈ wsX2_offered := fun w h => List.mem_cons_of_mem _ (List.mem_append_left _ (List.mem_append_right _ (h)))
  intro S H locs ls hP hD hS hl hSS hf
  obtain ⟨on, role, wants, sndC, rcvC, nSent, nRcvd, lastF, found, sending, next, wanted, lastR, line, reader⟩ := S
  unfold wp_X2_offered_4_1_3 at hf
  refine lv_iload_n hx hb dX2_offered_4 rfl (lv_at hl 2 rfl) ?_
  refine lv_aload_n hx hb dX2_offered_5 rfl (lv_at hl 0 rfl) ?_
  refine va_get (D := (dC, dI)) (ci := 2) (v := .int wants) (C := RX2) (T := TX2) (N := 15) hx hb hts hinX2 hown hK.1 hP 0 rfl rfl 6 (by decide) w44 (fun _ h9 => h9) rfl dX2_offered_6 ?_
  refine lv_icmp_ge (tgt := 46) hx hb dX2_offered_9 (by decide) (fun c35 => ?_) (fun c35 => ?_)
  · replace hf := hf.1 c35
    refine lv_iload_n hx hb dX2_offered_46 rfl (lv_at hl 1 rfl) ?_
    exact W.iret (v := 1) hx hb hr (fun t ht hW => ⟨⟨1, (on, role, wants, sndC, rcvC, nSent, nRcvd, lastF, found, sending, next, wanted, lastR, line, reader), rfl, ⟨hf, hSS⟩, by rw [ht]; exact hP, hD⟩, hS.F ht⟩) hS.2.2 dX2_offered_47
  · replace hf := hf.2 c35
    refine lv_iload_n hx hb dX2_offered_12 rfl (lv_at hl 1 rfl) ?_
    refine lv_iconst (v := (-1)) hx hb dX2_offered_13 (by decide) ?_
    refine lv_icmp_eq (tgt := 38) hx hb dX2_offered_14 (by decide) (fun c9 => absurd c9 (by decide)) (fun _ => ?_)
    refine lv_aload_n hx hb dX2_offered_17 rfl (lv_at hl 0 rfl) ?_
    refine va_get (D := (dC, dI)) (ci := 2) (v := .ref a.2.1) (C := RX2) (T := TX2) (N := 15) hx hb hts hinX2 hown hK.1 hP 0 rfl rfl 0 (by decide) w11 (fun _ h9 => h9) rfl dX2_offered_18 ?_
    refine lv_iload_n hx hb dX2_offered_21 rfl (lv_at hl 2 rfl) ?_
    refine ar_qld (j := 3) hx hb hK.1 hP 1 3 rfl rfl (clamp_lit 3 rfl) (vin_lit 3 4 rfl rfl) dX2_offered_22 ?_
    refine kVi (As := []) (rest := []) (pre := (ndW y a (on, role, wants, sndC, rcvC, nSent, nRcvd, lastF, found, sending, next, wanted, lastR, line, reader)).take 5) (post := (ndW y a (on, role, wants, sndC, rcvC, nSent, nRcvd, lastF, found, sending, next, wanted, lastR, line, reader)).drop 6) ⟨hx, hb, hml, hown, hts⟩ (c_X0_rank l dC dI y (a.2.2.1 3) H.size (wanted 3) _ hf) (cwV 0 hts gX2_offered_X0_rank rfl rfl rfl (by decide +kernel) ⟨Nat.le_of_ble_eq_true rfl, Nat.le_of_ble_eq_true rfl⟩) hK hP hD (va_recv hK.1 hP (ci := 0) (q0 := 5) rfl rfl) hS hA rfl hl.1 rfl (Nat.le_of_ble_eq_true rfl) dX2_offered_23 ⟨Nat.zero_le _, Nat.zero_le _⟩ (fun r36 u37 H locs hf hP hD hS => ?_)
    obtain ⟨hf, e9⟩ := hf
    have e9 := e9.symm
    subst e9
    have hP : va_P (dC, dI) vwCl (ndW y a (on, role, wants, sndC, rcvC, nSent, nRcvd, lastF, found, sending, next, wanted, lastR, line, reader)) H := hP
    have hD : va_D A (ndW y a (on, role, wants, sndC, rcvC, nSent, nRcvd, lastF, found, sending, next, wanted, lastR, line, reader)) := hD
    refine lv_aload_n hx hb dX2_offered_26 rfl (lv_at hl 0 rfl) ?_
    refine va_get (D := (dC, dI)) (ci := 2) (v := .ref a.2.1) (C := RX2) (T := TX2) (N := 15) hx hb hts hinX2 hown hK.1 hP 0 rfl rfl 0 (by decide) w11 (fun _ h9 => h9) rfl dX2_offered_27 ?_
    refine lv_iload_n hx hb dX2_offered_30 rfl (lv_at hl 1 rfl) ?_
    refine ar_qld (j := 1) hx hb hK.1 hP 1 3 rfl rfl (clamp_lit 1 rfl) (vin_lit 1 4 rfl rfl) dX2_offered_31 ?_
    refine kVi (As := []) (rest := [.int r36]) (pre := (ndW y a (on, role, wants, sndC, rcvC, nSent, nRcvd, lastF, found, sending, next, wanted, lastR, line, reader)).take 3) (post := (ndW y a (on, role, wants, sndC, rcvC, nSent, nRcvd, lastF, found, sending, next, wanted, lastR, line, reader)).drop 4) ⟨hx, hb, hml, hown, hts⟩ (c_X0_rank l dC dI y (a.2.2.1 1) H.size (wanted 1) _ hf) (cwV 0 hts gX2_offered_X0_rank rfl rfl rfl (by decide +kernel) ⟨Nat.le_of_ble_eq_true rfl, Nat.le_of_ble_eq_true rfl⟩) hK hP hD (va_recv hK.1 hP (ci := 0) (q0 := 3) rfl rfl) hS hA rfl hl.1 rfl (Nat.le_of_ble_eq_true rfl) dX2_offered_32 ⟨Nat.zero_le _, Nat.zero_le _⟩ (fun r38 u39 H locs hf hP hD hS => ?_)
    obtain ⟨hf, e9⟩ := hf
    have e9 := e9.symm
    subst e9
    have hP : va_P (dC, dI) vwCl (ndW y a (on, role, wants, sndC, rcvC, nSent, nRcvd, lastF, found, sending, next, wanted, lastR, line, reader)) H := hP
    have hD : va_D A (ndW y a (on, role, wants, sndC, rcvC, nSent, nRcvd, lastF, found, sending, next, wanted, lastR, line, reader)) := hD
    refine lv_icmp_ge (tgt := 40) hx hb dX2_offered_35 (by decide) (fun c40 => ?_) (fun c40 => ?_)
    · replace hf := hf.1 c40
      exact j_X2_offered_40_1_3 C0 a K _ (on, role, wants, sndC, rcvC, nSent, nRcvd, lastF, found, sending, next, wanted, lastR, line, reader) H locs ls hP hD hS (lv_sub hl [0, 1, 2] rfl) hSS hf
    · replace hf := hf.2 c40
      exact j_X2_offered_38_3 C0 a K _ (on, role, wants, sndC, rcvC, nSent, nRcvd, lastF, found, sending, next, wanted, lastR, line, reader) H locs ls hP hD hS (lv_sub hl [0, 2] rfl) hSS hf
set_option maxHeartbeats 4000000 in
set_option maxRecDepth 100000 in
theorem j_X2_offered_40_1_2 {p : Program} {l : Launch} {e : Env} {s : State} {m : MethodId} {args : Array Value} {below : List Frame} {meth : Method} {c : Code} {dC : Nat → ClassId} {dI : Nat → Nat → Nat} {y : Nat → ClassId} {A : Nat → Prop} (C0 : Cx p s m args meth c cX2_offered 3 (some .int) wsX2_offered RX2 A dC dI y) (a : NodeA) (K : Int32 → Prop) (S0 : NodeS) : ∀ (S : NodeS) (H : Heap) (locs : List Loc) (ls : Array Slot), va_P (dC, dI) vwCl (ndW y a S) H → va_D A (ndW y a S) → va_S A s.heap H locs → lv_has ls 3 [(0, .ref a.1), (1, .int 1), (2, .int 2)] → S = S0 → wp_X2_offered_40_1_2 K S → W p l e ({ frames := 1, cells := 0, slots := 0, locals := 21 } : Room) s m args below meth c H locs 0 0 (MQ below (va_Qi (fun r u => K r ∧ u = S0) (BW dC dI A (fun u => ndW y a u)) A) args s 0 0 A) (F0 m 40 ls []) := by
  obtain ⟨hx, hb, hr, hml, hown, hts, hlocks, hA, hK⟩ := id C0
  intro S H locs ls hP hD hS hl hSS hf
  obtain ⟨on, role, wants, sndC, rcvC, nSent, nRcvd, lastF, found, sending, next, wanted, lastR, line, reader⟩ := S
  unfold wp_X2_offered_40_1_2 at hf
  refine lv_iinc (v := 3) (lv' := [(2, .int 3), (0, .ref a.1), (1, .int 1)]) hx hb dX2_offered_40 hl (k := 2) rfl (by decide) (by decide) rfl (fun ls hl => ?_)
  refine lv_goto (tgt := 4) hx hb dX2_offered_43 (by decide) ?_
  exact j_X2_offered_4_1_3 C0 a K _ (on, role, wants, sndC, rcvC, nSent, nRcvd, lastF, found, sending, next, wanted, lastR, line, reader) H locs ls hP hD hS (lv_sub hl [1, 2, 0] rfl) hSS hf
set_option maxHeartbeats 4000000 in
set_option maxRecDepth 100000 in
theorem j_X2_offered_4_1_2 {p : Program} {l : Launch} {e : Env} {s : State} {m : MethodId} {args : Array Value} {below : List Frame} {meth : Method} {c : Code} {dC : Nat → ClassId} {dI : Nat → Nat → Nat} {y : Nat → ClassId} {A : Nat → Prop} (C0 : Cx p s m args meth c cX2_offered 3 (some .int) wsX2_offered RX2 A dC dI y) (a : NodeA) (K : Int32 → Prop) (S0 : NodeS) : ∀ (S : NodeS) (H : Heap) (locs : List Loc) (ls : Array Slot), va_P (dC, dI) vwCl (ndW y a S) H → va_D A (ndW y a S) → va_S A s.heap H locs → lv_has ls 3 [(0, .ref a.1), (1, .int 1), (2, .int 2)] → S = S0 → wp_X2_offered_4_1_2 K S → W p l e ({ frames := 1, cells := 0, slots := 0, locals := 21 } : Room) s m args below meth c H locs 0 0 (MQ below (va_Qi (fun r u => K r ∧ u = S0) (BW dC dI A (fun u => ndW y a u)) A) args s 0 0 A) (F0 m 4 ls []) := by
  obtain ⟨hx, hb, hr, hml, hown, hts, hlocks, hA, hK⟩ := id C0
  have w11 := hts (.fieldLink RX2 11 "SharedWire$Node" "wanted" "[LSharedWire$Frame;") (List.mem_of_getElem? (i := 2) rfl)
  have w44 := hts (.fieldLink RX2 44 "SharedWire$Node" "wants" "I") (List.mem_of_getElem? (i := 1) rfl)
  have hinX2 : ∀ w ∈ wsX20, w ∈ wsX2_offered := fun w h => List.mem_cons_of_mem _ (List.mem_append_left _ (List.mem_append_right _ (h)))
  intro S H locs ls hP hD hS hl hSS hf
  obtain ⟨on, role, wants, sndC, rcvC, nSent, nRcvd, lastF, found, sending, next, wanted, lastR, line, reader⟩ := S
  unfold wp_X2_offered_4_1_2 at hf
  refine lv_iload_n hx hb dX2_offered_4 rfl (lv_at hl 2 rfl) ?_
  refine lv_aload_n hx hb dX2_offered_5 rfl (lv_at hl 0 rfl) ?_
  refine va_get (D := (dC, dI)) (ci := 2) (v := .int wants) (C := RX2) (T := TX2) (N := 15) hx hb hts hinX2 hown hK.1 hP 0 rfl rfl 6 (by decide) w44 (fun _ h9 => h9) rfl dX2_offered_6 ?_
  refine lv_icmp_ge (tgt := 46) hx hb dX2_offered_9 (by decide) (fun c29 => ?_) (fun c29 => ?_)
  · replace hf := hf.1 c29
    refine lv_iload_n hx hb dX2_offered_46 rfl (lv_at hl 1 rfl) ?_
    exact W.iret (v := 1) hx hb hr (fun t ht hW => ⟨⟨1, (on, role, wants, sndC, rcvC, nSent, nRcvd, lastF, found, sending, next, wanted, lastR, line, reader), rfl, ⟨hf, hSS⟩, by rw [ht]; exact hP, hD⟩, hS.F ht⟩) hS.2.2 dX2_offered_47
  · replace hf := hf.2 c29
    refine lv_iload_n hx hb dX2_offered_12 rfl (lv_at hl 1 rfl) ?_
    refine lv_iconst (v := (-1)) hx hb dX2_offered_13 (by decide) ?_
    refine lv_icmp_eq (tgt := 38) hx hb dX2_offered_14 (by decide) (fun c9 => absurd c9 (by decide)) (fun _ => ?_)
    refine lv_aload_n hx hb dX2_offered_17 rfl (lv_at hl 0 rfl) ?_
    refine va_get (D := (dC, dI)) (ci := 2) (v := .ref a.2.1) (C := RX2) (T := TX2) (N := 15) hx hb hts hinX2 hown hK.1 hP 0 rfl rfl 0 (by decide) w11 (fun _ h9 => h9) rfl dX2_offered_18 ?_
    refine lv_iload_n hx hb dX2_offered_21 rfl (lv_at hl 2 rfl) ?_
    refine ar_qld (j := 2) hx hb hK.1 hP 1 3 rfl rfl (clamp_lit 2 rfl) (vin_lit 2 4 rfl rfl) dX2_offered_22 ?_
    refine kVi (As := []) (rest := []) (pre := (ndW y a (on, role, wants, sndC, rcvC, nSent, nRcvd, lastF, found, sending, next, wanted, lastR, line, reader)).take 4) (post := (ndW y a (on, role, wants, sndC, rcvC, nSent, nRcvd, lastF, found, sending, next, wanted, lastR, line, reader)).drop 5) ⟨hx, hb, hml, hown, hts⟩ (c_X0_rank l dC dI y (a.2.2.1 2) H.size (wanted 2) _ hf) (cwV 0 hts gX2_offered_X0_rank rfl rfl rfl (by decide +kernel) ⟨Nat.le_of_ble_eq_true rfl, Nat.le_of_ble_eq_true rfl⟩) hK hP hD (va_recv hK.1 hP (ci := 0) (q0 := 4) rfl rfl) hS hA rfl hl.1 rfl (Nat.le_of_ble_eq_true rfl) dX2_offered_23 ⟨Nat.zero_le _, Nat.zero_le _⟩ (fun r30 u31 H locs hf hP hD hS => ?_)
    obtain ⟨hf, e9⟩ := hf
    have e9 := e9.symm
    subst e9
    have hP : va_P (dC, dI) vwCl (ndW y a (on, role, wants, sndC, rcvC, nSent, nRcvd, lastF, found, sending, next, wanted, lastR, line, reader)) H := hP
    have hD : va_D A (ndW y a (on, role, wants, sndC, rcvC, nSent, nRcvd, lastF, found, sending, next, wanted, lastR, line, reader)) := hD
    refine lv_aload_n hx hb dX2_offered_26 rfl (lv_at hl 0 rfl) ?_
    refine va_get (D := (dC, dI)) (ci := 2) (v := .ref a.2.1) (C := RX2) (T := TX2) (N := 15) hx hb hts hinX2 hown hK.1 hP 0 rfl rfl 0 (by decide) w11 (fun _ h9 => h9) rfl dX2_offered_27 ?_
    refine lv_iload_n hx hb dX2_offered_30 rfl (lv_at hl 1 rfl) ?_
    refine ar_qld (j := 1) hx hb hK.1 hP 1 3 rfl rfl (clamp_lit 1 rfl) (vin_lit 1 4 rfl rfl) dX2_offered_31 ?_
    refine kVi (As := []) (rest := [.int r30]) (pre := (ndW y a (on, role, wants, sndC, rcvC, nSent, nRcvd, lastF, found, sending, next, wanted, lastR, line, reader)).take 3) (post := (ndW y a (on, role, wants, sndC, rcvC, nSent, nRcvd, lastF, found, sending, next, wanted, lastR, line, reader)).drop 4) ⟨hx, hb, hml, hown, hts⟩ (c_X0_rank l dC dI y (a.2.2.1 1) H.size (wanted 1) _ hf) (cwV 0 hts gX2_offered_X0_rank rfl rfl rfl (by decide +kernel) ⟨Nat.le_of_ble_eq_true rfl, Nat.le_of_ble_eq_true rfl⟩) hK hP hD (va_recv hK.1 hP (ci := 0) (q0 := 3) rfl rfl) hS hA rfl hl.1 rfl (Nat.le_of_ble_eq_true rfl) dX2_offered_32 ⟨Nat.zero_le _, Nat.zero_le _⟩ (fun r32 u33 H locs hf hP hD hS => ?_)
    obtain ⟨hf, e9⟩ := hf
    have e9 := e9.symm
    subst e9
    have hP : va_P (dC, dI) vwCl (ndW y a (on, role, wants, sndC, rcvC, nSent, nRcvd, lastF, found, sending, next, wanted, lastR, line, reader)) H := hP
    have hD : va_D A (ndW y a (on, role, wants, sndC, rcvC, nSent, nRcvd, lastF, found, sending, next, wanted, lastR, line, reader)) := hD
    refine lv_icmp_ge (tgt := 40) hx hb dX2_offered_35 (by decide) (fun c34 => ?_) (fun c34 => ?_)
    · replace hf := hf.1 c34
      exact j_X2_offered_40_1_2 C0 a K _ (on, role, wants, sndC, rcvC, nSent, nRcvd, lastF, found, sending, next, wanted, lastR, line, reader) H locs ls hP hD hS (lv_sub hl [0, 1, 2] rfl) hSS hf
    · replace hf := hf.2 c34
      exact j_X2_offered_38_2 C0 a K _ (on, role, wants, sndC, rcvC, nSent, nRcvd, lastF, found, sending, next, wanted, lastR, line, reader) H locs ls hP hD hS (lv_sub hl [0, 2] rfl) hSS hf
set_option maxHeartbeats 4000000 in
set_option maxRecDepth 100000 in
theorem j_X2_offered_40_1_1 {p : Program} {l : Launch} {e : Env} {s : State} {m : MethodId} {args : Array Value} {below : List Frame} {meth : Method} {c : Code} {dC : Nat → ClassId} {dI : Nat → Nat → Nat} {y : Nat → ClassId} {A : Nat → Prop} (C0 : Cx p s m args meth c cX2_offered 3 (some .int) wsX2_offered RX2 A dC dI y) (a : NodeA) (K : Int32 → Prop) (S0 : NodeS) : ∀ (S : NodeS) (H : Heap) (locs : List Loc) (ls : Array Slot), va_P (dC, dI) vwCl (ndW y a S) H → va_D A (ndW y a S) → va_S A s.heap H locs → lv_has ls 3 [(0, .ref a.1), (1, .int 1), (2, .int 1)] → S = S0 → wp_X2_offered_40_1_1 K S → W p l e ({ frames := 1, cells := 0, slots := 0, locals := 21 } : Room) s m args below meth c H locs 0 0 (MQ below (va_Qi (fun r u => K r ∧ u = S0) (BW dC dI A (fun u => ndW y a u)) A) args s 0 0 A) (F0 m 40 ls []) := by
  obtain ⟨hx, hb, hr, hml, hown, hts, hlocks, hA, hK⟩ := id C0
  intro S H locs ls hP hD hS hl hSS hf
  obtain ⟨on, role, wants, sndC, rcvC, nSent, nRcvd, lastF, found, sending, next, wanted, lastR, line, reader⟩ := S
  unfold wp_X2_offered_40_1_1 at hf
  refine lv_iinc (v := 2) (lv' := [(2, .int 2), (0, .ref a.1), (1, .int 1)]) hx hb dX2_offered_40 hl (k := 2) rfl (by decide) (by decide) rfl (fun ls hl => ?_)
  refine lv_goto (tgt := 4) hx hb dX2_offered_43 (by decide) ?_
  exact j_X2_offered_4_1_2 C0 a K _ (on, role, wants, sndC, rcvC, nSent, nRcvd, lastF, found, sending, next, wanted, lastR, line, reader) H locs ls hP hD hS (lv_sub hl [1, 2, 0] rfl) hSS hf
set_option maxHeartbeats 4000000 in
set_option maxRecDepth 100000 in
theorem j_X2_offered_38_1 {p : Program} {l : Launch} {e : Env} {s : State} {m : MethodId} {args : Array Value} {below : List Frame} {meth : Method} {c : Code} {dC : Nat → ClassId} {dI : Nat → Nat → Nat} {y : Nat → ClassId} {A : Nat → Prop} (C0 : Cx p s m args meth c cX2_offered 3 (some .int) wsX2_offered RX2 A dC dI y) (a : NodeA) (K : Int32 → Prop) (S0 : NodeS) : ∀ (S : NodeS) (H : Heap) (locs : List Loc) (ls : Array Slot), va_P (dC, dI) vwCl (ndW y a S) H → va_D A (ndW y a S) → va_S A s.heap H locs → lv_has ls 3 [(0, .ref a.1), (2, .int 1)] → S = S0 → wp_X2_offered_38_1 K S → W p l e ({ frames := 1, cells := 0, slots := 0, locals := 21 } : Room) s m args below meth c H locs 0 0 (MQ below (va_Qi (fun r u => K r ∧ u = S0) (BW dC dI A (fun u => ndW y a u)) A) args s 0 0 A) (F0 m 38 ls []) := by
  obtain ⟨hx, hb, hr, hml, hown, hts, hlocks, hA, hK⟩ := id C0
  intro S H locs ls hP hD hS hl hSS hf
  obtain ⟨on, role, wants, sndC, rcvC, nSent, nRcvd, lastF, found, sending, next, wanted, lastR, line, reader⟩ := S
  unfold wp_X2_offered_38_1 at hf
  refine lv_iload_n hx hb dX2_offered_38 rfl (lv_at hl 1 rfl) ?_
  refine lv_istore_n (lv' := [(1, .int 1), (0, .ref a.1), (2, .int 1)]) hx hb dX2_offered_39 rfl hl (by decide) rfl (fun ls hl => ?_)
  exact j_X2_offered_40_1_1 C0 a K _ (on, role, wants, sndC, rcvC, nSent, nRcvd, lastF, found, sending, next, wanted, lastR, line, reader) H locs ls hP hD hS (lv_sub hl [1, 0, 2] rfl) hSS hf
set_option maxHeartbeats 4000000 in
set_option maxRecDepth 100000 in
theorem j_X2_offered_4_0_1 {p : Program} {l : Launch} {e : Env} {s : State} {m : MethodId} {args : Array Value} {below : List Frame} {meth : Method} {c : Code} {dC : Nat → ClassId} {dI : Nat → Nat → Nat} {y : Nat → ClassId} {A : Nat → Prop} (C0 : Cx p s m args meth c cX2_offered 3 (some .int) wsX2_offered RX2 A dC dI y) (a : NodeA) (K : Int32 → Prop) (S0 : NodeS) : ∀ (S : NodeS) (H : Heap) (locs : List Loc) (ls : Array Slot), va_P (dC, dI) vwCl (ndW y a S) H → va_D A (ndW y a S) → va_S A s.heap H locs → lv_has ls 3 [(0, .ref a.1), (1, .int 0), (2, .int 1)] → S = S0 → wp_X2_offered_4_0_1 K S → W p l e ({ frames := 1, cells := 0, slots := 0, locals := 21 } : Room) s m args below meth c H locs 0 0 (MQ below (va_Qi (fun r u => K r ∧ u = S0) (BW dC dI A (fun u => ndW y a u)) A) args s 0 0 A) (F0 m 4 ls []) := by
  obtain ⟨hx, hb, hr, hml, hown, hts, hlocks, hA, hK⟩ := id C0
  have w11 := hts (.fieldLink RX2 11 "SharedWire$Node" "wanted" "[LSharedWire$Frame;") (List.mem_of_getElem? (i := 2) rfl)
  have w44 := hts (.fieldLink RX2 44 "SharedWire$Node" "wants" "I") (List.mem_of_getElem? (i := 1) rfl)
  have hinX2 : ∀ w ∈ wsX20, w ∈ wsX2_offered := fun w h => List.mem_cons_of_mem _ (List.mem_append_left _ (List.mem_append_right _ (h)))
  intro S H locs ls hP hD hS hl hSS hf
  obtain ⟨on, role, wants, sndC, rcvC, nSent, nRcvd, lastF, found, sending, next, wanted, lastR, line, reader⟩ := S
  unfold wp_X2_offered_4_0_1 at hf
  refine lv_iload_n hx hb dX2_offered_4 rfl (lv_at hl 2 rfl) ?_
  refine lv_aload_n hx hb dX2_offered_5 rfl (lv_at hl 0 rfl) ?_
  refine va_get (D := (dC, dI)) (ci := 2) (v := .int wants) (C := RX2) (T := TX2) (N := 15) hx hb hts hinX2 hown hK.1 hP 0 rfl rfl 6 (by decide) w44 (fun _ h9 => h9) rfl dX2_offered_6 ?_
  refine lv_icmp_ge (tgt := 46) hx hb dX2_offered_9 (by decide) (fun c2 => ?_) (fun c2 => ?_)
  · replace hf := hf.1 c2
    refine lv_iload_n hx hb dX2_offered_46 rfl (lv_at hl 1 rfl) ?_
    exact W.iret (v := 0) hx hb hr (fun t ht hW => ⟨⟨0, (on, role, wants, sndC, rcvC, nSent, nRcvd, lastF, found, sending, next, wanted, lastR, line, reader), rfl, ⟨hf, hSS⟩, by rw [ht]; exact hP, hD⟩, hS.F ht⟩) hS.2.2 dX2_offered_47
  · replace hf := hf.2 c2
    refine lv_iload_n hx hb dX2_offered_12 rfl (lv_at hl 1 rfl) ?_
    refine lv_iconst (v := (-1)) hx hb dX2_offered_13 (by decide) ?_
    refine lv_icmp_eq (tgt := 38) hx hb dX2_offered_14 (by decide) (fun c9 => absurd c9 (by decide)) (fun _ => ?_)
    refine lv_aload_n hx hb dX2_offered_17 rfl (lv_at hl 0 rfl) ?_
    refine va_get (D := (dC, dI)) (ci := 2) (v := .ref a.2.1) (C := RX2) (T := TX2) (N := 15) hx hb hts hinX2 hown hK.1 hP 0 rfl rfl 0 (by decide) w11 (fun _ h9 => h9) rfl dX2_offered_18 ?_
    refine lv_iload_n hx hb dX2_offered_21 rfl (lv_at hl 2 rfl) ?_
    refine ar_qld (j := 1) hx hb hK.1 hP 1 3 rfl rfl (clamp_lit 1 rfl) (vin_lit 1 4 rfl rfl) dX2_offered_22 ?_
    refine kVi (As := []) (rest := []) (pre := (ndW y a (on, role, wants, sndC, rcvC, nSent, nRcvd, lastF, found, sending, next, wanted, lastR, line, reader)).take 3) (post := (ndW y a (on, role, wants, sndC, rcvC, nSent, nRcvd, lastF, found, sending, next, wanted, lastR, line, reader)).drop 4) ⟨hx, hb, hml, hown, hts⟩ (c_X0_rank l dC dI y (a.2.2.1 1) H.size (wanted 1) _ hf) (cwV 0 hts gX2_offered_X0_rank rfl rfl rfl (by decide +kernel) ⟨Nat.le_of_ble_eq_true rfl, Nat.le_of_ble_eq_true rfl⟩) hK hP hD (va_recv hK.1 hP (ci := 0) (q0 := 3) rfl rfl) hS hA rfl hl.1 rfl (Nat.le_of_ble_eq_true rfl) dX2_offered_23 ⟨Nat.zero_le _, Nat.zero_le _⟩ (fun r3 u4 H locs hf hP hD hS => ?_)
    obtain ⟨hf, e9⟩ := hf
    have e9 := e9.symm
    subst e9
    have hP : va_P (dC, dI) vwCl (ndW y a (on, role, wants, sndC, rcvC, nSent, nRcvd, lastF, found, sending, next, wanted, lastR, line, reader)) H := hP
    have hD : va_D A (ndW y a (on, role, wants, sndC, rcvC, nSent, nRcvd, lastF, found, sending, next, wanted, lastR, line, reader)) := hD
    refine lv_aload_n hx hb dX2_offered_26 rfl (lv_at hl 0 rfl) ?_
    refine va_get (D := (dC, dI)) (ci := 2) (v := .ref a.2.1) (C := RX2) (T := TX2) (N := 15) hx hb hts hinX2 hown hK.1 hP 0 rfl rfl 0 (by decide) w11 (fun _ h9 => h9) rfl dX2_offered_27 ?_
    refine lv_iload_n hx hb dX2_offered_30 rfl (lv_at hl 1 rfl) ?_
    refine ar_qld (j := 0) hx hb hK.1 hP 1 3 rfl rfl (clamp_lit 0 rfl) (vin_lit 0 4 rfl rfl) dX2_offered_31 ?_
    refine kVi (As := []) (rest := [.int r3]) (pre := (ndW y a (on, role, wants, sndC, rcvC, nSent, nRcvd, lastF, found, sending, next, wanted, lastR, line, reader)).take 2) (post := (ndW y a (on, role, wants, sndC, rcvC, nSent, nRcvd, lastF, found, sending, next, wanted, lastR, line, reader)).drop 3) ⟨hx, hb, hml, hown, hts⟩ (c_X0_rank l dC dI y (a.2.2.1 0) H.size (wanted 0) _ hf) (cwV 0 hts gX2_offered_X0_rank rfl rfl rfl (by decide +kernel) ⟨Nat.le_of_ble_eq_true rfl, Nat.le_of_ble_eq_true rfl⟩) hK hP hD (va_recv hK.1 hP (ci := 0) (q0 := 2) rfl rfl) hS hA rfl hl.1 rfl (Nat.le_of_ble_eq_true rfl) dX2_offered_32 ⟨Nat.zero_le _, Nat.zero_le _⟩ (fun r5 u6 H locs hf hP hD hS => ?_)
    obtain ⟨hf, e9⟩ := hf
    have e9 := e9.symm
    subst e9
    have hP : va_P (dC, dI) vwCl (ndW y a (on, role, wants, sndC, rcvC, nSent, nRcvd, lastF, found, sending, next, wanted, lastR, line, reader)) H := hP
    have hD : va_D A (ndW y a (on, role, wants, sndC, rcvC, nSent, nRcvd, lastF, found, sending, next, wanted, lastR, line, reader)) := hD
    refine lv_icmp_ge (tgt := 40) hx hb dX2_offered_35 (by decide) (fun c7 => ?_) (fun c7 => ?_)
    · replace hf := hf.1 c7
      exact j_X2_offered_40_0_1 C0 a K _ (on, role, wants, sndC, rcvC, nSent, nRcvd, lastF, found, sending, next, wanted, lastR, line, reader) H locs ls hP hD hS (lv_sub hl [0, 1, 2] rfl) hSS hf
    · replace hf := hf.2 c7
      exact j_X2_offered_38_1 C0 a K _ (on, role, wants, sndC, rcvC, nSent, nRcvd, lastF, found, sending, next, wanted, lastR, line, reader) H locs ls hP hD hS (lv_sub hl [0, 2] rfl) hSS hf
set_option maxHeartbeats 4000000 in
set_option maxRecDepth 100000 in
theorem j_X2_offered_40_0_0 {p : Program} {l : Launch} {e : Env} {s : State} {m : MethodId} {args : Array Value} {below : List Frame} {meth : Method} {c : Code} {dC : Nat → ClassId} {dI : Nat → Nat → Nat} {y : Nat → ClassId} {A : Nat → Prop} (C0 : Cx p s m args meth c cX2_offered 3 (some .int) wsX2_offered RX2 A dC dI y) (a : NodeA) (K : Int32 → Prop) (S0 : NodeS) : ∀ (S : NodeS) (H : Heap) (locs : List Loc) (ls : Array Slot), va_P (dC, dI) vwCl (ndW y a S) H → va_D A (ndW y a S) → va_S A s.heap H locs → lv_has ls 3 [(0, .ref a.1), (1, .int 0), (2, .int 0)] → S = S0 → wp_X2_offered_40_0_0 K S → W p l e ({ frames := 1, cells := 0, slots := 0, locals := 21 } : Room) s m args below meth c H locs 0 0 (MQ below (va_Qi (fun r u => K r ∧ u = S0) (BW dC dI A (fun u => ndW y a u)) A) args s 0 0 A) (F0 m 40 ls []) := by
  obtain ⟨hx, hb, hr, hml, hown, hts, hlocks, hA, hK⟩ := id C0
  intro S H locs ls hP hD hS hl hSS hf
  obtain ⟨on, role, wants, sndC, rcvC, nSent, nRcvd, lastF, found, sending, next, wanted, lastR, line, reader⟩ := S
  unfold wp_X2_offered_40_0_0 at hf
  refine lv_iinc (v := 1) (lv' := [(2, .int 1), (0, .ref a.1), (1, .int 0)]) hx hb dX2_offered_40 hl (k := 2) rfl (by decide) (by decide) rfl (fun ls hl => ?_)
  refine lv_goto (tgt := 4) hx hb dX2_offered_43 (by decide) ?_
  exact j_X2_offered_4_0_1 C0 a K _ (on, role, wants, sndC, rcvC, nSent, nRcvd, lastF, found, sending, next, wanted, lastR, line, reader) H locs ls hP hD hS (lv_sub hl [1, 2, 0] rfl) hSS hf
set_option maxHeartbeats 4000000 in
set_option maxRecDepth 100000 in
theorem j_X2_offered_38_0 {p : Program} {l : Launch} {e : Env} {s : State} {m : MethodId} {args : Array Value} {below : List Frame} {meth : Method} {c : Code} {dC : Nat → ClassId} {dI : Nat → Nat → Nat} {y : Nat → ClassId} {A : Nat → Prop} (C0 : Cx p s m args meth c cX2_offered 3 (some .int) wsX2_offered RX2 A dC dI y) (a : NodeA) (K : Int32 → Prop) (S0 : NodeS) : ∀ (S : NodeS) (H : Heap) (locs : List Loc) (ls : Array Slot), va_P (dC, dI) vwCl (ndW y a S) H → va_D A (ndW y a S) → va_S A s.heap H locs → lv_has ls 3 [(0, .ref a.1), (2, .int 0)] → S = S0 → wp_X2_offered_38_0 K S → W p l e ({ frames := 1, cells := 0, slots := 0, locals := 21 } : Room) s m args below meth c H locs 0 0 (MQ below (va_Qi (fun r u => K r ∧ u = S0) (BW dC dI A (fun u => ndW y a u)) A) args s 0 0 A) (F0 m 38 ls []) := by
  obtain ⟨hx, hb, hr, hml, hown, hts, hlocks, hA, hK⟩ := id C0
  intro S H locs ls hP hD hS hl hSS hf
  obtain ⟨on, role, wants, sndC, rcvC, nSent, nRcvd, lastF, found, sending, next, wanted, lastR, line, reader⟩ := S
  unfold wp_X2_offered_38_0 at hf
  refine lv_iload_n hx hb dX2_offered_38 rfl (lv_at hl 1 rfl) ?_
  refine lv_istore_n (lv' := [(1, .int 0), (0, .ref a.1), (2, .int 0)]) hx hb dX2_offered_39 rfl hl (by decide) rfl (fun ls hl => ?_)
  exact j_X2_offered_40_0_0 C0 a K _ (on, role, wants, sndC, rcvC, nSent, nRcvd, lastF, found, sending, next, wanted, lastR, line, reader) H locs ls hP hD hS (lv_sub hl [1, 0, 2] rfl) hSS hf
set_option maxHeartbeats 4000000 in
set_option maxRecDepth 100000 in
theorem j_X2_offered_4_m1_0 {p : Program} {l : Launch} {e : Env} {s : State} {m : MethodId} {args : Array Value} {below : List Frame} {meth : Method} {c : Code} {dC : Nat → ClassId} {dI : Nat → Nat → Nat} {y : Nat → ClassId} {A : Nat → Prop} (C0 : Cx p s m args meth c cX2_offered 3 (some .int) wsX2_offered RX2 A dC dI y) (a : NodeA) (K : Int32 → Prop) (S0 : NodeS) : ∀ (S : NodeS) (H : Heap) (locs : List Loc) (ls : Array Slot), va_P (dC, dI) vwCl (ndW y a S) H → va_D A (ndW y a S) → va_S A s.heap H locs → lv_has ls 3 [(0, .ref a.1), (1, .int (-1)), (2, .int 0)] → S = S0 → wp_X2_offered_4_m1_0 K S → W p l e ({ frames := 1, cells := 0, slots := 0, locals := 21 } : Room) s m args below meth c H locs 0 0 (MQ below (va_Qi (fun r u => K r ∧ u = S0) (BW dC dI A (fun u => ndW y a u)) A) args s 0 0 A) (F0 m 4 ls []) := by
  obtain ⟨hx, hb, hr, hml, hown, hts, hlocks, hA, hK⟩ := id C0
  have w44 := hts (.fieldLink RX2 44 "SharedWire$Node" "wants" "I") (List.mem_of_getElem? (i := 1) rfl)
  have hinX2 : ∀ w ∈ wsX20, w ∈ wsX2_offered := fun w h => List.mem_cons_of_mem _ (List.mem_append_left _ (List.mem_append_right _ (h)))
  intro S H locs ls hP hD hS hl hSS hf
  obtain ⟨on, role, wants, sndC, rcvC, nSent, nRcvd, lastF, found, sending, next, wanted, lastR, line, reader⟩ := S
  unfold wp_X2_offered_4_m1_0 at hf
  refine lv_iload_n hx hb dX2_offered_4 rfl (lv_at hl 2 rfl) ?_
  refine lv_aload_n hx hb dX2_offered_5 rfl (lv_at hl 0 rfl) ?_
  refine va_get (D := (dC, dI)) (ci := 2) (v := .int wants) (C := RX2) (T := TX2) (N := 15) hx hb hts hinX2 hown hK.1 hP 0 rfl rfl 6 (by decide) w44 (fun _ h9 => h9) rfl dX2_offered_6 ?_
  refine lv_icmp_ge (tgt := 46) hx hb dX2_offered_9 (by decide) (fun c1 => ?_) (fun c1 => ?_)
  · replace hf := hf.1 c1
    refine lv_iload_n hx hb dX2_offered_46 rfl (lv_at hl 1 rfl) ?_
    exact W.iret (v := (-1)) hx hb hr (fun t ht hW => ⟨⟨(-1), (on, role, wants, sndC, rcvC, nSent, nRcvd, lastF, found, sending, next, wanted, lastR, line, reader), rfl, ⟨hf, hSS⟩, by rw [ht]; exact hP, hD⟩, hS.F ht⟩) hS.2.2 dX2_offered_47
  · replace hf := hf.2 c1
    refine lv_iload_n hx hb dX2_offered_12 rfl (lv_at hl 1 rfl) ?_
    refine lv_iconst (v := (-1)) hx hb dX2_offered_13 (by decide) ?_
    refine lv_icmp_eq (tgt := 38) hx hb dX2_offered_14 (by decide) (fun _ => ?_) (fun c9 => absurd (by decide) c9)
    exact j_X2_offered_38_0 C0 a K _ (on, role, wants, sndC, rcvC, nSent, nRcvd, lastF, found, sending, next, wanted, lastR, line, reader) H locs ls hP hD hS (lv_sub hl [0, 2] rfl) hSS hf
set_option maxHeartbeats 4000000 in
set_option maxRecDepth 100000 in
theorem c_X2_offered (l : Launch) (dC : Nat → ClassId) (dI : Nat → Nat → Nat) (y : Nat → ClassId) (a : NodeA) (sz : Nat) (S : NodeS) (K : Int32 → Prop) (hf : wp_X2_offered S K) : MI l yX2_offered wsX2_offered { frames := 1, cells := 0, slots := 0, locals := 21 } dC dI y [.ref a.1] (ndW y a S) sz (fun u => ndW y a u) (fun r u => K r ∧ u = S) := by
  refine Met.ofW (cc := cX2_offered) (maxL := 3) (ret := (some .int)) (by decide) rfl ?_
  intro p e s m args below meth c s₁ B hml hv
  obtain ⟨rfl, hsz, hP, hK, hD0⟩ := hv
  have hx := B.exec
  have hb := B.bytes
  have hr := B.returns
  have hts := atoms_spec (ws := wsX2_offered) B.pre
  have hown : s.vm.findClass RX2 = some m.cls := findClass_of_methodNamed B.named
  have hlocks := B.notSynchronized
  subst hsz
  have hD := hD0.self (sz := s.heap.size)
  generalize hAe : va_A (ndW y a S) s.heap.size = A at hD ⊢
  have hA : ∀ q : Nat, s.heap.size ≤ q → A q := fun q h => by rw [← hAe]; exact Or.inr h
  have hS : va_S A s.heap s.heap [] := va_S.rf
  have C0 : Cx p s m [.ref a.1].toArray meth c cX2_offered 3 (some .int) wsX2_offered RX2 A dC dI y := ⟨hx, hb, hr, hml, hown, hts, hlocks, hA, hK⟩
  have hl := lv_entry ([.ref a.1]) (n := 3) (Nat.le_of_ble_eq_true rfl)
  rw [lg_entry_eq]
  generalize (lg_sl ([.ref a.1]) ++ List.replicate (3 - (lg_sl ([.ref a.1])).length) Slot.unset).toArray = ls at hl ⊢
  have hl : lv_has ls 3 [(0, .ref a.1)] := hl
  obtain ⟨on, role, wants, sndC, rcvC, nSent, nRcvd, lastF, found, sending, next, wanted, lastR, line, reader⟩ := S
  have hSS : (on, role, wants, sndC, rcvC, nSent, nRcvd, lastF, found, sending, next, wanted, lastR, line, reader) = (on, role, wants, sndC, rcvC, nSent, nRcvd, lastF, found, sending, next, wanted, lastR, line, reader) := rfl
  clear hAe hD0
  generalize hL0 : ([] : List Loc) = locs at hS ⊢
  unfold wp_X2_offered at hf
  refine lv_iconst (v := (-1)) hx hb dX2_offered_0 (by decide) ?_
  refine lv_istore_n (lv' := [(1, .int (-1)), (0, .ref a.1)]) hx hb dX2_offered_1 rfl hl (by decide) rfl (fun ls hl => ?_)
  refine lv_iconst (v := 0) hx hb dX2_offered_2 (by decide) ?_
  refine lv_istore_n (lv' := [(2, .int 0), (1, .int (-1)), (0, .ref a.1)]) hx hb dX2_offered_3 rfl hl (by decide) rfl (fun ls hl => ?_)
  exact j_X2_offered_4_m1_0 C0 a K _ (on, role, wants, sndC, rcvC, nSent, nRcvd, lastF, found, sending, next, wanted, lastR, line, reader) s.heap locs ls hP hD hS (lv_sub hl [2, 1, 0] rfl) hSS hf

def wp_X2_switchOn : NodeS → (NodeS → Prop) → Prop := fun (on, role, wants, sndC, rcvC, nSent, nRcvd, lastF, found, sending, next, wanted, lastR, line, reader) K => K (1, role, wants, 0, 0, nSent, nRcvd, lastF, found, sending, next, wanted, lastR, line, reader)
set_option maxHeartbeats 4000000 in
set_option maxRecDepth 100000 in
theorem c_X2_switchOn (l : Launch) (dC : Nat → ClassId) (dI : Nat → Nat → Nat) (y : Nat → ClassId) (a : NodeA) (sz : Nat) (S : NodeS) (K : NodeS → Prop) (hf : wp_X2_switchOn S K) : MV l yX2_switchOn wsX2_switchOn { frames := 0, cells := 0, slots := 0, locals := 0 } dC dI y [.ref a.1] (ndW y a S) sz (fun u => ndW y a u) K := by
  refine Met.ofW (cc := cX2_switchOn) (maxL := 1) (ret := none) (by decide) rfl ?_
  intro p e s m args below meth c s₁ B hml hv
  obtain ⟨rfl, hsz, hP, hK, hD0⟩ := hv
  have hx := B.exec
  have hb := B.bytes
  have hr := B.returns
  have hts := atoms_spec (ws := wsX2_switchOn) B.pre
  have hown : s.vm.findClass RX2 = some m.cls := findClass_of_methodNamed B.named
  have hlocks := B.notSynchronized
  subst hsz
  have hD := hD0.self (sz := s.heap.size)
  generalize hAe : va_A (ndW y a S) s.heap.size = A at hD ⊢
  have hA : ∀ q : Nat, s.heap.size ≤ q → A q := fun q h => by rw [← hAe]; exact Or.inr h
  have hS : va_S A s.heap s.heap [] := va_S.rf
  have C0 : Cx p s m [.ref a.1].toArray meth c cX2_switchOn 1 none wsX2_switchOn RX2 A dC dI y := ⟨hx, hb, hr, hml, hown, hts, hlocks, hA, hK⟩
  have w36 := hts (.fieldLink RX2 36 "SharedWire$Node" "on" "Z") (List.mem_of_getElem? (i := 1) rfl)
  have w47 := hts (.fieldLink RX2 47 "SharedWire$Node" "sendingCount" "I") (List.mem_of_getElem? (i := 2) rfl)
  have w50 := hts (.fieldLink RX2 50 "SharedWire$Node" "receivingCount" "I") (List.mem_of_getElem? (i := 3) rfl)
  have hinX2 : ∀ w ∈ wsX20, w ∈ wsX2_switchOn := fun w h => List.mem_cons_of_mem _ (List.mem_append_right _ (h))
  have hl := lv_entry ([.ref a.1]) (n := 1) (Nat.le_of_ble_eq_true rfl)
  rw [lg_entry_eq]
  generalize (lg_sl ([.ref a.1]) ++ List.replicate (1 - (lg_sl ([.ref a.1])).length) Slot.unset).toArray = ls at hl ⊢
  have hl : lv_has ls 1 [(0, .ref a.1)] := hl
  obtain ⟨on, role, wants, sndC, rcvC, nSent, nRcvd, lastF, found, sending, next, wanted, lastR, line, reader⟩ := S
  clear hAe hD0
  generalize hL0 : ([] : List Loc) = locs at hS ⊢
  unfold wp_X2_switchOn at hf
  refine lv_aload_n hx hb dX2_switchOn_0 rfl (lv_at hl 0 rfl) ?_
  refine lv_iconst (v := 1) hx hb dX2_switchOn_1 (by decide) ?_
  refine va_put (D := (dC, dI)) (ci := 2) (v := .int 1) (ty := .boolean) (C := RX2) (T := TX2) (N := 15) hx hb hts hinX2 tyX2 tyX2_ok nmX2 hown hK.1 hP hD hS 0 rfl rfl 4 (by decide) w36 (fun _ h9 => h9) rfl (by decide +kernel) rfl rfl (Nat.le_of_ble_eq_true rfl) dX2_switchOn_2 (fun H locs hP hD hS => ?_)
  have hP : va_P (dC, dI) vwCl (ndW y a (1, role, wants, sndC, rcvC, nSent, nRcvd, lastF, found, sending, next, wanted, lastR, line, reader)) H := hP
  have hD : va_D A (ndW y a (1, role, wants, sndC, rcvC, nSent, nRcvd, lastF, found, sending, next, wanted, lastR, line, reader)) := hD
  refine lv_aload_n hx hb dX2_switchOn_5 rfl (lv_at hl 0 rfl) ?_
  refine lv_iconst (v := 0) hx hb dX2_switchOn_6 (by decide) ?_
  refine va_put (D := (dC, dI)) (ci := 2) (v := .int 0) (ty := .int) (C := RX2) (T := TX2) (N := 15) hx hb hts hinX2 tyX2 tyX2_ok nmX2 hown hK.1 hP hD hS 0 rfl rfl 7 (by decide) w47 (fun _ h9 => h9) rfl (by decide +kernel) rfl rfl (Nat.le_of_ble_eq_true rfl) dX2_switchOn_7 (fun H locs hP hD hS => ?_)
  have hP : va_P (dC, dI) vwCl (ndW y a (1, role, wants, 0, rcvC, nSent, nRcvd, lastF, found, sending, next, wanted, lastR, line, reader)) H := hP
  have hD : va_D A (ndW y a (1, role, wants, 0, rcvC, nSent, nRcvd, lastF, found, sending, next, wanted, lastR, line, reader)) := hD
  refine lv_aload_n hx hb dX2_switchOn_10 rfl (lv_at hl 0 rfl) ?_
  refine lv_iconst (v := 0) hx hb dX2_switchOn_11 (by decide) ?_
  refine va_put (D := (dC, dI)) (ci := 2) (v := .int 0) (ty := .int) (C := RX2) (T := TX2) (N := 15) hx hb hts hinX2 tyX2 tyX2_ok nmX2 hown hK.1 hP hD hS 0 rfl rfl 8 (by decide) w50 (fun _ h9 => h9) rfl (by decide +kernel) rfl rfl (Nat.le_of_ble_eq_true rfl) dX2_switchOn_12 (fun H locs hP hD hS => ?_)
  have hP : va_P (dC, dI) vwCl (ndW y a (1, role, wants, 0, 0, nSent, nRcvd, lastF, found, sending, next, wanted, lastR, line, reader)) H := hP
  have hD : va_D A (ndW y a (1, role, wants, 0, 0, nSent, nRcvd, lastF, found, sending, next, wanted, lastR, line, reader)) := hD
  exact W.vret hx hb hr (fun t ht hW => ⟨⟨(1, role, wants, 0, 0, nSent, nRcvd, lastF, found, sending, next, wanted, lastR, line, reader), rfl, hf, by rw [ht]; exact hP, hD⟩, hS.F ht⟩) hS.2.2 dX2_switchOn_15

def wp_X2_startSending : NodeS → (NodeS → Prop) → Prop := fun (on, role, wants, sndC, rcvC, nSent, nRcvd, lastF, found, sending, next, wanted, lastR, line, reader) K => wp_X2_offered (on, role, wants, sndC, rcvC, nSent, nRcvd, lastF, found, sending, next, wanted, lastR, line, reader) (fun r1 => ((on = 0 → K (on, role, wants, sndC, rcvC, nSent, nRcvd, lastF, found, sending, next, wanted, lastR, line, reader)) ∧ (¬ on = 0 → ((¬ r1 = (-1) → (vp_in r1 4 ∧ (r1 = 0 → wp_X1_write line (wanted 0) (fun u5 => wp_X3_begin reader (fun u6 => K (on, 3, wants, sndC, rcvC, nSent, nRcvd, lastF, found, 0, 0, wanted, lastR, u5, u6)))) ∧ (r1 = 1 → wp_X1_write line (wanted 1) (fun u7 => wp_X3_begin reader (fun u8 => K (on, 3, wants, sndC, rcvC, nSent, nRcvd, lastF, found, 1, 0, wanted, lastR, u7, u8)))) ∧ (r1 = 2 → wp_X1_write line (wanted 2) (fun u9 => wp_X3_begin reader (fun u10 => K (on, 3, wants, sndC, rcvC, nSent, nRcvd, lastF, found, 2, 0, wanted, lastR, u9, u10)))) ∧ (r1 = 3 → wp_X1_write line (wanted 3) (fun u11 => wp_X3_begin reader (fun u12 => K (on, 3, wants, sndC, rcvC, nSent, nRcvd, lastF, found, 3, 0, wanted, lastR, u11, u12)))))) ∧ (r1 = (-1) → K (on, role, wants, sndC, rcvC, nSent, nRcvd, lastF, found, sending, next, wanted, lastR, line, reader))))))
set_option maxHeartbeats 4000000 in
set_option maxRecDepth 100000 in
theorem c_X2_startSending (l : Launch) (dC : Nat → ClassId) (dI : Nat → Nat → Nat) (y : Nat → ClassId) (a : NodeA) (sz : Nat) (S : NodeS) (K : NodeS → Prop) (hf : wp_X2_startSending S K) : MV l yX2_startSending wsX2_startSending { frames := 3, cells := 0, slots := 0, locals := 69 } dC dI y [.ref a.1] (ndW y a S) sz (fun u => ndW y a u) K := by
  refine Met.ofW (cc := cX2_startSending) (maxL := 2) (ret := none) (by decide) rfl ?_
  intro p e s m args below meth c s₁ B hml hv
  obtain ⟨rfl, hsz, hP, hK, hD0⟩ := hv
  have hx := B.exec
  have hb := B.bytes
  have hr := B.returns
  have hts := atoms_spec (ws := wsX2_startSending) B.pre
  have hown : s.vm.findClass RX2 = some m.cls := findClass_of_methodNamed B.named
  have hlocks := B.notSynchronized
  subst hsz
  have hD := hD0.self (sz := s.heap.size)
  generalize hAe : va_A (ndW y a S) s.heap.size = A at hD ⊢
  have hA : ∀ q : Nat, s.heap.size ≤ q → A q := fun q h => by rw [← hAe]; exact Or.inr h
  have hS : va_S A s.heap s.heap [] := va_S.rf
  have C0 : Cx p s m [.ref a.1].toArray meth c cX2_startSending 2 none wsX2_startSending RX2 A dC dI y := ⟨hx, hb, hr, hml, hown, hts, hlocks, hA, hK⟩
  have w11 := hts (Cond.fieldLink RX2 11 "SharedWire$Node" "wanted" "[LSharedWire$Frame;") (List.mem_of_getElem? (i := 6) rfl)
  have w25 := hts (Cond.fieldLink RX2 25 "SharedWire$Node" "line" "LSharedWire$Line;") (List.mem_of_getElem? (i := 5) rfl)
  have w32 := hts (Cond.fieldLink RX2 32 "SharedWire$Node" "reader" "LSharedWire$Reader;") (List.mem_of_getElem? (i := 7) rfl)
  have w36 := hts (Cond.fieldLink RX2 36 "SharedWire$Node" "on" "Z") (List.mem_of_getElem? (i := 1) rfl)
  have w40 := hts (Cond.fieldLink RX2 40 "SharedWire$Node" "role" "I") (List.mem_of_getElem? (i := 2) rfl)
  have w65 := hts (Cond.fieldLink RX2 65 "SharedWire$Node" "sending" "I") (List.mem_of_getElem? (i := 3) rfl)
  have w68 := hts (Cond.fieldLink RX2 68 "SharedWire$Node" "next" "I") (List.mem_of_getElem? (i := 4) rfl)
  have hinX2 : ∀ w ∈ wsX20, w ∈ wsX2_startSending := fun w h => List.mem_cons_of_mem _ (List.mem_append_left _ (List.mem_append_left _ (List.mem_append_left _ (List.mem_append_right _ (h)))))
  have hl := lv_entry ([.ref a.1]) (n := 2) (Nat.le_of_ble_eq_true rfl)
  rw [lg_entry_eq]
  generalize (lg_sl ([.ref a.1]) ++ List.replicate (2 - (lg_sl ([.ref a.1])).length) Slot.unset).toArray = ls at hl ⊢
  have hl : lv_has ls 2 [(0, .ref a.1)] := hl
  obtain ⟨on, role, wants, sndC, rcvC, nSent, nRcvd, lastF, found, sending, next, wanted, lastR, line, reader⟩ := S
  clear hAe hD0
  generalize hL0 : ([] : List Loc) = locs at hS ⊢
  unfold wp_X2_startSending at hf
  refine lv_aload_n hx hb dX2_startSending_0 rfl (lv_at hl 0 rfl) ?_
  refine k0i (As := []) (rest := []) ⟨hx, hb, hml, hown, hts⟩ (c_X2_offered l dC dI y a s.heap.size (on, role, wants, sndC, rcvC, nSent, nRcvd, lastF, found, sending, next, wanted, lastR, line, reader) _ hf) (cwV 0 hts gX2_startSending_X2_offered rfl rfl rfl (by decide +kernel) ⟨Nat.le_of_ble_eq_true rfl, Nat.le_of_ble_eq_true rfl⟩) hK hP hD (va_recv hK.1 hP (ci := 2) (q0 := 0) rfl rfl) hS hA rfl hl.1 rfl (Nat.le_of_ble_eq_true rfl) dX2_startSending_1 ⟨Nat.zero_le _, Nat.zero_le _⟩ (fun r1 u2 H locs hf hP hD hS => ?_)
  obtain ⟨hf, e9⟩ := hf
  have e9 := e9.symm
  subst e9
  have hP : va_P (dC, dI) vwCl (ndW y a (on, role, wants, sndC, rcvC, nSent, nRcvd, lastF, found, sending, next, wanted, lastR, line, reader)) H := hP
  have hD : va_D A (ndW y a (on, role, wants, sndC, rcvC, nSent, nRcvd, lastF, found, sending, next, wanted, lastR, line, reader)) := hD
  refine lv_istore_n (lv' := [(1, .int r1), (0, .ref a.1)]) hx hb dX2_startSending_4 rfl hl (by decide) rfl (fun ls hl => ?_)
  refine lv_aload_n hx hb dX2_startSending_5 rfl (lv_at hl 1 rfl) ?_
  refine va_get (D := (dC, dI)) (ci := 2) (v := .int on) (C := RX2) (T := TX2) (N := 15) hx hb hts hinX2 hown hK.1 hP 0 rfl rfl 4 (by decide) w36 (fun _ h9 => h9) rfl dX2_startSending_6 ?_
  refine lv_if_eq (tgt := 17) hx hb dX2_startSending_9 (by decide) (fun c3 => ?_) (fun c3 => ?_)
  · replace hf := hf.1 c3
    exact W.vret hx hb hr (fun t ht hW => ⟨⟨(on, role, wants, sndC, rcvC, nSent, nRcvd, lastF, found, sending, next, wanted, lastR, line, reader), rfl, hf, by rw [ht]; exact hP, hD⟩, hS.F ht⟩) hS.2.2 dX2_startSending_17
  · replace hf := hf.2 c3
    refine lv_iload_n hx hb dX2_startSending_12 rfl (lv_at hl 0 rfl) ?_
    refine lv_iconst (v := (-1)) hx hb dX2_startSending_13 (by decide) ?_
    refine lv_icmp_ne (tgt := 18) hx hb dX2_startSending_14 (by decide) (fun c4 => ?_) (fun c4 => ?_)
    · replace hf := hf.1 c4
      refine lv_aload_n hx hb dX2_startSending_18 rfl (lv_at hl 1 rfl) ?_
      refine lv_iconst (v := 3) hx hb dX2_startSending_19 (by decide) ?_
      refine va_put (D := (dC, dI)) (ci := 2) (v := .int 3) (ty := .int) (C := RX2) (T := TX2) (N := 15) hx hb hts hinX2 tyX2 tyX2_ok nmX2 hown hK.1 hP hD hS 0 rfl rfl 5 (by decide) w40 (fun _ h9 => h9) rfl (by decide +kernel) rfl rfl (Nat.le_of_ble_eq_true rfl) dX2_startSending_20 (fun H locs hP hD hS => ?_)
      have hP : va_P (dC, dI) vwCl (ndW y a (on, 3, wants, sndC, rcvC, nSent, nRcvd, lastF, found, sending, next, wanted, lastR, line, reader)) H := hP
      have hD : va_D A (ndW y a (on, 3, wants, sndC, rcvC, nSent, nRcvd, lastF, found, sending, next, wanted, lastR, line, reader)) := hD
      refine lv_aload_n hx hb dX2_startSending_23 rfl (lv_at hl 1 rfl) ?_
      refine lv_iload_n hx hb dX2_startSending_24 rfl (lv_at hl 0 rfl) ?_
      refine va_put (D := (dC, dI)) (ci := 2) (v := .int r1) (ty := .int) (C := RX2) (T := TX2) (N := 15) hx hb hts hinX2 tyX2 tyX2_ok nmX2 hown hK.1 hP hD hS 0 rfl rfl 13 (by decide) w65 (fun _ h9 => h9) rfl (by decide +kernel) rfl rfl (Nat.le_of_ble_eq_true rfl) dX2_startSending_25 (fun H locs hP hD hS => ?_)
      have hP : va_P (dC, dI) vwCl (ndW y a (on, 3, wants, sndC, rcvC, nSent, nRcvd, lastF, found, r1, next, wanted, lastR, line, reader)) H := hP
      have hD : va_D A (ndW y a (on, 3, wants, sndC, rcvC, nSent, nRcvd, lastF, found, r1, next, wanted, lastR, line, reader)) := hD
      refine lv_aload_n hx hb dX2_startSending_28 rfl (lv_at hl 1 rfl) ?_
      refine lv_iconst (v := 0) hx hb dX2_startSending_29 (by decide) ?_
      refine va_put (D := (dC, dI)) (ci := 2) (v := .int 0) (ty := .int) (C := RX2) (T := TX2) (N := 15) hx hb hts hinX2 tyX2 tyX2_ok nmX2 hown hK.1 hP hD hS 0 rfl rfl 14 (by decide) w68 (fun _ h9 => h9) rfl (by decide +kernel) rfl rfl (Nat.le_of_ble_eq_true rfl) dX2_startSending_30 (fun H locs hP hD hS => ?_)
      have hP : va_P (dC, dI) vwCl (ndW y a (on, 3, wants, sndC, rcvC, nSent, nRcvd, lastF, found, r1, 0, wanted, lastR, line, reader)) H := hP
      have hD : va_D A (ndW y a (on, 3, wants, sndC, rcvC, nSent, nRcvd, lastF, found, r1, 0, wanted, lastR, line, reader)) := hD
      refine lv_aload_n hx hb dX2_startSending_33 rfl (lv_at hl 1 rfl) ?_
      refine va_get (D := (dC, dI)) (ci := 2) (v := .ref a.2.2.2.2.1.1) (C := RX2) (T := TX2) (N := 15) hx hb hts hinX2 hown hK.1 hP 0 rfl rfl 2 (by decide) w25 (fun _ h9 => h9) rfl dX2_startSending_34 ?_
      refine lv_aload_n hx hb dX2_startSending_37 rfl (lv_at hl 1 rfl) ?_
      refine va_get (D := (dC, dI)) (ci := 2) (v := .ref a.2.1) (C := RX2) (T := TX2) (N := 15) hx hb hts hinX2 hown hK.1 hP 0 rfl rfl 0 (by decide) w11 (fun _ h9 => h9) rfl dX2_startSending_38 ?_
      refine lv_iload_n hx hb dX2_startSending_41 rfl (lv_at hl 0 rfl) ?_
      obtain ⟨hg9, hf0, hf1, hf2, hf3⟩ := hf
      rcases vin4 hg9 with e9 | e9 | e9 | e9
      · replace hf := hf0 e9
        subst e9
        refine ar_qld (j := 0) hx hb hK.1 hP 1 3 rfl rfl (clamp_lit 0 rfl) (vin_lit 0 4 rfl rfl) dX2_startSending_42 ?_
        refine kVvR (As := [.ref (a.2.2.1 0)]) (rest := []) (pre := (ndW y a (on, 3, wants, sndC, rcvC, nSent, nRcvd, lastF, found, 0, 0, wanted, lastR, line, reader)).take 7) (post := (ndW y a (on, 3, wants, sndC, rcvC, nSent, nRcvd, lastF, found, 0, 0, wanted, lastR, line, reader)).drop 10) ⟨hx, hb, hml, hown, hts⟩ (c_X1_write l dC dI y a.2.2.2.2.1 H.size line (a.2.2.1 0) (wanted 0) _ hf) (cwV 1 hts gX2_startSending_X1_write rfl rfl rfl (by decide +kernel) ⟨Nat.le_of_ble_eq_true rfl, Nat.le_of_ble_eq_true rfl⟩) hK hP hD (hP.sub (ws' := frW (a.2.2.1 0) (wanted 0)) [2] rfl) (hD.sub (ws' := lnW y a.2.2.2.2.1 line ++ frW (a.2.2.1 0) (wanted 0)) [7, 8, 9, 2] (by decide) rfl) (va_recv hK.1 hP (ci := 1) (q0 := 7) rfl rfl) hS hA rfl hl.1 rfl (Nat.le_of_ble_eq_true rfl) dX2_startSending_43 ⟨Nat.zero_le _, Nat.zero_le _⟩ (fun u5 H locs hf hP hD hS => ?_)
        have hP : va_P (dC, dI) vwCl (ndW y a (on, 3, wants, sndC, rcvC, nSent, nRcvd, lastF, found, 0, 0, wanted, lastR, u5, reader)) H := hP
        have hD : va_D A (ndW y a (on, 3, wants, sndC, rcvC, nSent, nRcvd, lastF, found, 0, 0, wanted, lastR, u5, reader)) := hD
        refine lv_aload_n hx hb dX2_startSending_46 rfl (lv_at hl 1 rfl) ?_
        refine va_get (D := (dC, dI)) (ci := 2) (v := .ref a.2.2.2.2.2.1) (C := RX2) (T := TX2) (N := 15) hx hb hts hinX2 hown hK.1 hP 0 rfl rfl 3 (by decide) w32 (fun _ h9 => h9) rfl dX2_startSending_47 ?_
        refine kVv (As := []) (rest := []) (pre := (ndW y a (on, 3, wants, sndC, rcvC, nSent, nRcvd, lastF, found, 0, 0, wanted, lastR, u5, reader)).take 10) (post := (ndW y a (on, 3, wants, sndC, rcvC, nSent, nRcvd, lastF, found, 0, 0, wanted, lastR, u5, reader)).drop 12) ⟨hx, hb, hml, hown, hts⟩ (c_X3_begin l dC dI y a.2.2.2.2.2 H.size reader _ hf) (cwV 0 hts gX2_startSending_X3_begin rfl rfl rfl (by decide +kernel) ⟨Nat.le_of_ble_eq_true rfl, Nat.le_of_ble_eq_true rfl⟩) hK hP hD (va_recv hK.1 hP (ci := 3) (q0 := 10) rfl rfl) hS hA rfl hl.1 rfl (Nat.le_of_ble_eq_true rfl) dX2_startSending_50 ⟨Nat.zero_le _, Nat.zero_le _⟩ (fun u6 H locs hf hP hD hS => ?_)
        have hP : va_P (dC, dI) vwCl (ndW y a (on, 3, wants, sndC, rcvC, nSent, nRcvd, lastF, found, 0, 0, wanted, lastR, u5, u6)) H := hP
        have hD : va_D A (ndW y a (on, 3, wants, sndC, rcvC, nSent, nRcvd, lastF, found, 0, 0, wanted, lastR, u5, u6)) := hD
        exact W.vret hx hb hr (fun t ht hW => ⟨⟨(on, 3, wants, sndC, rcvC, nSent, nRcvd, lastF, found, 0, 0, wanted, lastR, u5, u6), rfl, hf, by rw [ht]; exact hP, hD⟩, hS.F ht⟩) hS.2.2 dX2_startSending_53
      · replace hf := hf1 e9
        subst e9
        refine ar_qld (j := 1) hx hb hK.1 hP 1 3 rfl rfl (clamp_lit 1 rfl) (vin_lit 1 4 rfl rfl) dX2_startSending_42 ?_
        refine kVvR (As := [.ref (a.2.2.1 1)]) (rest := []) (pre := (ndW y a (on, 3, wants, sndC, rcvC, nSent, nRcvd, lastF, found, 1, 0, wanted, lastR, line, reader)).take 7) (post := (ndW y a (on, 3, wants, sndC, rcvC, nSent, nRcvd, lastF, found, 1, 0, wanted, lastR, line, reader)).drop 10) ⟨hx, hb, hml, hown, hts⟩ (c_X1_write l dC dI y a.2.2.2.2.1 H.size line (a.2.2.1 1) (wanted 1) _ hf) (cwV 1 hts gX2_startSending_X1_write rfl rfl rfl (by decide +kernel) ⟨Nat.le_of_ble_eq_true rfl, Nat.le_of_ble_eq_true rfl⟩) hK hP hD (hP.sub (ws' := frW (a.2.2.1 1) (wanted 1)) [3] rfl) (hD.sub (ws' := lnW y a.2.2.2.2.1 line ++ frW (a.2.2.1 1) (wanted 1)) [7, 8, 9, 3] (by decide) rfl) (va_recv hK.1 hP (ci := 1) (q0 := 7) rfl rfl) hS hA rfl hl.1 rfl (Nat.le_of_ble_eq_true rfl) dX2_startSending_43 ⟨Nat.zero_le _, Nat.zero_le _⟩ (fun u7 H locs hf hP hD hS => ?_)
        have hP : va_P (dC, dI) vwCl (ndW y a (on, 3, wants, sndC, rcvC, nSent, nRcvd, lastF, found, 1, 0, wanted, lastR, u7, reader)) H := hP
        have hD : va_D A (ndW y a (on, 3, wants, sndC, rcvC, nSent, nRcvd, lastF, found, 1, 0, wanted, lastR, u7, reader)) := hD
        refine lv_aload_n hx hb dX2_startSending_46 rfl (lv_at hl 1 rfl) ?_
        refine va_get (D := (dC, dI)) (ci := 2) (v := .ref a.2.2.2.2.2.1) (C := RX2) (T := TX2) (N := 15) hx hb hts hinX2 hown hK.1 hP 0 rfl rfl 3 (by decide) w32 (fun _ h9 => h9) rfl dX2_startSending_47 ?_
        refine kVv (As := []) (rest := []) (pre := (ndW y a (on, 3, wants, sndC, rcvC, nSent, nRcvd, lastF, found, 1, 0, wanted, lastR, u7, reader)).take 10) (post := (ndW y a (on, 3, wants, sndC, rcvC, nSent, nRcvd, lastF, found, 1, 0, wanted, lastR, u7, reader)).drop 12) ⟨hx, hb, hml, hown, hts⟩ (c_X3_begin l dC dI y a.2.2.2.2.2 H.size reader _ hf) (cwV 0 hts gX2_startSending_X3_begin rfl rfl rfl (by decide +kernel) ⟨Nat.le_of_ble_eq_true rfl, Nat.le_of_ble_eq_true rfl⟩) hK hP hD (va_recv hK.1 hP (ci := 3) (q0 := 10) rfl rfl) hS hA rfl hl.1 rfl (Nat.le_of_ble_eq_true rfl) dX2_startSending_50 ⟨Nat.zero_le _, Nat.zero_le _⟩ (fun u8 H locs hf hP hD hS => ?_)
        have hP : va_P (dC, dI) vwCl (ndW y a (on, 3, wants, sndC, rcvC, nSent, nRcvd, lastF, found, 1, 0, wanted, lastR, u7, u8)) H := hP
        have hD : va_D A (ndW y a (on, 3, wants, sndC, rcvC, nSent, nRcvd, lastF, found, 1, 0, wanted, lastR, u7, u8)) := hD
        exact W.vret hx hb hr (fun t ht hW => ⟨⟨(on, 3, wants, sndC, rcvC, nSent, nRcvd, lastF, found, 1, 0, wanted, lastR, u7, u8), rfl, hf, by rw [ht]; exact hP, hD⟩, hS.F ht⟩) hS.2.2 dX2_startSending_53
      · replace hf := hf2 e9
        subst e9
        refine ar_qld (j := 2) hx hb hK.1 hP 1 3 rfl rfl (clamp_lit 2 rfl) (vin_lit 2 4 rfl rfl) dX2_startSending_42 ?_
        refine kVvR (As := [.ref (a.2.2.1 2)]) (rest := []) (pre := (ndW y a (on, 3, wants, sndC, rcvC, nSent, nRcvd, lastF, found, 2, 0, wanted, lastR, line, reader)).take 7) (post := (ndW y a (on, 3, wants, sndC, rcvC, nSent, nRcvd, lastF, found, 2, 0, wanted, lastR, line, reader)).drop 10) ⟨hx, hb, hml, hown, hts⟩ (c_X1_write l dC dI y a.2.2.2.2.1 H.size line (a.2.2.1 2) (wanted 2) _ hf) (cwV 1 hts gX2_startSending_X1_write rfl rfl rfl (by decide +kernel) ⟨Nat.le_of_ble_eq_true rfl, Nat.le_of_ble_eq_true rfl⟩) hK hP hD (hP.sub (ws' := frW (a.2.2.1 2) (wanted 2)) [4] rfl) (hD.sub (ws' := lnW y a.2.2.2.2.1 line ++ frW (a.2.2.1 2) (wanted 2)) [7, 8, 9, 4] (by decide) rfl) (va_recv hK.1 hP (ci := 1) (q0 := 7) rfl rfl) hS hA rfl hl.1 rfl (Nat.le_of_ble_eq_true rfl) dX2_startSending_43 ⟨Nat.zero_le _, Nat.zero_le _⟩ (fun u9 H locs hf hP hD hS => ?_)
        have hP : va_P (dC, dI) vwCl (ndW y a (on, 3, wants, sndC, rcvC, nSent, nRcvd, lastF, found, 2, 0, wanted, lastR, u9, reader)) H := hP
        have hD : va_D A (ndW y a (on, 3, wants, sndC, rcvC, nSent, nRcvd, lastF, found, 2, 0, wanted, lastR, u9, reader)) := hD
        refine lv_aload_n hx hb dX2_startSending_46 rfl (lv_at hl 1 rfl) ?_
        refine va_get (D := (dC, dI)) (ci := 2) (v := .ref a.2.2.2.2.2.1) (C := RX2) (T := TX2) (N := 15) hx hb hts hinX2 hown hK.1 hP 0 rfl rfl 3 (by decide) w32 (fun _ h9 => h9) rfl dX2_startSending_47 ?_
        refine kVv (As := []) (rest := []) (pre := (ndW y a (on, 3, wants, sndC, rcvC, nSent, nRcvd, lastF, found, 2, 0, wanted, lastR, u9, reader)).take 10) (post := (ndW y a (on, 3, wants, sndC, rcvC, nSent, nRcvd, lastF, found, 2, 0, wanted, lastR, u9, reader)).drop 12) ⟨hx, hb, hml, hown, hts⟩ (c_X3_begin l dC dI y a.2.2.2.2.2 H.size reader _ hf) (cwV 0 hts gX2_startSending_X3_begin rfl rfl rfl (by decide +kernel) ⟨Nat.le_of_ble_eq_true rfl, Nat.le_of_ble_eq_true rfl⟩) hK hP hD (va_recv hK.1 hP (ci := 3) (q0 := 10) rfl rfl) hS hA rfl hl.1 rfl (Nat.le_of_ble_eq_true rfl) dX2_startSending_50 ⟨Nat.zero_le _, Nat.zero_le _⟩ (fun u10 H locs hf hP hD hS => ?_)
        have hP : va_P (dC, dI) vwCl (ndW y a (on, 3, wants, sndC, rcvC, nSent, nRcvd, lastF, found, 2, 0, wanted, lastR, u9, u10)) H := hP
        have hD : va_D A (ndW y a (on, 3, wants, sndC, rcvC, nSent, nRcvd, lastF, found, 2, 0, wanted, lastR, u9, u10)) := hD
        exact W.vret hx hb hr (fun t ht hW => ⟨⟨(on, 3, wants, sndC, rcvC, nSent, nRcvd, lastF, found, 2, 0, wanted, lastR, u9, u10), rfl, hf, by rw [ht]; exact hP, hD⟩, hS.F ht⟩) hS.2.2 dX2_startSending_53
      · replace hf := hf3 e9
        subst e9
        refine ar_qld (j := 3) hx hb hK.1 hP 1 3 rfl rfl (clamp_lit 3 rfl) (vin_lit 3 4 rfl rfl) dX2_startSending_42 ?_
        refine kVvR (As := [.ref (a.2.2.1 3)]) (rest := []) (pre := (ndW y a (on, 3, wants, sndC, rcvC, nSent, nRcvd, lastF, found, 3, 0, wanted, lastR, line, reader)).take 7) (post := (ndW y a (on, 3, wants, sndC, rcvC, nSent, nRcvd, lastF, found, 3, 0, wanted, lastR, line, reader)).drop 10) ⟨hx, hb, hml, hown, hts⟩ (c_X1_write l dC dI y a.2.2.2.2.1 H.size line (a.2.2.1 3) (wanted 3) _ hf) (cwV 1 hts gX2_startSending_X1_write rfl rfl rfl (by decide +kernel) ⟨Nat.le_of_ble_eq_true rfl, Nat.le_of_ble_eq_true rfl⟩) hK hP hD (hP.sub (ws' := frW (a.2.2.1 3) (wanted 3)) [5] rfl) (hD.sub (ws' := lnW y a.2.2.2.2.1 line ++ frW (a.2.2.1 3) (wanted 3)) [7, 8, 9, 5] (by decide) rfl) (va_recv hK.1 hP (ci := 1) (q0 := 7) rfl rfl) hS hA rfl hl.1 rfl (Nat.le_of_ble_eq_true rfl) dX2_startSending_43 ⟨Nat.zero_le _, Nat.zero_le _⟩ (fun u11 H locs hf hP hD hS => ?_)
        have hP : va_P (dC, dI) vwCl (ndW y a (on, 3, wants, sndC, rcvC, nSent, nRcvd, lastF, found, 3, 0, wanted, lastR, u11, reader)) H := hP
        have hD : va_D A (ndW y a (on, 3, wants, sndC, rcvC, nSent, nRcvd, lastF, found, 3, 0, wanted, lastR, u11, reader)) := hD
        refine lv_aload_n hx hb dX2_startSending_46 rfl (lv_at hl 1 rfl) ?_
        refine va_get (D := (dC, dI)) (ci := 2) (v := .ref a.2.2.2.2.2.1) (C := RX2) (T := TX2) (N := 15) hx hb hts hinX2 hown hK.1 hP 0 rfl rfl 3 (by decide) w32 (fun _ h9 => h9) rfl dX2_startSending_47 ?_
        refine kVv (As := []) (rest := []) (pre := (ndW y a (on, 3, wants, sndC, rcvC, nSent, nRcvd, lastF, found, 3, 0, wanted, lastR, u11, reader)).take 10) (post := (ndW y a (on, 3, wants, sndC, rcvC, nSent, nRcvd, lastF, found, 3, 0, wanted, lastR, u11, reader)).drop 12) ⟨hx, hb, hml, hown, hts⟩ (c_X3_begin l dC dI y a.2.2.2.2.2 H.size reader _ hf) (cwV 0 hts gX2_startSending_X3_begin rfl rfl rfl (by decide +kernel) ⟨Nat.le_of_ble_eq_true rfl, Nat.le_of_ble_eq_true rfl⟩) hK hP hD (va_recv hK.1 hP (ci := 3) (q0 := 10) rfl rfl) hS hA rfl hl.1 rfl (Nat.le_of_ble_eq_true rfl) dX2_startSending_50 ⟨Nat.zero_le _, Nat.zero_le _⟩ (fun u12 H locs hf hP hD hS => ?_)
        have hP : va_P (dC, dI) vwCl (ndW y a (on, 3, wants, sndC, rcvC, nSent, nRcvd, lastF, found, 3, 0, wanted, lastR, u11, u12)) H := hP
        have hD : va_D A (ndW y a (on, 3, wants, sndC, rcvC, nSent, nRcvd, lastF, found, 3, 0, wanted, lastR, u11, u12)) := hD
        exact W.vret hx hb hr (fun t ht hW => ⟨⟨(on, 3, wants, sndC, rcvC, nSent, nRcvd, lastF, found, 3, 0, wanted, lastR, u11, u12), rfl, hf, by rw [ht]; exact hP, hD⟩, hS.F ht⟩) hS.2.2 dX2_startSending_53
    · replace hf := hf.2 c4
      exact W.vret hx hb hr (fun t ht hW => ⟨⟨(on, role, wants, sndC, rcvC, nSent, nRcvd, lastF, found, sending, next, wanted, lastR, line, reader), rfl, hf, by rw [ht]; exact hP, hD⟩, hS.F ht⟩) hS.2.2 dX2_startSending_17

def wp_X2_bitToSend_42 (K : Int32 → Prop) : NodeS → Prop := fun (on, role, wants, sndC, rcvC, nSent, nRcvd, lastF, found, sending, next, wanted, lastR, line, reader) => K 1
def wp_X2_bitToSend : NodeS → (Int32 → Prop) → Prop := fun (on, role, wants, sndC, rcvC, nSent, nRcvd, lastF, found, sending, next, wanted, lastR, line, reader) K => ((¬ role = 3 → ((¬ role = 2 → wp_X2_bitToSend_42 K (on, role, wants, sndC, rcvC, nSent, nRcvd, lastF, found, sending, next, wanted, lastR, line, reader)) ∧ (role = 2 → wp_X3_givesAnswer reader (fun r3 => ((r3 = 0 → wp_X2_bitToSend_42 K (on, role, wants, sndC, rcvC, nSent, nRcvd, lastF, found, sending, next, wanted, lastR, line, reader)) ∧ (¬ r3 = 0 → K 0)))))) ∧ (role = 3 → wp_X1_bitAt line next (fun r6 => K r6)))
set_option maxHeartbeats 4000000 in
set_option maxRecDepth 100000 in
theorem j_X2_bitToSend_42 {p : Program} {l : Launch} {e : Env} {s : State} {m : MethodId} {args : Array Value} {below : List Frame} {meth : Method} {c : Code} {dC : Nat → ClassId} {dI : Nat → Nat → Nat} {y : Nat → ClassId} {A : Nat → Prop} (C0 : Cx p s m args meth c cX2_bitToSend 1 (some .int) wsX2_bitToSend RX2 A dC dI y) (a : NodeA) (K : Int32 → Prop) (S0 : NodeS) : ∀ (S : NodeS) (H : Heap) (locs : List Loc) (ls : Array Slot), va_P (dC, dI) vwCl (ndW y a S) H → va_D A (ndW y a S) → va_S A s.heap H locs → lv_has ls 1 [] → S = S0 → wp_X2_bitToSend_42 K S → W p l e ({ frames := 2, cells := 0, slots := 0, locals := 40 } : Room) s m args below meth c H locs 0 0 (MQ below (va_Qi (fun r u => K r ∧ u = S0) (BW dC dI A (fun u => ndW y a u)) A) args s 0 0 A) (F0 m 42 ls []) := by
  obtain ⟨hx, hb, hr, hml, hown, hts, hlocks, hA, hK⟩ := id C0
  intro S H locs ls hP hD hS hl hSS hf
  obtain ⟨on, role, wants, sndC, rcvC, nSent, nRcvd, lastF, found, sending, next, wanted, lastR, line, reader⟩ := S
  unfold wp_X2_bitToSend_42 at hf
  refine lv_iconst (v := 1) hx hb dX2_bitToSend_42 (by decide) ?_
  exact W.iret (v := 1) hx hb hr (fun t ht hW => ⟨⟨1, (on, role, wants, sndC, rcvC, nSent, nRcvd, lastF, found, sending, next, wanted, lastR, line, reader), rfl, ⟨hf, hSS⟩, by rw [ht]; exact hP, hD⟩, hS.F ht⟩) hS.2.2 dX2_bitToSend_43
set_option maxHeartbeats 4000000 in
set_option maxRecDepth 100000 in
theorem c_X2_bitToSend (l : Launch) (dC : Nat → ClassId) (dI : Nat → Nat → Nat) (y : Nat → ClassId) (a : NodeA) (sz : Nat) (S : NodeS) (K : Int32 → Prop) (hf : wp_X2_bitToSend S K) : MI l yX2_bitToSend wsX2_bitToSend { frames := 2, cells := 0, slots := 0, locals := 40 } dC dI y [.ref a.1] (ndW y a S) sz (fun u => ndW y a u) (fun r u => K r ∧ u = S) := by
  refine Met.ofW (cc := cX2_bitToSend) (maxL := 1) (ret := (some .int)) (by decide) rfl ?_
  intro p e s m args below meth c s₁ B hml hv
  obtain ⟨rfl, hsz, hP, hK, hD0⟩ := hv
  have hx := B.exec
  have hb := B.bytes
  have hr := B.returns
  have hts := atoms_spec (ws := wsX2_bitToSend) B.pre
  have hown : s.vm.findClass RX2 = some m.cls := findClass_of_methodNamed B.named
  have hlocks := B.notSynchronized
  subst hsz
  have hD := hD0.self (sz := s.heap.size)
  generalize hAe : va_A (ndW y a S) s.heap.size = A at hD ⊢
  have hA : ∀ q : Nat, s.heap.size ≤ q → A q := fun q h => by rw [← hAe]; exact Or.inr h
  have hS : va_S A s.heap s.heap [] := va_S.rf
  have C0 : Cx p s m [.ref a.1].toArray meth c cX2_bitToSend 1 (some .int) wsX2_bitToSend RX2 A dC dI y := ⟨hx, hb, hr, hml, hown, hts, hlocks, hA, hK⟩
  have w25 := hts (Cond.fieldLink RX2 25 "SharedWire$Node" "line" "LSharedWire$Line;") (List.mem_of_getElem? (i := 2) rfl)
  have w32 := hts (Cond.fieldLink RX2 32 "SharedWire$Node" "reader" "LSharedWire$Reader;") (List.mem_of_getElem? (i := 4) rfl)
  have w40 := hts (Cond.fieldLink RX2 40 "SharedWire$Node" "role" "I") (List.mem_of_getElem? (i := 1) rfl)
  have w68 := hts (Cond.fieldLink RX2 68 "SharedWire$Node" "next" "I") (List.mem_of_getElem? (i := 3) rfl)
  have hinX2 : ∀ w ∈ wsX20, w ∈ wsX2_bitToSend := fun w h => List.mem_cons_of_mem _ (List.mem_append_left _ (List.mem_append_left _ (List.mem_append_right _ (h))))
  have hl := lv_entry ([.ref a.1]) (n := 1) (Nat.le_of_ble_eq_true rfl)
  rw [lg_entry_eq]
  generalize (lg_sl ([.ref a.1]) ++ List.replicate (1 - (lg_sl ([.ref a.1])).length) Slot.unset).toArray = ls at hl ⊢
  have hl : lv_has ls 1 [(0, .ref a.1)] := hl
  obtain ⟨on, role, wants, sndC, rcvC, nSent, nRcvd, lastF, found, sending, next, wanted, lastR, line, reader⟩ := S
  have hSS : (on, role, wants, sndC, rcvC, nSent, nRcvd, lastF, found, sending, next, wanted, lastR, line, reader) = (on, role, wants, sndC, rcvC, nSent, nRcvd, lastF, found, sending, next, wanted, lastR, line, reader) := rfl
  clear hAe hD0
  generalize hL0 : ([] : List Loc) = locs at hS ⊢
  unfold wp_X2_bitToSend at hf
  refine lv_aload_n hx hb dX2_bitToSend_0 rfl (lv_at hl 0 rfl) ?_
  refine va_get (D := (dC, dI)) (ci := 2) (v := .int role) (C := RX2) (T := TX2) (N := 15) hx hb hts hinX2 hown hK.1 hP 0 rfl rfl 5 (by decide) w40 (fun _ h9 => h9) rfl dX2_bitToSend_1 ?_
  refine lv_iconst (v := 3) hx hb dX2_bitToSend_4 (by decide) ?_
  refine lv_icmp_ne (tgt := 20) hx hb dX2_bitToSend_5 (by decide) (fun c1 => ?_) (fun c1 => ?_)
  · replace hf := hf.1 c1
    refine lv_aload_n hx hb dX2_bitToSend_20 rfl (lv_at hl 0 rfl) ?_
    refine va_get (D := (dC, dI)) (ci := 2) (v := .int role) (C := RX2) (T := TX2) (N := 15) hx hb hts hinX2 hown hK.1 hP 0 rfl rfl 5 (by decide) w40 (fun _ h9 => h9) rfl dX2_bitToSend_21 ?_
    refine lv_iconst (v := 2) hx hb dX2_bitToSend_24 (by decide) ?_
    refine lv_icmp_ne (tgt := 42) hx hb dX2_bitToSend_25 (by decide) (fun c2 => ?_) (fun c2 => ?_)
    · replace hf := hf.1 c2
      exact j_X2_bitToSend_42 C0 a K _ (on, role, wants, sndC, rcvC, nSent, nRcvd, lastF, found, sending, next, wanted, lastR, line, reader) s.heap locs ls hP hD hS (lv_sub hl [] rfl) hSS hf
    · replace hf := hf.2 c2
      refine lv_aload_n hx hb dX2_bitToSend_28 rfl (lv_at hl 0 rfl) ?_
      refine va_get (D := (dC, dI)) (ci := 2) (v := .ref a.2.2.2.2.2.1) (C := RX2) (T := TX2) (N := 15) hx hb hts hinX2 hown hK.1 hP 0 rfl rfl 3 (by decide) w32 (fun _ h9 => h9) rfl dX2_bitToSend_29 ?_
      refine kVi (As := []) (rest := []) (pre := (ndW y a (on, role, wants, sndC, rcvC, nSent, nRcvd, lastF, found, sending, next, wanted, lastR, line, reader)).take 10) (post := (ndW y a (on, role, wants, sndC, rcvC, nSent, nRcvd, lastF, found, sending, next, wanted, lastR, line, reader)).drop 12) ⟨hx, hb, hml, hown, hts⟩ (c_X3_givesAnswer l dC dI y a.2.2.2.2.2 s.heap.size reader _ hf) (cwV 0 hts gX2_bitToSend_X3_givesAnswer rfl rfl rfl (by decide +kernel) ⟨Nat.le_of_ble_eq_true rfl, Nat.le_of_ble_eq_true rfl⟩) hK hP hD (va_recv hK.1 hP (ci := 3) (q0 := 10) rfl rfl) hS hA rfl hl.1 rfl (Nat.le_of_ble_eq_true rfl) dX2_bitToSend_32 ⟨Nat.zero_le _, Nat.zero_le _⟩ (fun r3 u4 H locs hf hP hD hS => ?_)
      obtain ⟨hf, e9⟩ := hf
      have e9 := e9.symm
      subst e9
      have hP : va_P (dC, dI) vwCl (ndW y a (on, role, wants, sndC, rcvC, nSent, nRcvd, lastF, found, sending, next, wanted, lastR, line, reader)) H := hP
      have hD : va_D A (ndW y a (on, role, wants, sndC, rcvC, nSent, nRcvd, lastF, found, sending, next, wanted, lastR, line, reader)) := hD
      refine lv_if_eq (tgt := 42) hx hb dX2_bitToSend_35 (by decide) (fun c5 => ?_) (fun c5 => ?_)
      · replace hf := hf.1 c5
        exact j_X2_bitToSend_42 C0 a K _ (on, role, wants, sndC, rcvC, nSent, nRcvd, lastF, found, sending, next, wanted, lastR, line, reader) H locs ls hP hD hS (lv_sub hl [] rfl) hSS hf
      · replace hf := hf.2 c5
        refine lv_iconst (v := 0) hx hb dX2_bitToSend_38 (by decide) ?_
        refine lv_goto (tgt := 43) hx hb dX2_bitToSend_39 (by decide) ?_
        exact W.iret (v := 0) hx hb hr (fun t ht hW => ⟨⟨0, (on, role, wants, sndC, rcvC, nSent, nRcvd, lastF, found, sending, next, wanted, lastR, line, reader), rfl, ⟨hf, hSS⟩, by rw [ht]; exact hP, hD⟩, hS.F ht⟩) hS.2.2 dX2_bitToSend_43
  · replace hf := hf.2 c1
    refine lv_aload_n hx hb dX2_bitToSend_8 rfl (lv_at hl 0 rfl) ?_
    refine va_get (D := (dC, dI)) (ci := 2) (v := .ref a.2.2.2.2.1.1) (C := RX2) (T := TX2) (N := 15) hx hb hts hinX2 hown hK.1 hP 0 rfl rfl 2 (by decide) w25 (fun _ h9 => h9) rfl dX2_bitToSend_9 ?_
    refine lv_aload_n hx hb dX2_bitToSend_12 rfl (lv_at hl 0 rfl) ?_
    refine va_get (D := (dC, dI)) (ci := 2) (v := .int next) (C := RX2) (T := TX2) (N := 15) hx hb hts hinX2 hown hK.1 hP 0 rfl rfl 14 (by decide) w68 (fun _ h9 => h9) rfl dX2_bitToSend_13 ?_
    refine kVi (As := [.int next]) (rest := []) (pre := (ndW y a (on, role, wants, sndC, rcvC, nSent, nRcvd, lastF, found, sending, next, wanted, lastR, line, reader)).take 7) (post := (ndW y a (on, role, wants, sndC, rcvC, nSent, nRcvd, lastF, found, sending, next, wanted, lastR, line, reader)).drop 10) ⟨hx, hb, hml, hown, hts⟩ (c_X1_bitAt l dC dI y a.2.2.2.2.1 s.heap.size line next _ hf) (cwV 1 hts gX2_bitToSend_X1_bitAt rfl rfl rfl (by decide +kernel) ⟨Nat.le_of_ble_eq_true rfl, Nat.le_of_ble_eq_true rfl⟩) hK hP hD (va_recv hK.1 hP (ci := 1) (q0 := 7) rfl rfl) hS hA rfl hl.1 rfl (Nat.le_of_ble_eq_true rfl) dX2_bitToSend_16 ⟨Nat.zero_le _, Nat.zero_le _⟩ (fun r6 u7 H locs hf hP hD hS => ?_)
    obtain ⟨hf, e9⟩ := hf
    have e9 := e9.symm
    subst e9
    have hP : va_P (dC, dI) vwCl (ndW y a (on, role, wants, sndC, rcvC, nSent, nRcvd, lastF, found, sending, next, wanted, lastR, line, reader)) H := hP
    have hD : va_D A (ndW y a (on, role, wants, sndC, rcvC, nSent, nRcvd, lastF, found, sending, next, wanted, lastR, line, reader)) := hD
    exact W.iret (v := r6) hx hb hr (fun t ht hW => ⟨⟨r6, (on, role, wants, sndC, rcvC, nSent, nRcvd, lastF, found, sending, next, wanted, lastR, line, reader), rfl, ⟨hf, hSS⟩, by rw [ht]; exact hP, hD⟩, hS.F ht⟩) hS.2.2 dX2_bitToSend_19

def wp_X2_lookAsSender_48 (K : NodeS → Prop) : NodeS → Prop := fun (on, role, wants, sndC, rcvC, nSent, nRcvd, lastF, found, sending, next, wanted, lastR, line, reader) => K (on, role, wants, sndC, rcvC, nSent, nRcvd, lastF, found, sending, next + 1, wanted, lastR, line, reader)
def wp_X2_lookAsSender_29 (K : NodeS → Prop) : NodeS → Int32 → Int32 → Prop := fun (on, role, wants, sndC, rcvC, nSent, nRcvd, lastF, found, sending, next, wanted, lastR, line, reader) v1 v2 => ((¬ v2 = 0 → wp_X2_lookAsSender_48 K (on, role, wants, sndC, rcvC, nSent, nRcvd, lastF, found, sending, next, wanted, lastR, line, reader)) ∧ (v2 = 0 → wp_X1_bitAt line next (fun r5 => ((¬ v1 = r5 → wp_X1_mayLose line next (fun r8 => ((r8 = 0 → K (on, role, wants, sndC, rcvC, nSent, nRcvd, lastF, 4, sending, next, wanted, lastR, line, reader)) ∧ (¬ r8 = 0 → K (on, 2, wants, sndC, rcvC, nSent, nRcvd, lastF, found, sending, next, wanted, lastR, line, reader))))) ∧ (v1 = r5 → wp_X2_lookAsSender_48 K (on, role, wants, sndC, rcvC, nSent, nRcvd, lastF, found, sending, next, wanted, lastR, line, reader))))))
def wp_X2_lookAsSender : NodeS → Int32 → (NodeS → Prop) → Prop := fun (on, role, wants, sndC, rcvC, nSent, nRcvd, lastF, found, sending, next, wanted, lastR, line, reader) p0 K => wp_X1_isAnswer line next (fun r1 => ((r1 = 0 → wp_X2_lookAsSender_29 K (on, role, wants, sndC, rcvC, nSent, nRcvd, lastF, found, sending, next, wanted, lastR, line, reader) p0 r1) ∧ (¬ r1 = 0 → ((¬ p0 = 1 → wp_X2_lookAsSender_29 K (on, role, wants, sndC, rcvC, nSent, nRcvd, lastF, found, sending, next, wanted, lastR, line, reader) p0 r1) ∧ (p0 = 1 → K (on, role, wants, sndC, rcvC, nSent, nRcvd, lastF, 5, sending, next, wanted, lastR, line, reader))))))
set_option maxHeartbeats 4000000 in
set_option maxRecDepth 100000 in
theorem j_X2_lookAsSender_48 {p : Program} {l : Launch} {e : Env} {s : State} {m : MethodId} {args : Array Value} {below : List Frame} {meth : Method} {c : Code} {dC : Nat → ClassId} {dI : Nat → Nat → Nat} {y : Nat → ClassId} {A : Nat → Prop} (C0 : Cx p s m args meth c cX2_lookAsSender 3 none wsX2_lookAsSender RX2 A dC dI y) (a : NodeA) (K : NodeS → Prop) : ∀ (S : NodeS) (H : Heap) (locs : List Loc) (ls : Array Slot), va_P (dC, dI) vwCl (ndW y a S) H → va_D A (ndW y a S) → va_S A s.heap H locs → lv_has ls 3 [(0, .ref a.1)] → wp_X2_lookAsSender_48 K S → W p l e ({ frames := 1, cells := 0, slots := 0, locals := 21 } : Room) s m args below meth c H locs 0 0 (MQ below (va_Qv K (BW dC dI A (fun u => ndW y a u)) A) args s 0 0 A) (F0 m 48 ls []) := by
  obtain ⟨hx, hb, hr, hml, hown, hts, hlocks, hA, hK⟩ := id C0
  have w68 := hts (.fieldLink RX2 68 "SharedWire$Node" "next" "I") (List.mem_of_getElem? (i := 2) rfl)
  have hinX2 : ∀ w ∈ wsX20, w ∈ wsX2_lookAsSender := fun w h => List.mem_cons_of_mem _ (List.mem_append_left _ (List.mem_append_right _ (h)))
  intro S H locs ls hP hD hS hl hf
  obtain ⟨on, role, wants, sndC, rcvC, nSent, nRcvd, lastF, found, sending, next, wanted, lastR, line, reader⟩ := S
  unfold wp_X2_lookAsSender_48 at hf
  refine lv_aload_n hx hb dX2_lookAsSender_48 rfl (lv_at hl 0 rfl) ?_
  refine lv_dup hx hb dX2_lookAsSender_49 rfl ?_
  refine va_get (D := (dC, dI)) (ci := 2) (v := .int next) (C := RX2) (T := TX2) (N := 15) hx hb hts hinX2 hown hK.1 hP 0 rfl rfl 14 (by decide) w68 (fun _ h9 => h9) rfl dX2_lookAsSender_50 ?_
  refine lv_iconst (v := 1) hx hb dX2_lookAsSender_53 (by decide) ?_
  refine lv_iadd hx hb dX2_lookAsSender_54 ?_
  refine va_put (D := (dC, dI)) (ci := 2) (v := .int (next + 1)) (ty := .int) (C := RX2) (T := TX2) (N := 15) hx hb hts hinX2 tyX2 tyX2_ok nmX2 hown hK.1 hP hD hS 0 rfl rfl 14 (by decide) w68 (fun _ h9 => h9) rfl (by decide +kernel) rfl rfl (Nat.le_of_ble_eq_true rfl) dX2_lookAsSender_55 (fun H locs hP hD hS => ?_)
  have hP : va_P (dC, dI) vwCl (ndW y a (on, role, wants, sndC, rcvC, nSent, nRcvd, lastF, found, sending, next + 1, wanted, lastR, line, reader)) H := hP
  have hD : va_D A (ndW y a (on, role, wants, sndC, rcvC, nSent, nRcvd, lastF, found, sending, next + 1, wanted, lastR, line, reader)) := hD
  refine lv_goto (tgt := 88) hx hb dX2_lookAsSender_58 (by decide) ?_
  exact W.vret hx hb hr (fun t ht hW => ⟨⟨(on, role, wants, sndC, rcvC, nSent, nRcvd, lastF, found, sending, next + 1, wanted, lastR, line, reader), rfl, hf, by rw [ht]; exact hP, hD⟩, hS.F ht⟩) hS.2.2 dX2_lookAsSender_88
set_option maxHeartbeats 4000000 in
set_option maxRecDepth 100000 in
theorem j_X2_lookAsSender_29 {p : Program} {l : Launch} {e : Env} {s : State} {m : MethodId} {args : Array Value} {below : List Frame} {meth : Method} {c : Code} {dC : Nat → ClassId} {dI : Nat → Nat → Nat} {y : Nat → ClassId} {A : Nat → Prop} (C0 : Cx p s m args meth c cX2_lookAsSender 3 none wsX2_lookAsSender RX2 A dC dI y) (a : NodeA) (K : NodeS → Prop) : ∀ (S : NodeS) (v1 : Int32) (v2 : Int32) (H : Heap) (locs : List Loc) (ls : Array Slot), va_P (dC, dI) vwCl (ndW y a S) H → va_D A (ndW y a S) → va_S A s.heap H locs → lv_has ls 3 [(0, .ref a.1), (1, .int v1), (2, .int v2)] → wp_X2_lookAsSender_29 K S v1 v2 → W p l e ({ frames := 1, cells := 0, slots := 0, locals := 21 } : Room) s m args below meth c H locs 0 0 (MQ below (va_Qv K (BW dC dI A (fun u => ndW y a u)) A) args s 0 0 A) (F0 m 29 ls []) := by
  obtain ⟨hx, hb, hr, hml, hown, hts, hlocks, hA, hK⟩ := id C0
  have w25 := hts (.fieldLink RX2 25 "SharedWire$Node" "line" "LSharedWire$Line;") (List.mem_of_getElem? (i := 1) rfl)
  have w40 := hts (.fieldLink RX2 40 "SharedWire$Node" "role" "I") (List.mem_of_getElem? (i := 4) rfl)
  have w62 := hts (.fieldLink RX2 62 "SharedWire$Node" "found" "I") (List.mem_of_getElem? (i := 3) rfl)
  have w68 := hts (.fieldLink RX2 68 "SharedWire$Node" "next" "I") (List.mem_of_getElem? (i := 2) rfl)
  have hinX2 : ∀ w ∈ wsX20, w ∈ wsX2_lookAsSender := fun w h => List.mem_cons_of_mem _ (List.mem_append_left _ (List.mem_append_right _ (h)))
  intro S v1 v2 H locs ls hP hD hS hl hf
  obtain ⟨on, role, wants, sndC, rcvC, nSent, nRcvd, lastF, found, sending, next, wanted, lastR, line, reader⟩ := S
  unfold wp_X2_lookAsSender_29 at hf
  refine lv_iload_n hx hb dX2_lookAsSender_29 rfl (lv_at hl 2 rfl) ?_
  refine lv_if_ne (tgt := 48) hx hb dX2_lookAsSender_30 (by decide) (fun c4 => ?_) (fun c4 => ?_)
  · replace hf := hf.1 c4
    exact j_X2_lookAsSender_48 C0 a K (on, role, wants, sndC, rcvC, nSent, nRcvd, lastF, found, sending, next, wanted, lastR, line, reader) H locs ls hP hD hS (lv_sub hl [0] rfl) hf
  · replace hf := hf.2 c4
    refine lv_iload_n hx hb dX2_lookAsSender_33 rfl (lv_at hl 1 rfl) ?_
    refine lv_aload_n hx hb dX2_lookAsSender_34 rfl (lv_at hl 0 rfl) ?_
    refine va_get (D := (dC, dI)) (ci := 2) (v := .ref a.2.2.2.2.1.1) (C := RX2) (T := TX2) (N := 15) hx hb hts hinX2 hown hK.1 hP 0 rfl rfl 2 (by decide) w25 (fun _ h9 => h9) rfl dX2_lookAsSender_35 ?_
    refine lv_aload_n hx hb dX2_lookAsSender_38 rfl (lv_at hl 0 rfl) ?_
    refine va_get (D := (dC, dI)) (ci := 2) (v := .int next) (C := RX2) (T := TX2) (N := 15) hx hb hts hinX2 hown hK.1 hP 0 rfl rfl 14 (by decide) w68 (fun _ h9 => h9) rfl dX2_lookAsSender_39 ?_
    refine kVi (As := [.int next]) (rest := [.int v1]) (pre := (ndW y a (on, role, wants, sndC, rcvC, nSent, nRcvd, lastF, found, sending, next, wanted, lastR, line, reader)).take 7) (post := (ndW y a (on, role, wants, sndC, rcvC, nSent, nRcvd, lastF, found, sending, next, wanted, lastR, line, reader)).drop 10) ⟨hx, hb, hml, hown, hts⟩ (c_X1_bitAt l dC dI y a.2.2.2.2.1 H.size line next _ hf) (cwV 1 hts gX2_lookAsSender_X1_bitAt rfl rfl rfl (by decide +kernel) ⟨Nat.le_of_ble_eq_true rfl, Nat.le_of_ble_eq_true rfl⟩) hK hP hD (va_recv hK.1 hP (ci := 1) (q0 := 7) rfl rfl) hS hA rfl hl.1 rfl (Nat.le_of_ble_eq_true rfl) dX2_lookAsSender_42 ⟨Nat.zero_le _, Nat.zero_le _⟩ (fun r5 u6 H locs hf hP hD hS => ?_)
    obtain ⟨hf, e9⟩ := hf
    have e9 := e9.symm
    subst e9
    have hP : va_P (dC, dI) vwCl (ndW y a (on, role, wants, sndC, rcvC, nSent, nRcvd, lastF, found, sending, next, wanted, lastR, line, reader)) H := hP
    have hD : va_D A (ndW y a (on, role, wants, sndC, rcvC, nSent, nRcvd, lastF, found, sending, next, wanted, lastR, line, reader)) := hD
    refine lv_icmp_ne (tgt := 61) hx hb dX2_lookAsSender_45 (by decide) (fun c7 => ?_) (fun c7 => ?_)
    · replace hf := hf.1 c7
      refine lv_aload_n hx hb dX2_lookAsSender_61 rfl (lv_at hl 0 rfl) ?_
      refine va_get (D := (dC, dI)) (ci := 2) (v := .ref a.2.2.2.2.1.1) (C := RX2) (T := TX2) (N := 15) hx hb hts hinX2 hown hK.1 hP 0 rfl rfl 2 (by decide) w25 (fun _ h9 => h9) rfl dX2_lookAsSender_62 ?_
      refine lv_aload_n hx hb dX2_lookAsSender_65 rfl (lv_at hl 0 rfl) ?_
      refine va_get (D := (dC, dI)) (ci := 2) (v := .int next) (C := RX2) (T := TX2) (N := 15) hx hb hts hinX2 hown hK.1 hP 0 rfl rfl 14 (by decide) w68 (fun _ h9 => h9) rfl dX2_lookAsSender_66 ?_
      refine kVi (As := [.int next]) (rest := []) (pre := (ndW y a (on, role, wants, sndC, rcvC, nSent, nRcvd, lastF, found, sending, next, wanted, lastR, line, reader)).take 7) (post := (ndW y a (on, role, wants, sndC, rcvC, nSent, nRcvd, lastF, found, sending, next, wanted, lastR, line, reader)).drop 10) ⟨hx, hb, hml, hown, hts⟩ (c_X1_mayLose l dC dI y a.2.2.2.2.1 H.size line next _ hf) (cwV 1 hts gX2_lookAsSender_X1_mayLose rfl rfl rfl (by decide +kernel) ⟨Nat.le_of_ble_eq_true rfl, Nat.le_of_ble_eq_true rfl⟩) hK hP hD (va_recv hK.1 hP (ci := 1) (q0 := 7) rfl rfl) hS hA rfl hl.1 rfl (Nat.le_of_ble_eq_true rfl) dX2_lookAsSender_69 ⟨Nat.zero_le _, Nat.zero_le _⟩ (fun r8 u9 H locs hf hP hD hS => ?_)
      obtain ⟨hf, e9⟩ := hf
      have e9 := e9.symm
      subst e9
      have hP : va_P (dC, dI) vwCl (ndW y a (on, role, wants, sndC, rcvC, nSent, nRcvd, lastF, found, sending, next, wanted, lastR, line, reader)) H := hP
      have hD : va_D A (ndW y a (on, role, wants, sndC, rcvC, nSent, nRcvd, lastF, found, sending, next, wanted, lastR, line, reader)) := hD
      refine lv_if_eq (tgt := 83) hx hb dX2_lookAsSender_72 (by decide) (fun c10 => ?_) (fun c10 => ?_)
      · replace hf := hf.1 c10
        refine lv_aload_n hx hb dX2_lookAsSender_83 rfl (lv_at hl 0 rfl) ?_
        refine lv_iconst (v := 4) hx hb dX2_lookAsSender_84 (by decide) ?_
        refine va_put (D := (dC, dI)) (ci := 2) (v := .int 4) (ty := .int) (C := RX2) (T := TX2) (N := 15) hx hb hts hinX2 tyX2 tyX2_ok nmX2 hown hK.1 hP hD hS 0 rfl rfl 12 (by decide) w62 (fun _ h9 => h9) rfl (by decide +kernel) rfl rfl (Nat.le_of_ble_eq_true rfl) dX2_lookAsSender_85 (fun H locs hP hD hS => ?_)
        have hP : va_P (dC, dI) vwCl (ndW y a (on, role, wants, sndC, rcvC, nSent, nRcvd, lastF, 4, sending, next, wanted, lastR, line, reader)) H := hP
        have hD : va_D A (ndW y a (on, role, wants, sndC, rcvC, nSent, nRcvd, lastF, 4, sending, next, wanted, lastR, line, reader)) := hD
        exact W.vret hx hb hr (fun t ht hW => ⟨⟨(on, role, wants, sndC, rcvC, nSent, nRcvd, lastF, 4, sending, next, wanted, lastR, line, reader), rfl, hf, by rw [ht]; exact hP, hD⟩, hS.F ht⟩) hS.2.2 dX2_lookAsSender_88
      · replace hf := hf.2 c10
        refine lv_aload_n hx hb dX2_lookAsSender_75 rfl (lv_at hl 0 rfl) ?_
        refine lv_iconst (v := 2) hx hb dX2_lookAsSender_76 (by decide) ?_
        refine va_put (D := (dC, dI)) (ci := 2) (v := .int 2) (ty := .int) (C := RX2) (T := TX2) (N := 15) hx hb hts hinX2 tyX2 tyX2_ok nmX2 hown hK.1 hP hD hS 0 rfl rfl 5 (by decide) w40 (fun _ h9 => h9) rfl (by decide +kernel) rfl rfl (Nat.le_of_ble_eq_true rfl) dX2_lookAsSender_77 (fun H locs hP hD hS => ?_)
        have hP : va_P (dC, dI) vwCl (ndW y a (on, 2, wants, sndC, rcvC, nSent, nRcvd, lastF, found, sending, next, wanted, lastR, line, reader)) H := hP
        have hD : va_D A (ndW y a (on, 2, wants, sndC, rcvC, nSent, nRcvd, lastF, found, sending, next, wanted, lastR, line, reader)) := hD
        refine lv_goto (tgt := 88) hx hb dX2_lookAsSender_80 (by decide) ?_
        exact W.vret hx hb hr (fun t ht hW => ⟨⟨(on, 2, wants, sndC, rcvC, nSent, nRcvd, lastF, found, sending, next, wanted, lastR, line, reader), rfl, hf, by rw [ht]; exact hP, hD⟩, hS.F ht⟩) hS.2.2 dX2_lookAsSender_88
    · replace hf := hf.2 c7
      exact j_X2_lookAsSender_48 C0 a K (on, role, wants, sndC, rcvC, nSent, nRcvd, lastF, found, sending, next, wanted, lastR, line, reader) H locs ls hP hD hS (lv_sub hl [0] rfl) hf
set_option maxHeartbeats 4000000 in
set_option maxRecDepth 100000 in
theorem c_X2_lookAsSender (l : Launch) (dC : Nat → ClassId) (dI : Nat → Nat → Nat) (y : Nat → ClassId) (a : NodeA) (sz : Nat) (S : NodeS) (p0 : Int32) (K : NodeS → Prop) (hf : wp_X2_lookAsSender S p0 K) : MV l yX2_lookAsSender wsX2_lookAsSender { frames := 1, cells := 0, slots := 0, locals := 21 } dC dI y [.ref a.1, .int p0] (ndW y a S) sz (fun u => ndW y a u) K := by
  refine Met.ofW (cc := cX2_lookAsSender) (maxL := 3) (ret := none) (by decide) rfl ?_
  intro p e s m args below meth c s₁ B hml hv
  obtain ⟨rfl, hsz, hP, hK, hD0⟩ := hv
  have hx := B.exec
  have hb := B.bytes
  have hr := B.returns
  have hts := atoms_spec (ws := wsX2_lookAsSender) B.pre
  have hown : s.vm.findClass RX2 = some m.cls := findClass_of_methodNamed B.named
  have hlocks := B.notSynchronized
  subst hsz
  have hD := hD0.self (sz := s.heap.size)
  generalize hAe : va_A (ndW y a S) s.heap.size = A at hD ⊢
  have hA : ∀ q : Nat, s.heap.size ≤ q → A q := fun q h => by rw [← hAe]; exact Or.inr h
  have hS : va_S A s.heap s.heap [] := va_S.rf
  have C0 : Cx p s m [.ref a.1, .int p0].toArray meth c cX2_lookAsSender 3 none wsX2_lookAsSender RX2 A dC dI y := ⟨hx, hb, hr, hml, hown, hts, hlocks, hA, hK⟩
  have w25 := hts (.fieldLink RX2 25 "SharedWire$Node" "line" "LSharedWire$Line;") (List.mem_of_getElem? (i := 1) rfl)
  have w62 := hts (.fieldLink RX2 62 "SharedWire$Node" "found" "I") (List.mem_of_getElem? (i := 3) rfl)
  have w68 := hts (.fieldLink RX2 68 "SharedWire$Node" "next" "I") (List.mem_of_getElem? (i := 2) rfl)
  have hinX2 : ∀ w ∈ wsX20, w ∈ wsX2_lookAsSender := fun w h => List.mem_cons_of_mem _ (List.mem_append_left _ (List.mem_append_right _ (h)))
  have hl := lv_entry ([.ref a.1, .int p0]) (n := 3) (Nat.le_of_ble_eq_true rfl)
  rw [lg_entry_eq]
  generalize (lg_sl ([.ref a.1, .int p0]) ++ List.replicate (3 - (lg_sl ([.ref a.1, .int p0])).length) Slot.unset).toArray = ls at hl ⊢
  have hl : lv_has ls 3 [(0, .ref a.1), (1, .int p0)] := hl
  obtain ⟨on, role, wants, sndC, rcvC, nSent, nRcvd, lastF, found, sending, next, wanted, lastR, line, reader⟩ := S
  clear hAe hD0
  generalize hL0 : ([] : List Loc) = locs at hS ⊢
  unfold wp_X2_lookAsSender at hf
  refine lv_aload_n hx hb dX2_lookAsSender_0 rfl (lv_at hl 0 rfl) ?_
  refine va_get (D := (dC, dI)) (ci := 2) (v := .ref a.2.2.2.2.1.1) (C := RX2) (T := TX2) (N := 15) hx hb hts hinX2 hown hK.1 hP 0 rfl rfl 2 (by decide) w25 (fun _ h9 => h9) rfl dX2_lookAsSender_1 ?_
  refine lv_aload_n hx hb dX2_lookAsSender_4 rfl (lv_at hl 0 rfl) ?_
  refine va_get (D := (dC, dI)) (ci := 2) (v := .int next) (C := RX2) (T := TX2) (N := 15) hx hb hts hinX2 hown hK.1 hP 0 rfl rfl 14 (by decide) w68 (fun _ h9 => h9) rfl dX2_lookAsSender_5 ?_
  refine kVi (As := [.int next]) (rest := []) (pre := (ndW y a (on, role, wants, sndC, rcvC, nSent, nRcvd, lastF, found, sending, next, wanted, lastR, line, reader)).take 7) (post := (ndW y a (on, role, wants, sndC, rcvC, nSent, nRcvd, lastF, found, sending, next, wanted, lastR, line, reader)).drop 10) ⟨hx, hb, hml, hown, hts⟩ (c_X1_isAnswer l dC dI y a.2.2.2.2.1 s.heap.size line next _ hf) (cwV 1 hts gX2_lookAsSender_X1_isAnswer rfl rfl rfl (by decide +kernel) ⟨Nat.le_of_ble_eq_true rfl, Nat.le_of_ble_eq_true rfl⟩) hK hP hD (va_recv hK.1 hP (ci := 1) (q0 := 7) rfl rfl) hS hA rfl hl.1 rfl (Nat.le_of_ble_eq_true rfl) dX2_lookAsSender_8 ⟨Nat.zero_le _, Nat.zero_le _⟩ (fun r1 u2 H locs hf hP hD hS => ?_)
  obtain ⟨hf, e9⟩ := hf
  have e9 := e9.symm
  subst e9
  have hP : va_P (dC, dI) vwCl (ndW y a (on, role, wants, sndC, rcvC, nSent, nRcvd, lastF, found, sending, next, wanted, lastR, line, reader)) H := hP
  have hD : va_D A (ndW y a (on, role, wants, sndC, rcvC, nSent, nRcvd, lastF, found, sending, next, wanted, lastR, line, reader)) := hD
  refine lv_istore_n (lv' := [(2, .int r1), (0, .ref a.1), (1, .int p0)]) hx hb dX2_lookAsSender_11 rfl hl (by decide) rfl (fun ls hl => ?_)
  refine lv_iload_n hx hb dX2_lookAsSender_12 rfl (lv_at hl 0 rfl) ?_
  refine lv_if_eq (tgt := 29) hx hb dX2_lookAsSender_13 (by decide) (fun c3 => ?_) (fun c3 => ?_)
  · replace hf := hf.1 c3
    exact j_X2_lookAsSender_29 C0 a K (on, role, wants, sndC, rcvC, nSent, nRcvd, lastF, found, sending, next, wanted, lastR, line, reader) p0 r1 H locs ls hP hD hS (lv_sub hl [1, 2, 0] rfl) hf
  · replace hf := hf.2 c3
    refine lv_iload_n hx hb dX2_lookAsSender_16 rfl (lv_at hl 2 rfl) ?_
    refine lv_iconst (v := 1) hx hb dX2_lookAsSender_17 (by decide) ?_
    refine lv_icmp_ne (tgt := 29) hx hb dX2_lookAsSender_18 (by decide) (fun c11 => ?_) (fun c11 => ?_)
    · replace hf := hf.1 c11
      exact j_X2_lookAsSender_29 C0 a K (on, role, wants, sndC, rcvC, nSent, nRcvd, lastF, found, sending, next, wanted, lastR, line, reader) p0 r1 H locs ls hP hD hS (lv_sub hl [1, 2, 0] rfl) hf
    · replace hf := hf.2 c11
      refine lv_aload_n hx hb dX2_lookAsSender_21 rfl (lv_at hl 1 rfl) ?_
      refine lv_iconst (v := 5) hx hb dX2_lookAsSender_22 (by decide) ?_
      refine va_put (D := (dC, dI)) (ci := 2) (v := .int 5) (ty := .int) (C := RX2) (T := TX2) (N := 15) hx hb hts hinX2 tyX2 tyX2_ok nmX2 hown hK.1 hP hD hS 0 rfl rfl 12 (by decide) w62 (fun _ h9 => h9) rfl (by decide +kernel) rfl rfl (Nat.le_of_ble_eq_true rfl) dX2_lookAsSender_23 (fun H locs hP hD hS => ?_)
      have hP : va_P (dC, dI) vwCl (ndW y a (on, role, wants, sndC, rcvC, nSent, nRcvd, lastF, 5, sending, next, wanted, lastR, line, reader)) H := hP
      have hD : va_D A (ndW y a (on, role, wants, sndC, rcvC, nSent, nRcvd, lastF, 5, sending, next, wanted, lastR, line, reader)) := hD
      refine lv_goto (tgt := 88) hx hb dX2_lookAsSender_26 (by decide) ?_
      exact W.vret hx hb hr (fun t ht hW => ⟨⟨(on, role, wants, sndC, rcvC, nSent, nRcvd, lastF, 5, sending, next, wanted, lastR, line, reader), rfl, hf, by rw [ht]; exact hP, hD⟩, hS.F ht⟩) hS.2.2 dX2_lookAsSender_88

def wp_X2_look_62 (K : NodeS → Prop) : NodeS → Int32 → Prop := fun (on, role, wants, sndC, rcvC, nSent, nRcvd, lastF, found, sending, next, wanted, lastR, line, reader) v1 => wp_X3_take reader v1 (fun r5 u6 => ((¬ role = 2 → K (on, role, wants, sndC, rcvC, nSent, nRcvd, lastF, found, sending, next, wanted, lastR, line, u6)) ∧ (role = 2 → K (on, role, wants, sndC, rcvC, nSent, nRcvd, lastF, r5, sending, next, wanted, lastR, line, u6))))
def wp_X2_look_26 (K : NodeS → Prop) : NodeS → Int32 → Prop := fun (on, role, wants, sndC, rcvC, nSent, nRcvd, lastF, found, sending, next, wanted, lastR, line, reader) v1 => ((¬ role = 1 → ((¬ role = 3 → wp_X2_look_62 K (on, role, wants, sndC, rcvC, nSent, nRcvd, lastF, found, sending, next, wanted, lastR, line, reader) v1) ∧ (role = 3 → wp_X2_lookAsSender (on, role, wants, sndC, rcvC, nSent, nRcvd, lastF, found, sending, next, wanted, lastR, line, reader) v1 (fun u8 => wp_X2_look_62 K u8 v1)))) ∧ (role = 1 → wp_X3_begin reader (fun u9 => wp_X2_look_62 K (on, 2, wants, sndC, rcvC, nSent, nRcvd, lastF, found, sending, next, wanted, lastR, line, u9) v1)))
def wp_X2_look : NodeS → Int32 → (NodeS → Prop) → Prop := fun (on, role, wants, sndC, rcvC, nSent, nRcvd, lastF, found, sending, next, wanted, lastR, line, reader) p0 K => ((on = 0 → K (on, role, wants, sndC, rcvC, nSent, nRcvd, lastF, 0, sending, next, wanted, lastR, line, reader)) ∧ (¬ on = 0 → ((¬ role = 1 → wp_X2_look_26 K (on, role, wants, sndC, rcvC, nSent, nRcvd, lastF, 0, sending, next, wanted, lastR, line, reader) p0) ∧ (role = 1 → ((¬ p0 = 1 → wp_X2_look_26 K (on, role, wants, sndC, rcvC, nSent, nRcvd, lastF, 0, sending, next, wanted, lastR, line, reader) p0) ∧ (p0 = 1 → K (on, role, wants, sndC, rcvC, nSent, nRcvd, lastF, 0, sending, next, wanted, lastR, line, reader)))))))
set_option maxHeartbeats 4000000 in
set_option maxRecDepth 100000 in
theorem j_X2_look_62 {p : Program} {l : Launch} {e : Env} {s : State} {m : MethodId} {args : Array Value} {below : List Frame} {meth : Method} {c : Code} {dC : Nat → ClassId} {dI : Nat → Nat → Nat} {y : Nat → ClassId} {A : Nat → Prop} (C0 : Cx p s m args meth c cX2_look 3 none wsX2_look RX2 A dC dI y) (a : NodeA) (K : NodeS → Prop) : ∀ (S : NodeS) (v1 : Int32) (H : Heap) (locs : List Loc) (ls : Array Slot), va_P (dC, dI) vwCl (ndW y a S) H → va_D A (ndW y a S) → va_S A s.heap H locs → lv_has ls 3 [(0, .ref a.1), (1, .int v1)] → wp_X2_look_62 K S v1 → W p l e ({ frames := 4, cells := 0, slots := 0, locals := 87 } : Room) s m args below meth c H locs 0 0 (MQ below (va_Qv K (BW dC dI A (fun u => ndW y a u)) A) args s 0 0 A) (F0 m 62 ls []) := by
  obtain ⟨hx, hb, hr, hml, hown, hts, hlocks, hA, hK⟩ := id C0
  have w32 := hts (Cond.fieldLink RX2 32 "SharedWire$Node" "reader" "LSharedWire$Reader;") (List.mem_of_getElem? (i := 4) rfl)
  have w40 := hts (Cond.fieldLink RX2 40 "SharedWire$Node" "role" "I") (List.mem_of_getElem? (i := 3) rfl)
  have w62 := hts (Cond.fieldLink RX2 62 "SharedWire$Node" "found" "I") (List.mem_of_getElem? (i := 1) rfl)
  have hinX2 : ∀ w ∈ wsX20, w ∈ wsX2_look := fun w h => List.mem_cons_of_mem _ (List.mem_append_left _ (List.mem_append_left _ (List.mem_append_left _ (List.mem_append_right _ (h)))))
  intro S v1 H locs ls hP hD hS hl hf
  obtain ⟨on, role, wants, sndC, rcvC, nSent, nRcvd, lastF, found, sending, next, wanted, lastR, line, reader⟩ := S
  unfold wp_X2_look_62 at hf
  refine lv_aload_n hx hb dX2_look_62 rfl (lv_at hl 0 rfl) ?_
  refine va_get (D := (dC, dI)) (ci := 2) (v := .ref a.2.2.2.2.2.1) (C := RX2) (T := TX2) (N := 15) hx hb hts hinX2 hown hK.1 hP 0 rfl rfl 3 (by decide) w32 (fun _ h9 => h9) rfl dX2_look_63 ?_
  refine lv_iload_n hx hb dX2_look_66 rfl (lv_at hl 1 rfl) ?_
  refine kVi (As := [.int v1]) (rest := []) (pre := (ndW y a (on, role, wants, sndC, rcvC, nSent, nRcvd, lastF, found, sending, next, wanted, lastR, line, reader)).take 10) (post := (ndW y a (on, role, wants, sndC, rcvC, nSent, nRcvd, lastF, found, sending, next, wanted, lastR, line, reader)).drop 12) ⟨hx, hb, hml, hown, hts⟩ (c_X3_take l dC dI y a.2.2.2.2.2 H.size reader v1 _ hf) (cwV 1 hts gX2_look_X3_take rfl rfl rfl (by decide +kernel) ⟨Nat.le_of_ble_eq_true rfl, Nat.le_of_ble_eq_true rfl⟩) hK hP hD (va_recv hK.1 hP (ci := 3) (q0 := 10) rfl rfl) hS hA rfl hl.1 rfl (Nat.le_of_ble_eq_true rfl) dX2_look_67 ⟨Nat.zero_le _, Nat.zero_le _⟩ (fun r5 u6 H locs hf hP hD hS => ?_)
  have hP : va_P (dC, dI) vwCl (ndW y a (on, role, wants, sndC, rcvC, nSent, nRcvd, lastF, found, sending, next, wanted, lastR, line, u6)) H := hP
  have hD : va_D A (ndW y a (on, role, wants, sndC, rcvC, nSent, nRcvd, lastF, found, sending, next, wanted, lastR, line, u6)) := hD
  refine lv_istore_n (lv' := [(2, .int r5), (0, .ref a.1), (1, .int v1)]) hx hb dX2_look_70 rfl hl (by decide) rfl (fun ls hl => ?_)
  refine lv_aload_n hx hb dX2_look_71 rfl (lv_at hl 1 rfl) ?_
  refine va_get (D := (dC, dI)) (ci := 2) (v := .int role) (C := RX2) (T := TX2) (N := 15) hx hb hts hinX2 hown hK.1 hP 0 rfl rfl 5 (by decide) w40 (fun _ h9 => h9) rfl dX2_look_72 ?_
  refine lv_iconst (v := 2) hx hb dX2_look_75 (by decide) ?_
  refine lv_icmp_ne (tgt := 84) hx hb dX2_look_76 (by decide) (fun c7 => ?_) (fun c7 => ?_)
  · replace hf := hf.1 c7
    exact W.vret hx hb hr (fun t ht hW => ⟨⟨(on, role, wants, sndC, rcvC, nSent, nRcvd, lastF, found, sending, next, wanted, lastR, line, u6), rfl, hf, by rw [ht]; exact hP, hD⟩, hS.F ht⟩) hS.2.2 dX2_look_84
  · replace hf := hf.2 c7
    refine lv_aload_n hx hb dX2_look_79 rfl (lv_at hl 1 rfl) ?_
    refine lv_iload_n hx hb dX2_look_80 rfl (lv_at hl 0 rfl) ?_
    refine va_put (D := (dC, dI)) (ci := 2) (v := .int r5) (ty := .int) (C := RX2) (T := TX2) (N := 15) hx hb hts hinX2 tyX2 tyX2_ok nmX2 hown hK.1 hP hD hS 0 rfl rfl 12 (by decide) w62 (fun _ h9 => h9) rfl (by decide +kernel) rfl rfl (Nat.le_of_ble_eq_true rfl) dX2_look_81 (fun H locs hP hD hS => ?_)
    have hP : va_P (dC, dI) vwCl (ndW y a (on, role, wants, sndC, rcvC, nSent, nRcvd, lastF, r5, sending, next, wanted, lastR, line, u6)) H := hP
    have hD : va_D A (ndW y a (on, role, wants, sndC, rcvC, nSent, nRcvd, lastF, r5, sending, next, wanted, lastR, line, u6)) := hD
    exact W.vret hx hb hr (fun t ht hW => ⟨⟨(on, role, wants, sndC, rcvC, nSent, nRcvd, lastF, r5, sending, next, wanted, lastR, line, u6), rfl, hf, by rw [ht]; exact hP, hD⟩, hS.F ht⟩) hS.2.2 dX2_look_84
set_option maxHeartbeats 4000000 in
set_option maxRecDepth 100000 in
theorem j_X2_look_26 {p : Program} {l : Launch} {e : Env} {s : State} {m : MethodId} {args : Array Value} {below : List Frame} {meth : Method} {c : Code} {dC : Nat → ClassId} {dI : Nat → Nat → Nat} {y : Nat → ClassId} {A : Nat → Prop} (C0 : Cx p s m args meth c cX2_look 3 none wsX2_look RX2 A dC dI y) (a : NodeA) (K : NodeS → Prop) : ∀ (S : NodeS) (v1 : Int32) (H : Heap) (locs : List Loc) (ls : Array Slot), va_P (dC, dI) vwCl (ndW y a S) H → va_D A (ndW y a S) → va_S A s.heap H locs → lv_has ls 3 [(0, .ref a.1), (1, .int v1)] → wp_X2_look_26 K S v1 → W p l e ({ frames := 4, cells := 0, slots := 0, locals := 87 } : Room) s m args below meth c H locs 0 0 (MQ below (va_Qv K (BW dC dI A (fun u => ndW y a u)) A) args s 0 0 A) (F0 m 26 ls []) := by
  obtain ⟨hx, hb, hr, hml, hown, hts, hlocks, hA, hK⟩ := id C0
  have w32 := hts (Cond.fieldLink RX2 32 "SharedWire$Node" "reader" "LSharedWire$Reader;") (List.mem_of_getElem? (i := 4) rfl)
  have w40 := hts (Cond.fieldLink RX2 40 "SharedWire$Node" "role" "I") (List.mem_of_getElem? (i := 3) rfl)
  have hinX2 : ∀ w ∈ wsX20, w ∈ wsX2_look := fun w h => List.mem_cons_of_mem _ (List.mem_append_left _ (List.mem_append_left _ (List.mem_append_left _ (List.mem_append_right _ (h)))))
  intro S v1 H locs ls hP hD hS hl hf
  obtain ⟨on, role, wants, sndC, rcvC, nSent, nRcvd, lastF, found, sending, next, wanted, lastR, line, reader⟩ := S
  unfold wp_X2_look_26 at hf
  refine lv_aload_n hx hb dX2_look_26 rfl (lv_at hl 0 rfl) ?_
  refine va_get (D := (dC, dI)) (ci := 2) (v := .int role) (C := RX2) (T := TX2) (N := 15) hx hb hts hinX2 hown hK.1 hP 0 rfl rfl 5 (by decide) w40 (fun _ h9 => h9) rfl dX2_look_27 ?_
  refine lv_iconst (v := 1) hx hb dX2_look_30 (by decide) ?_
  refine lv_icmp_ne (tgt := 49) hx hb dX2_look_31 (by decide) (fun c3 => ?_) (fun c3 => ?_)
  · replace hf := hf.1 c3
    refine lv_aload_n hx hb dX2_look_49 rfl (lv_at hl 0 rfl) ?_
    refine va_get (D := (dC, dI)) (ci := 2) (v := .int role) (C := RX2) (T := TX2) (N := 15) hx hb hts hinX2 hown hK.1 hP 0 rfl rfl 5 (by decide) w40 (fun _ h9 => h9) rfl dX2_look_50 ?_
    refine lv_iconst (v := 3) hx hb dX2_look_53 (by decide) ?_
    refine lv_icmp_ne (tgt := 62) hx hb dX2_look_54 (by decide) (fun c4 => ?_) (fun c4 => ?_)
    · replace hf := hf.1 c4
      exact j_X2_look_62 C0 a K (on, role, wants, sndC, rcvC, nSent, nRcvd, lastF, found, sending, next, wanted, lastR, line, reader) v1 H locs ls hP hD hS (lv_sub hl [0, 1] rfl) hf
    · replace hf := hf.2 c4
      refine lv_aload_n hx hb dX2_look_57 rfl (lv_at hl 0 rfl) ?_
      refine lv_iload_n hx hb dX2_look_58 rfl (lv_at hl 1 rfl) ?_
      refine k0v (As := [.int v1]) (rest := []) ⟨hx, hb, hml, hown, hts⟩ (c_X2_lookAsSender l dC dI y a H.size (on, role, wants, sndC, rcvC, nSent, nRcvd, lastF, found, sending, next, wanted, lastR, line, reader) v1 _ hf) (cwV 1 hts gX2_look_X2_lookAsSender rfl rfl rfl (by decide +kernel) ⟨Nat.le_of_ble_eq_true rfl, Nat.le_of_ble_eq_true rfl⟩) hK hP hD (va_recv hK.1 hP (ci := 2) (q0 := 0) rfl rfl) hS hA rfl hl.1 rfl (Nat.le_of_ble_eq_true rfl) dX2_look_59 ⟨Nat.zero_le _, Nat.zero_le _⟩ (fun u8 H locs hf hP hD hS => ?_)
      have hP : va_P (dC, dI) vwCl (ndW y a u8) H := hP
      have hD : va_D A (ndW y a u8) := hD
      exact j_X2_look_62 C0 a K u8 v1 H locs ls hP hD hS (lv_sub hl [0, 1] rfl) hf
  · replace hf := hf.2 c3
    refine lv_aload_n hx hb dX2_look_34 rfl (lv_at hl 0 rfl) ?_
    refine lv_iconst (v := 2) hx hb dX2_look_35 (by decide) ?_
    refine va_put (D := (dC, dI)) (ci := 2) (v := .int 2) (ty := .int) (C := RX2) (T := TX2) (N := 15) hx hb hts hinX2 tyX2 tyX2_ok nmX2 hown hK.1 hP hD hS 0 rfl rfl 5 (by decide) w40 (fun _ h9 => h9) rfl (by decide +kernel) rfl rfl (Nat.le_of_ble_eq_true rfl) dX2_look_36 (fun H locs hP hD hS => ?_)
    have hP : va_P (dC, dI) vwCl (ndW y a (on, 2, wants, sndC, rcvC, nSent, nRcvd, lastF, found, sending, next, wanted, lastR, line, reader)) H := hP
    have hD : va_D A (ndW y a (on, 2, wants, sndC, rcvC, nSent, nRcvd, lastF, found, sending, next, wanted, lastR, line, reader)) := hD
    refine lv_aload_n hx hb dX2_look_39 rfl (lv_at hl 0 rfl) ?_
    refine va_get (D := (dC, dI)) (ci := 2) (v := .ref a.2.2.2.2.2.1) (C := RX2) (T := TX2) (N := 15) hx hb hts hinX2 hown hK.1 hP 0 rfl rfl 3 (by decide) w32 (fun _ h9 => h9) rfl dX2_look_40 ?_
    refine kVv (As := []) (rest := []) (pre := (ndW y a (on, 2, wants, sndC, rcvC, nSent, nRcvd, lastF, found, sending, next, wanted, lastR, line, reader)).take 10) (post := (ndW y a (on, 2, wants, sndC, rcvC, nSent, nRcvd, lastF, found, sending, next, wanted, lastR, line, reader)).drop 12) ⟨hx, hb, hml, hown, hts⟩ (c_X3_begin l dC dI y a.2.2.2.2.2 H.size reader _ hf) (cwV 0 hts gX2_look_X3_begin rfl rfl rfl (by decide +kernel) ⟨Nat.le_of_ble_eq_true rfl, Nat.le_of_ble_eq_true rfl⟩) hK hP hD (va_recv hK.1 hP (ci := 3) (q0 := 10) rfl rfl) hS hA rfl hl.1 rfl (Nat.le_of_ble_eq_true rfl) dX2_look_43 ⟨Nat.zero_le _, Nat.zero_le _⟩ (fun u9 H locs hf hP hD hS => ?_)
    have hP : va_P (dC, dI) vwCl (ndW y a (on, 2, wants, sndC, rcvC, nSent, nRcvd, lastF, found, sending, next, wanted, lastR, line, u9)) H := hP
    have hD : va_D A (ndW y a (on, 2, wants, sndC, rcvC, nSent, nRcvd, lastF, found, sending, next, wanted, lastR, line, u9)) := hD
    refine lv_goto (tgt := 62) hx hb dX2_look_46 (by decide) ?_
    exact j_X2_look_62 C0 a K (on, 2, wants, sndC, rcvC, nSent, nRcvd, lastF, found, sending, next, wanted, lastR, line, u9) v1 H locs ls hP hD hS (lv_sub hl [0, 1] rfl) hf
set_option maxHeartbeats 4000000 in
set_option maxRecDepth 100000 in
theorem c_X2_look (l : Launch) (dC : Nat → ClassId) (dI : Nat → Nat → Nat) (y : Nat → ClassId) (a : NodeA) (sz : Nat) (S : NodeS) (p0 : Int32) (K : NodeS → Prop) (hf : wp_X2_look S p0 K) : MV l yX2_look wsX2_look { frames := 4, cells := 0, slots := 0, locals := 87 } dC dI y [.ref a.1, .int p0] (ndW y a S) sz (fun u => ndW y a u) K := by
  refine Met.ofW (cc := cX2_look) (maxL := 3) (ret := none) (by decide) rfl ?_
  intro p e s m args below meth c s₁ B hml hv
  obtain ⟨rfl, hsz, hP, hK, hD0⟩ := hv
  have hx := B.exec
  have hb := B.bytes
  have hr := B.returns
  have hts := atoms_spec (ws := wsX2_look) B.pre
  have hown : s.vm.findClass RX2 = some m.cls := findClass_of_methodNamed B.named
  have hlocks := B.notSynchronized
  subst hsz
  have hD := hD0.self (sz := s.heap.size)
  generalize hAe : va_A (ndW y a S) s.heap.size = A at hD ⊢
  have hA : ∀ q : Nat, s.heap.size ≤ q → A q := fun q h => by rw [← hAe]; exact Or.inr h
  have hS : va_S A s.heap s.heap [] := va_S.rf
  have C0 : Cx p s m [.ref a.1, .int p0].toArray meth c cX2_look 3 none wsX2_look RX2 A dC dI y := ⟨hx, hb, hr, hml, hown, hts, hlocks, hA, hK⟩
  have w36 := hts (Cond.fieldLink RX2 36 "SharedWire$Node" "on" "Z") (List.mem_of_getElem? (i := 2) rfl)
  have w40 := hts (Cond.fieldLink RX2 40 "SharedWire$Node" "role" "I") (List.mem_of_getElem? (i := 3) rfl)
  have w62 := hts (Cond.fieldLink RX2 62 "SharedWire$Node" "found" "I") (List.mem_of_getElem? (i := 1) rfl)
  have hinX2 : ∀ w ∈ wsX20, w ∈ wsX2_look := fun w h => List.mem_cons_of_mem _ (List.mem_append_left _ (List.mem_append_left _ (List.mem_append_left _ (List.mem_append_right _ (h)))))
  have hl := lv_entry ([.ref a.1, .int p0]) (n := 3) (Nat.le_of_ble_eq_true rfl)
  rw [lg_entry_eq]
  generalize (lg_sl ([.ref a.1, .int p0]) ++ List.replicate (3 - (lg_sl ([.ref a.1, .int p0])).length) Slot.unset).toArray = ls at hl ⊢
  have hl : lv_has ls 3 [(0, .ref a.1), (1, .int p0)] := hl
  obtain ⟨on, role, wants, sndC, rcvC, nSent, nRcvd, lastF, found, sending, next, wanted, lastR, line, reader⟩ := S
  clear hAe hD0
  generalize hL0 : ([] : List Loc) = locs at hS ⊢
  unfold wp_X2_look at hf
  refine lv_aload_n hx hb dX2_look_0 rfl (lv_at hl 0 rfl) ?_
  refine lv_iconst (v := 0) hx hb dX2_look_1 (by decide) ?_
  refine va_put (D := (dC, dI)) (ci := 2) (v := .int 0) (ty := .int) (C := RX2) (T := TX2) (N := 15) hx hb hts hinX2 tyX2 tyX2_ok nmX2 hown hK.1 hP hD hS 0 rfl rfl 12 (by decide) w62 (fun _ h9 => h9) rfl (by decide +kernel) rfl rfl (Nat.le_of_ble_eq_true rfl) dX2_look_2 (fun H locs hP hD hS => ?_)
  have hP : va_P (dC, dI) vwCl (ndW y a (on, role, wants, sndC, rcvC, nSent, nRcvd, lastF, 0, sending, next, wanted, lastR, line, reader)) H := hP
  have hD : va_D A (ndW y a (on, role, wants, sndC, rcvC, nSent, nRcvd, lastF, 0, sending, next, wanted, lastR, line, reader)) := hD
  refine lv_aload_n hx hb dX2_look_5 rfl (lv_at hl 0 rfl) ?_
  refine va_get (D := (dC, dI)) (ci := 2) (v := .int on) (C := RX2) (T := TX2) (N := 15) hx hb hts hinX2 hown hK.1 hP 0 rfl rfl 4 (by decide) w36 (fun _ h9 => h9) rfl dX2_look_6 ?_
  refine lv_if_eq (tgt := 25) hx hb dX2_look_9 (by decide) (fun c1 => ?_) (fun c1 => ?_)
  · replace hf := hf.1 c1
    exact W.vret hx hb hr (fun t ht hW => ⟨⟨(on, role, wants, sndC, rcvC, nSent, nRcvd, lastF, 0, sending, next, wanted, lastR, line, reader), rfl, hf, by rw [ht]; exact hP, hD⟩, hS.F ht⟩) hS.2.2 dX2_look_25
  · replace hf := hf.2 c1
    refine lv_aload_n hx hb dX2_look_12 rfl (lv_at hl 0 rfl) ?_
    refine va_get (D := (dC, dI)) (ci := 2) (v := .int role) (C := RX2) (T := TX2) (N := 15) hx hb hts hinX2 hown hK.1 hP 0 rfl rfl 5 (by decide) w40 (fun _ h9 => h9) rfl dX2_look_13 ?_
    refine lv_iconst (v := 1) hx hb dX2_look_16 (by decide) ?_
    refine lv_icmp_ne (tgt := 26) hx hb dX2_look_17 (by decide) (fun c2 => ?_) (fun c2 => ?_)
    · replace hf := hf.1 c2
      exact j_X2_look_26 C0 a K (on, role, wants, sndC, rcvC, nSent, nRcvd, lastF, 0, sending, next, wanted, lastR, line, reader) p0 H locs ls hP hD hS (lv_sub hl [0, 1] rfl) hf
    · replace hf := hf.2 c2
      refine lv_iload_n hx hb dX2_look_20 rfl (lv_at hl 1 rfl) ?_
      refine lv_iconst (v := 1) hx hb dX2_look_21 (by decide) ?_
      refine lv_icmp_ne (tgt := 26) hx hb dX2_look_22 (by decide) (fun c10 => ?_) (fun c10 => ?_)
      · replace hf := hf.1 c10
        exact j_X2_look_26 C0 a K (on, role, wants, sndC, rcvC, nSent, nRcvd, lastF, 0, sending, next, wanted, lastR, line, reader) p0 H locs ls hP hD hS (lv_sub hl [0, 1] rfl) hf
      · replace hf := hf.2 c10
        exact W.vret hx hb hr (fun t ht hW => ⟨⟨(on, role, wants, sndC, rcvC, nSent, nRcvd, lastF, 0, sending, next, wanted, lastR, line, reader), rfl, hf, by rw [ht]; exact hP, hD⟩, hS.F ht⟩) hS.2.2 dX2_look_25

def wp_X2_countFault_62 (K : NodeS → Prop) : NodeS → Prop := fun (on, role, wants, sndC, rcvC, nSent, nRcvd, lastF, found, sending, next, wanted, lastR, line, reader) => K (on, 1, wants, sndC, rcvC, nSent, nRcvd, lastF, found, sending, next, wanted, lastR, line, reader)
def wp_X2_countFault_47 (K : NodeS → Prop) : NodeS → Prop := fun (on, role, wants, sndC, rcvC, nSent, nRcvd, lastF, found, sending, next, wanted, lastR, line, reader) => ((sndC ≤ 255 → wp_X2_countFault_62 K (on, role, wants, sndC, rcvC, nSent, nRcvd, lastF, found, sending, next, wanted, lastR, line, reader)) ∧ (¬ sndC ≤ 255 → wp_X2_countFault_62 K (0, role, wants, sndC, rcvC, nSent, nRcvd, lastF, found, sending, next, wanted, lastR, line, reader)))
def wp_X2_countFault : NodeS → (NodeS → Prop) → Prop := fun (on, role, wants, sndC, rcvC, nSent, nRcvd, lastF, found, sending, next, wanted, lastR, line, reader) K => ((found = 0 → wp_X2_countFault_47 K (on, role, wants, sndC, rcvC, nSent, nRcvd, lastF, found, sending, next, wanted, lastR, line, reader)) ∧ (¬ found = 0 → ((¬ role = 3 → wp_X2_countFault_47 K (on, role, wants, sndC, rcvC + 1, nSent, nRcvd, found, found, sending, next, wanted, lastR, line, reader)) ∧ (role = 3 → wp_X2_countFault_47 K (on, role, wants, sndC + 8, rcvC, nSent, nRcvd, found, found, sending, next, wanted, lastR, line, reader)))))
set_option maxHeartbeats 4000000 in
set_option maxRecDepth 100000 in
theorem j_X2_countFault_62 {p : Program} {l : Launch} {e : Env} {s : State} {m : MethodId} {args : Array Value} {below : List Frame} {meth : Method} {c : Code} {dC : Nat → ClassId} {dI : Nat → Nat → Nat} {y : Nat → ClassId} {A : Nat → Prop} (C0 : Cx p s m args meth c cX2_countFault 1 none wsX2_countFault RX2 A dC dI y) (a : NodeA) (K : NodeS → Prop) : ∀ (S : NodeS) (H : Heap) (locs : List Loc) (ls : Array Slot), va_P (dC, dI) vwCl (ndW y a S) H → va_D A (ndW y a S) → va_S A s.heap H locs → lv_has ls 1 [(0, .ref a.1)] → wp_X2_countFault_62 K S → W p l e ({ frames := 0, cells := 0, slots := 0, locals := 0 } : Room) s m args below meth c H locs 0 0 (MQ below (va_Qv K (BW dC dI A (fun u => ndW y a u)) A) args s 0 0 A) (F0 m 62 ls []) := by
  obtain ⟨hx, hb, hr, hml, hown, hts, hlocks, hA, hK⟩ := id C0
  have w40 := hts (.fieldLink RX2 40 "SharedWire$Node" "role" "I") (List.mem_of_getElem? (i := 3) rfl)
  have hinX2 : ∀ w ∈ wsX20, w ∈ wsX2_countFault := fun w h => List.mem_cons_of_mem _ (List.mem_append_right _ (h))
  intro S H locs ls hP hD hS hl hf
  obtain ⟨on, role, wants, sndC, rcvC, nSent, nRcvd, lastF, found, sending, next, wanted, lastR, line, reader⟩ := S
  unfold wp_X2_countFault_62 at hf
  refine lv_aload_n hx hb dX2_countFault_62 rfl (lv_at hl 0 rfl) ?_
  refine lv_iconst (v := 1) hx hb dX2_countFault_63 (by decide) ?_
  refine va_put (D := (dC, dI)) (ci := 2) (v := .int 1) (ty := .int) (C := RX2) (T := TX2) (N := 15) hx hb hts hinX2 tyX2 tyX2_ok nmX2 hown hK.1 hP hD hS 0 rfl rfl 5 (by decide) w40 (fun _ h9 => h9) rfl (by decide +kernel) rfl rfl (Nat.le_of_ble_eq_true rfl) dX2_countFault_64 (fun H locs hP hD hS => ?_)
  have hP : va_P (dC, dI) vwCl (ndW y a (on, 1, wants, sndC, rcvC, nSent, nRcvd, lastF, found, sending, next, wanted, lastR, line, reader)) H := hP
  have hD : va_D A (ndW y a (on, 1, wants, sndC, rcvC, nSent, nRcvd, lastF, found, sending, next, wanted, lastR, line, reader)) := hD
  exact W.vret hx hb hr (fun t ht hW => ⟨⟨(on, 1, wants, sndC, rcvC, nSent, nRcvd, lastF, found, sending, next, wanted, lastR, line, reader), rfl, hf, by rw [ht]; exact hP, hD⟩, hS.F ht⟩) hS.2.2 dX2_countFault_67
set_option maxHeartbeats 4000000 in
set_option maxRecDepth 100000 in
theorem j_X2_countFault_47 {p : Program} {l : Launch} {e : Env} {s : State} {m : MethodId} {args : Array Value} {below : List Frame} {meth : Method} {c : Code} {dC : Nat → ClassId} {dI : Nat → Nat → Nat} {y : Nat → ClassId} {A : Nat → Prop} (C0 : Cx p s m args meth c cX2_countFault 1 none wsX2_countFault RX2 A dC dI y) (a : NodeA) (K : NodeS → Prop) : ∀ (S : NodeS) (H : Heap) (locs : List Loc) (ls : Array Slot), va_P (dC, dI) vwCl (ndW y a S) H → va_D A (ndW y a S) → va_S A s.heap H locs → lv_has ls 1 [(0, .ref a.1)] → wp_X2_countFault_47 K S → W p l e ({ frames := 0, cells := 0, slots := 0, locals := 0 } : Room) s m args below meth c H locs 0 0 (MQ below (va_Qv K (BW dC dI A (fun u => ndW y a u)) A) args s 0 0 A) (F0 m 47 ls []) := by
  obtain ⟨hx, hb, hr, hml, hown, hts, hlocks, hA, hK⟩ := id C0
  have w36 := hts (.fieldLink RX2 36 "SharedWire$Node" "on" "Z") (List.mem_of_getElem? (i := 6) rfl)
  have w47 := hts (.fieldLink RX2 47 "SharedWire$Node" "sendingCount" "I") (List.mem_of_getElem? (i := 4) rfl)
  have hinX2 : ∀ w ∈ wsX20, w ∈ wsX2_countFault := fun w h => List.mem_cons_of_mem _ (List.mem_append_right _ (h))
  intro S H locs ls hP hD hS hl hf
  obtain ⟨on, role, wants, sndC, rcvC, nSent, nRcvd, lastF, found, sending, next, wanted, lastR, line, reader⟩ := S
  unfold wp_X2_countFault_47 at hf
  refine lv_aload_n hx hb dX2_countFault_47 rfl (lv_at hl 0 rfl) ?_
  refine va_get (D := (dC, dI)) (ci := 2) (v := .int sndC) (C := RX2) (T := TX2) (N := 15) hx hb hts hinX2 hown hK.1 hP 0 rfl rfl 7 (by decide) w47 (fun _ h9 => h9) rfl dX2_countFault_48 ?_
  refine lv_sipush (v := 255) hx hb dX2_countFault_51 (by decide) ?_
  refine lv_icmp_le (tgt := 62) hx hb dX2_countFault_54 (by decide) (fun c2 => ?_) (fun c2 => ?_)
  · replace hf := hf.1 c2
    exact j_X2_countFault_62 C0 a K (on, role, wants, sndC, rcvC, nSent, nRcvd, lastF, found, sending, next, wanted, lastR, line, reader) H locs ls hP hD hS (lv_sub hl [0] rfl) hf
  · replace hf := hf.2 c2
    refine lv_aload_n hx hb dX2_countFault_57 rfl (lv_at hl 0 rfl) ?_
    refine lv_iconst (v := 0) hx hb dX2_countFault_58 (by decide) ?_
    refine va_put (D := (dC, dI)) (ci := 2) (v := .int 0) (ty := .boolean) (C := RX2) (T := TX2) (N := 15) hx hb hts hinX2 tyX2 tyX2_ok nmX2 hown hK.1 hP hD hS 0 rfl rfl 4 (by decide) w36 (fun _ h9 => h9) rfl (by decide +kernel) rfl rfl (Nat.le_of_ble_eq_true rfl) dX2_countFault_59 (fun H locs hP hD hS => ?_)
    have hP : va_P (dC, dI) vwCl (ndW y a (0, role, wants, sndC, rcvC, nSent, nRcvd, lastF, found, sending, next, wanted, lastR, line, reader)) H := hP
    have hD : va_D A (ndW y a (0, role, wants, sndC, rcvC, nSent, nRcvd, lastF, found, sending, next, wanted, lastR, line, reader)) := hD
    exact j_X2_countFault_62 C0 a K (0, role, wants, sndC, rcvC, nSent, nRcvd, lastF, found, sending, next, wanted, lastR, line, reader) H locs ls hP hD hS (lv_sub hl [0] rfl) hf
set_option maxHeartbeats 4000000 in
set_option maxRecDepth 100000 in
theorem c_X2_countFault (l : Launch) (dC : Nat → ClassId) (dI : Nat → Nat → Nat) (y : Nat → ClassId) (a : NodeA) (sz : Nat) (S : NodeS) (K : NodeS → Prop) (hf : wp_X2_countFault S K) : MV l yX2_countFault wsX2_countFault { frames := 0, cells := 0, slots := 0, locals := 0 } dC dI y [.ref a.1] (ndW y a S) sz (fun u => ndW y a u) K := by
  refine Met.ofW (cc := cX2_countFault) (maxL := 1) (ret := none) (by decide) rfl ?_
  intro p e s m args below meth c s₁ B hml hv
  obtain ⟨rfl, hsz, hP, hK, hD0⟩ := hv
  have hx := B.exec
  have hb := B.bytes
  have hr := B.returns
  have hts := atoms_spec (ws := wsX2_countFault) B.pre
  have hown : s.vm.findClass RX2 = some m.cls := findClass_of_methodNamed B.named
  have hlocks := B.notSynchronized
  subst hsz
  have hD := hD0.self (sz := s.heap.size)
  generalize hAe : va_A (ndW y a S) s.heap.size = A at hD ⊢
  have hA : ∀ q : Nat, s.heap.size ≤ q → A q := fun q h => by rw [← hAe]; exact Or.inr h
  have hS : va_S A s.heap s.heap [] := va_S.rf
  have C0 : Cx p s m [.ref a.1].toArray meth c cX2_countFault 1 none wsX2_countFault RX2 A dC dI y := ⟨hx, hb, hr, hml, hown, hts, hlocks, hA, hK⟩
  have w40 := hts (.fieldLink RX2 40 "SharedWire$Node" "role" "I") (List.mem_of_getElem? (i := 3) rfl)
  have w47 := hts (.fieldLink RX2 47 "SharedWire$Node" "sendingCount" "I") (List.mem_of_getElem? (i := 4) rfl)
  have w50 := hts (.fieldLink RX2 50 "SharedWire$Node" "receivingCount" "I") (List.mem_of_getElem? (i := 5) rfl)
  have w59 := hts (.fieldLink RX2 59 "SharedWire$Node" "lastFault" "I") (List.mem_of_getElem? (i := 2) rfl)
  have w62 := hts (.fieldLink RX2 62 "SharedWire$Node" "found" "I") (List.mem_of_getElem? (i := 1) rfl)
  have hinX2 : ∀ w ∈ wsX20, w ∈ wsX2_countFault := fun w h => List.mem_cons_of_mem _ (List.mem_append_right _ (h))
  have hl := lv_entry ([.ref a.1]) (n := 1) (Nat.le_of_ble_eq_true rfl)
  rw [lg_entry_eq]
  generalize (lg_sl ([.ref a.1]) ++ List.replicate (1 - (lg_sl ([.ref a.1])).length) Slot.unset).toArray = ls at hl ⊢
  have hl : lv_has ls 1 [(0, .ref a.1)] := hl
  obtain ⟨on, role, wants, sndC, rcvC, nSent, nRcvd, lastF, found, sending, next, wanted, lastR, line, reader⟩ := S
  clear hAe hD0
  generalize hL0 : ([] : List Loc) = locs at hS ⊢
  unfold wp_X2_countFault at hf
  refine lv_aload_n hx hb dX2_countFault_0 rfl (lv_at hl 0 rfl) ?_
  refine va_get (D := (dC, dI)) (ci := 2) (v := .int found) (C := RX2) (T := TX2) (N := 15) hx hb hts hinX2 hown hK.1 hP 0 rfl rfl 12 (by decide) w62 (fun _ h9 => h9) rfl dX2_countFault_1 ?_
  refine lv_if_eq (tgt := 47) hx hb dX2_countFault_4 (by decide) (fun c1 => ?_) (fun c1 => ?_)
  · replace hf := hf.1 c1
    exact j_X2_countFault_47 C0 a K (on, role, wants, sndC, rcvC, nSent, nRcvd, lastF, found, sending, next, wanted, lastR, line, reader) s.heap locs ls hP hD hS (lv_sub hl [0] rfl) hf
  · replace hf := hf.2 c1
    refine lv_aload_n hx hb dX2_countFault_7 rfl (lv_at hl 0 rfl) ?_
    refine lv_aload_n hx hb dX2_countFault_8 rfl (lv_at hl 0 rfl) ?_
    refine va_get (D := (dC, dI)) (ci := 2) (v := .int found) (C := RX2) (T := TX2) (N := 15) hx hb hts hinX2 hown hK.1 hP 0 rfl rfl 12 (by decide) w62 (fun _ h9 => h9) rfl dX2_countFault_9 ?_
    refine va_put (D := (dC, dI)) (ci := 2) (v := .int found) (ty := .int) (C := RX2) (T := TX2) (N := 15) hx hb hts hinX2 tyX2 tyX2_ok nmX2 hown hK.1 hP hD hS 0 rfl rfl 11 (by decide) w59 (fun _ h9 => h9) rfl (by decide +kernel) rfl rfl (Nat.le_of_ble_eq_true rfl) dX2_countFault_12 (fun H locs hP hD hS => ?_)
    have hP : va_P (dC, dI) vwCl (ndW y a (on, role, wants, sndC, rcvC, nSent, nRcvd, found, found, sending, next, wanted, lastR, line, reader)) H := hP
    have hD : va_D A (ndW y a (on, role, wants, sndC, rcvC, nSent, nRcvd, found, found, sending, next, wanted, lastR, line, reader)) := hD
    refine lv_aload_n hx hb dX2_countFault_15 rfl (lv_at hl 0 rfl) ?_
    refine va_get (D := (dC, dI)) (ci := 2) (v := .int role) (C := RX2) (T := TX2) (N := 15) hx hb hts hinX2 hown hK.1 hP 0 rfl rfl 5 (by decide) w40 (fun _ h9 => h9) rfl dX2_countFault_16 ?_
    refine lv_iconst (v := 3) hx hb dX2_countFault_19 (by decide) ?_
    refine lv_icmp_ne (tgt := 37) hx hb dX2_countFault_20 (by decide) (fun c3 => ?_) (fun c3 => ?_)
    · replace hf := hf.1 c3
      refine lv_aload_n hx hb dX2_countFault_37 rfl (lv_at hl 0 rfl) ?_
      refine lv_dup hx hb dX2_countFault_38 rfl ?_
      refine va_get (D := (dC, dI)) (ci := 2) (v := .int rcvC) (C := RX2) (T := TX2) (N := 15) hx hb hts hinX2 hown hK.1 hP 0 rfl rfl 8 (by decide) w50 (fun _ h9 => h9) rfl dX2_countFault_39 ?_
      refine lv_iconst (v := 1) hx hb dX2_countFault_42 (by decide) ?_
      refine lv_iadd hx hb dX2_countFault_43 ?_
      refine va_put (D := (dC, dI)) (ci := 2) (v := .int (rcvC + 1)) (ty := .int) (C := RX2) (T := TX2) (N := 15) hx hb hts hinX2 tyX2 tyX2_ok nmX2 hown hK.1 hP hD hS 0 rfl rfl 8 (by decide) w50 (fun _ h9 => h9) rfl (by decide +kernel) rfl rfl (Nat.le_of_ble_eq_true rfl) dX2_countFault_44 (fun H locs hP hD hS => ?_)
      have hP : va_P (dC, dI) vwCl (ndW y a (on, role, wants, sndC, rcvC + 1, nSent, nRcvd, found, found, sending, next, wanted, lastR, line, reader)) H := hP
      have hD : va_D A (ndW y a (on, role, wants, sndC, rcvC + 1, nSent, nRcvd, found, found, sending, next, wanted, lastR, line, reader)) := hD
      exact j_X2_countFault_47 C0 a K (on, role, wants, sndC, rcvC + 1, nSent, nRcvd, found, found, sending, next, wanted, lastR, line, reader) H locs ls hP hD hS (lv_sub hl [0] rfl) hf
    · replace hf := hf.2 c3
      refine lv_aload_n hx hb dX2_countFault_23 rfl (lv_at hl 0 rfl) ?_
      refine lv_dup hx hb dX2_countFault_24 rfl ?_
      refine va_get (D := (dC, dI)) (ci := 2) (v := .int sndC) (C := RX2) (T := TX2) (N := 15) hx hb hts hinX2 hown hK.1 hP 0 rfl rfl 7 (by decide) w47 (fun _ h9 => h9) rfl dX2_countFault_25 ?_
      refine lv_bipush (v := 8) hx hb dX2_countFault_28 (by decide) ?_
      refine lv_iadd hx hb dX2_countFault_30 ?_
      refine va_put (D := (dC, dI)) (ci := 2) (v := .int (sndC + 8)) (ty := .int) (C := RX2) (T := TX2) (N := 15) hx hb hts hinX2 tyX2 tyX2_ok nmX2 hown hK.1 hP hD hS 0 rfl rfl 7 (by decide) w47 (fun _ h9 => h9) rfl (by decide +kernel) rfl rfl (Nat.le_of_ble_eq_true rfl) dX2_countFault_31 (fun H locs hP hD hS => ?_)
      have hP : va_P (dC, dI) vwCl (ndW y a (on, role, wants, sndC + 8, rcvC, nSent, nRcvd, found, found, sending, next, wanted, lastR, line, reader)) H := hP
      have hD : va_D A (ndW y a (on, role, wants, sndC + 8, rcvC, nSent, nRcvd, found, found, sending, next, wanted, lastR, line, reader)) := hD
      refine lv_goto (tgt := 47) hx hb dX2_countFault_34 (by decide) ?_
      exact j_X2_countFault_47 C0 a K (on, role, wants, sndC + 8, rcvC, nSent, nRcvd, found, found, sending, next, wanted, lastR, line, reader) H locs ls hP hD hS (lv_sub hl [0] rfl) hf

def wp_X2_endReading : NodeS → (NodeS → Prop) → Prop := fun (on, role, wants, sndC, rcvC, nSent, nRcvd, lastF, found, sending, next, wanted, lastR, line, reader) K => (∀ n1 : Int32, n1 = (if rcvC - 1 < (0 : Int32) then (0 : Int32) else rcvC - 1) → wp_X0_set lastR reader.2.2.2.2.2.2.2.2.1 reader.2.2.2.2.2.2.2.2.2.1 reader.2.2.2.2.2.2.2.2.2.2.1 reader.2.2.2.2.2.2.2.2.2.2.2 (fun u2 => K (on, 1, wants, sndC, n1, nSent, nRcvd + 1, lastF, found, sending, next, wanted, u2, line, reader)))
set_option maxHeartbeats 4000000 in
set_option maxRecDepth 100000 in
theorem c_X2_endReading (l : Launch) (dC : Nat → ClassId) (dI : Nat → Nat → Nat) (y : Nat → ClassId) (a : NodeA) (sz : Nat) (S : NodeS) (K : NodeS → Prop) (hf : wp_X2_endReading S K) : MV l yX2_endReading wsX2_endReading { frames := 1, cells := 0, slots := 0, locals := 25 } dC dI y [.ref a.1] (ndW y a S) sz (fun u => ndW y a u) K := by
  refine Met.ofW (cc := cX2_endReading) (maxL := 2) (ret := none) (by decide) rfl ?_
  intro p e s m args below meth c s₁ B hml hv
  obtain ⟨rfl, hsz, hP, hK, hD0⟩ := hv
  have hx := B.exec
  have hb := B.bytes
  have hr := B.returns
  have hts := atoms_spec (ws := wsX2_endReading) B.pre
  have hown : s.vm.findClass RX2 = some m.cls := findClass_of_methodNamed B.named
  have hlocks := B.notSynchronized
  subst hsz
  have hD := hD0.self (sz := s.heap.size)
  generalize hAe : va_A (ndW y a S) s.heap.size = A at hD ⊢
  have hA : ∀ q : Nat, s.heap.size ≤ q → A q := fun q h => by rw [← hAe]; exact Or.inr h
  have hS : va_S A s.heap s.heap [] := va_S.rf
  have C0 : Cx p s m [.ref a.1].toArray meth c cX2_endReading 2 none wsX2_endReading RX2 A dC dI y := ⟨hx, hb, hr, hml, hown, hts, hlocks, hA, hK⟩
  have w18 := hts (.fieldLink RX2 18 "SharedWire$Node" "lastReceived" "LSharedWire$Frame;") (List.mem_of_getElem? (i := 10) rfl)
  have w32 := hts (.fieldLink RX2 32 "SharedWire$Node" "reader" "LSharedWire$Reader;") (List.mem_of_getElem? (i := 8) rfl)
  have w40 := hts (.fieldLink RX2 40 "SharedWire$Node" "role" "I") (List.mem_of_getElem? (i := 1) rfl)
  have w50 := hts (.fieldLink RX2 50 "SharedWire$Node" "receivingCount" "I") (List.mem_of_getElem? (i := 3) rfl)
  have w56 := hts (.fieldLink RX2 56 "SharedWire$Node" "framesReceived" "I") (List.mem_of_getElem? (i := 2) rfl)
  have w123 := hts (.methodLink RX2 123 Lib.Math.max.name) (List.mem_of_getElem? (i := 4) rfl)
  have w132 := hts (.fieldLink RX2 132 "SharedWire$Reader" "frame" "LSharedWire$Frame;") (List.mem_of_getElem? (i := 9) rfl)
  have w135 := hts (.fieldLink RX2 135 "SharedWire$Frame" "isLong" "Z") (List.mem_of_getElem? (i := 11) rfl)
  have w138 := hts (.fieldLink RX2 138 "SharedWire$Frame" "identifier" "I") (List.mem_of_getElem? (i := 12) rfl)
  have w141 := hts (.fieldLink RX2 141 "SharedWire$Frame" "data" "J") (List.mem_of_getElem? (i := 13) rfl)
  have w145 := hts (.fieldLink RX2 145 "SharedWire$Frame" "size" "I") (List.mem_of_getElem? (i := 14) rfl)
  have hinX0 : ∀ w ∈ wsX00, w ∈ wsX2_endReading := fun w h => List.mem_cons_of_mem _ (List.mem_append_right _ (h))
  have hinX2 : ∀ w ∈ wsX20, w ∈ wsX2_endReading := fun w h => List.mem_cons_of_mem _ (List.mem_append_left _ (List.mem_append_left _ (List.mem_append_right _ (h))))
  have hinX3 : ∀ w ∈ wsX30, w ∈ wsX2_endReading := fun w h => List.mem_cons_of_mem _ (List.mem_append_left _ (List.mem_append_right _ (h)))
  have hl := lv_entry ([.ref a.1]) (n := 2) (Nat.le_of_ble_eq_true rfl)
  rw [lg_entry_eq]
  generalize (lg_sl ([.ref a.1]) ++ List.replicate (2 - (lg_sl ([.ref a.1])).length) Slot.unset).toArray = ls at hl ⊢
  have hl : lv_has ls 2 [(0, .ref a.1)] := hl
  obtain ⟨on, role, wants, sndC, rcvC, nSent, nRcvd, lastF, found, sending, next, wanted, lastR, line, reader⟩ := S
  clear hAe hD0
  generalize hL0 : ([] : List Loc) = locs at hS ⊢
  unfold wp_X2_endReading at hf
  refine lv_aload_n hx hb dX2_endReading_0 rfl (lv_at hl 0 rfl) ?_
  refine lv_iconst (v := 1) hx hb dX2_endReading_1 (by decide) ?_
  refine va_put (D := (dC, dI)) (ci := 2) (v := .int 1) (ty := .int) (C := RX2) (T := TX2) (N := 15) hx hb hts hinX2 tyX2 tyX2_ok nmX2 hown hK.1 hP hD hS 0 rfl rfl 5 (by decide) w40 (fun _ h9 => h9) rfl (by decide +kernel) rfl rfl (Nat.le_of_ble_eq_true rfl) dX2_endReading_2 (fun H locs hP hD hS => ?_)
  have hP : va_P (dC, dI) vwCl (ndW y a (on, 1, wants, sndC, rcvC, nSent, nRcvd, lastF, found, sending, next, wanted, lastR, line, reader)) H := hP
  have hD : va_D A (ndW y a (on, 1, wants, sndC, rcvC, nSent, nRcvd, lastF, found, sending, next, wanted, lastR, line, reader)) := hD
  refine lv_aload_n hx hb dX2_endReading_5 rfl (lv_at hl 0 rfl) ?_
  refine lv_dup hx hb dX2_endReading_6 rfl ?_
  refine va_get (D := (dC, dI)) (ci := 2) (v := .int nRcvd) (C := RX2) (T := TX2) (N := 15) hx hb hts hinX2 hown hK.1 hP 0 rfl rfl 10 (by decide) w56 (fun _ h9 => h9) rfl dX2_endReading_7 ?_
  refine lv_iconst (v := 1) hx hb dX2_endReading_10 (by decide) ?_
  refine lv_iadd hx hb dX2_endReading_11 ?_
  refine va_put (D := (dC, dI)) (ci := 2) (v := .int (nRcvd + 1)) (ty := .int) (C := RX2) (T := TX2) (N := 15) hx hb hts hinX2 tyX2 tyX2_ok nmX2 hown hK.1 hP hD hS 0 rfl rfl 10 (by decide) w56 (fun _ h9 => h9) rfl (by decide +kernel) rfl rfl (Nat.le_of_ble_eq_true rfl) dX2_endReading_12 (fun H locs hP hD hS => ?_)
  have hP : va_P (dC, dI) vwCl (ndW y a (on, 1, wants, sndC, rcvC, nSent, nRcvd + 1, lastF, found, sending, next, wanted, lastR, line, reader)) H := hP
  have hD : va_D A (ndW y a (on, 1, wants, sndC, rcvC, nSent, nRcvd + 1, lastF, found, sending, next, wanted, lastR, line, reader)) := hD
  refine lv_aload_n hx hb dX2_endReading_15 rfl (lv_at hl 0 rfl) ?_
  refine lv_aload_n hx hb dX2_endReading_16 rfl (lv_at hl 0 rfl) ?_
  refine va_get (D := (dC, dI)) (ci := 2) (v := .int rcvC) (C := RX2) (T := TX2) (N := 15) hx hb hts hinX2 hown hK.1 hP 0 rfl rfl 8 (by decide) w50 (fun _ h9 => h9) rfl dX2_endReading_17 ?_
  refine lv_iconst (v := 1) hx hb dX2_endReading_20 (by decide) ?_
  refine lv_isub hx hb dX2_endReading_21 ?_
  refine lv_iconst (v := 0) hx hb dX2_endReading_22 (by decide) ?_
  refine va_mmax hx hb (hml.trans hl.1.symm) hown w123 (hts (.static Lib.Math.max.name) (List.mem_of_getElem? (i := 5) rfl)) (hts (.initialized "java/lang/Math") (List.mem_of_getElem? (i := 6) rfl)) (hts (.code Lib.Math.max.name Lib.Math.max.code 2 (some .int)) (List.mem_of_getElem? (i := 7) rfl)) (Nat.le_of_ble_eq_true rfl) (Nat.le_of_ble_eq_true rfl) (Nat.zero_le _) (Nat.zero_le _) dX2_endReading_23 ?_
  refine lv_topi (fun n1 en1 => ?_)
  replace hf := hf n1 en1
  refine va_put (D := (dC, dI)) (ci := 2) (v := .int n1) (ty := .int) (C := RX2) (T := TX2) (N := 15) hx hb hts hinX2 tyX2 tyX2_ok nmX2 hown hK.1 hP hD hS 0 rfl rfl 8 (by decide) w50 (fun _ h9 => h9) rfl (by decide +kernel) rfl rfl (Nat.le_of_ble_eq_true rfl) dX2_endReading_26 (fun H locs hP hD hS => ?_)
  have hP : va_P (dC, dI) vwCl (ndW y a (on, 1, wants, sndC, n1, nSent, nRcvd + 1, lastF, found, sending, next, wanted, lastR, line, reader)) H := hP
  have hD : va_D A (ndW y a (on, 1, wants, sndC, n1, nSent, nRcvd + 1, lastF, found, sending, next, wanted, lastR, line, reader)) := hD
  refine lv_aload_n hx hb dX2_endReading_29 rfl (lv_at hl 0 rfl) ?_
  refine va_get (D := (dC, dI)) (ci := 2) (v := .ref a.2.2.2.2.2.1) (C := RX2) (T := TX2) (N := 15) hx hb hts hinX2 hown hK.1 hP 0 rfl rfl 3 (by decide) w32 (fun _ h9 => h9) rfl dX2_endReading_30 ?_
  refine va_get (D := (dC, dI)) (ci := 3) (v := .ref a.2.2.2.2.2.2) (C := RX3) (T := TX3) (N := 9) hx hb hts hinX3 hown hK.1 hP 10 rfl rfl 0 (by decide) w132 (fun _ h9 => h9) rfl dX2_endReading_33 ?_
  refine lv_astore_n (lv' := [(1, .ref a.2.2.2.2.2.2), (0, .ref a.1)]) hx hb dX2_endReading_36 rfl hl (by decide) rfl (fun ls hl => ?_)
  refine lv_aload_n hx hb dX2_endReading_37 rfl (lv_at hl 1 rfl) ?_
  refine va_get (D := (dC, dI)) (ci := 2) (v := .ref a.2.2.2.1) (C := RX2) (T := TX2) (N := 15) hx hb hts hinX2 hown hK.1 hP 0 rfl rfl 1 (by decide) w18 (fun _ h9 => h9) rfl dX2_endReading_38 ?_
  refine lv_aload_n hx hb dX2_endReading_41 rfl (lv_at hl 0 rfl) ?_
  refine va_get (D := (dC, dI)) (ci := 0) (v := .int reader.2.2.2.2.2.2.2.2.1) (C := RX0) (T := TX0) (N := 4) hx hb hts hinX0 hown hK.1 hP 11 rfl rfl 0 (by decide) w135 (fun _ h9 => h9) rfl dX2_endReading_42 ?_
  refine lv_aload_n hx hb dX2_endReading_45 rfl (lv_at hl 0 rfl) ?_
  refine va_get (D := (dC, dI)) (ci := 0) (v := .int reader.2.2.2.2.2.2.2.2.2.1) (C := RX0) (T := TX0) (N := 4) hx hb hts hinX0 hown hK.1 hP 11 rfl rfl 1 (by decide) w138 (fun _ h9 => h9) rfl dX2_endReading_46 ?_
  refine lv_aload_n hx hb dX2_endReading_49 rfl (lv_at hl 0 rfl) ?_
  refine va_get (D := (dC, dI)) (ci := 0) (v := .long reader.2.2.2.2.2.2.2.2.2.2.1) (C := RX0) (T := TX0) (N := 4) hx hb hts hinX0 hown hK.1 hP 11 rfl rfl 2 (by decide) w141 (fun _ h9 => h9) rfl dX2_endReading_50 ?_
  refine lv_aload_n hx hb dX2_endReading_53 rfl (lv_at hl 0 rfl) ?_
  refine va_get (D := (dC, dI)) (ci := 0) (v := .int reader.2.2.2.2.2.2.2.2.2.2.2) (C := RX0) (T := TX0) (N := 4) hx hb hts hinX0 hown hK.1 hP 11 rfl rfl 3 (by decide) w145 (fun _ h9 => h9) rfl dX2_endReading_54 ?_
  refine kVv (As := [.int reader.2.2.2.2.2.2.2.2.1, .int reader.2.2.2.2.2.2.2.2.2.1, .long reader.2.2.2.2.2.2.2.2.2.2.1, .int reader.2.2.2.2.2.2.2.2.2.2.2]) (rest := []) (pre := (ndW y a (on, 1, wants, sndC, n1, nSent, nRcvd + 1, lastF, found, sending, next, wanted, lastR, line, reader)).take 6) (post := (ndW y a (on, 1, wants, sndC, n1, nSent, nRcvd + 1, lastF, found, sending, next, wanted, lastR, line, reader)).drop 7) ⟨hx, hb, hml, hown, hts⟩ (c_X0_set l dC dI y a.2.2.2.1 H.size lastR reader.2.2.2.2.2.2.2.2.1 reader.2.2.2.2.2.2.2.2.2.1 reader.2.2.2.2.2.2.2.2.2.2.1 reader.2.2.2.2.2.2.2.2.2.2.2 _ hf) (cwV 4 hts gX2_endReading_X0_set rfl rfl rfl (by decide +kernel) ⟨Nat.le_of_ble_eq_true rfl, Nat.le_of_ble_eq_true rfl⟩) hK hP hD (va_recv hK.1 hP (ci := 0) (q0 := 6) rfl rfl) hS hA rfl hl.1 rfl (Nat.le_of_ble_eq_true rfl) dX2_endReading_57 ⟨Nat.zero_le _, Nat.zero_le _⟩ (fun u2 H locs hf hP hD hS => ?_)
  have hP : va_P (dC, dI) vwCl (ndW y a (on, 1, wants, sndC, n1, nSent, nRcvd + 1, lastF, found, sending, next, wanted, u2, line, reader)) H := hP
  have hD : va_D A (ndW y a (on, 1, wants, sndC, n1, nSent, nRcvd + 1, lastF, found, sending, next, wanted, u2, line, reader)) := hD
  exact W.vret hx hb hr (fun t ht hW => ⟨⟨(on, 1, wants, sndC, n1, nSent, nRcvd + 1, lastF, found, sending, next, wanted, u2, line, reader), rfl, hf, by rw [ht]; exact hP, hD⟩, hS.F ht⟩) hS.2.2 dX2_endReading_60
