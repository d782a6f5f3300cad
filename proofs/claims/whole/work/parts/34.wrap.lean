def wl_want (S : WireS) (f : Nat → Int64) (p0 : Int32) (p1 : Int32) (p2 : Int32) (p3 : Int64) (p4 : Int32) (K : Int32 → WireS → (Nat → Int64) → Prop) : Prop := wp_X4_want S p0 p1 p2 p3 p4 (fun r u => K 0 u (vp_updL f 0 r.toInt64)) (fun E u => (E = "java/lang/IndexOutOfBoundsException" ∧ K 1 u f) ∨ (E = "java/lang/IllegalArgumentException" ∧ K 2 u f) ∨ (E = "java/lang/UnsupportedOperationException" ∧ K 3 u f))
set_option maxHeartbeats 4000000 in
set_option maxRecDepth 100000 in
theorem c_L_want (l : Launch) (dC : Nat → ClassId) (dI : Nat → Nat → Nat) (y : Nat → ClassId) (a : WireA) (gs : Nat → Nat → Nat) (o sz : Nat) (S : WireS) (f : Nat → Int64) (p0 : Int32) (p1 : Int32) (p2 : Int32) (p3 : Int64) (p4 : Int32) (K : Int32 → WireS → (Nat → Int64) → Prop) (hst : l.stackTraces = false) (hf : wl_want S f p0 p1 p2 p3 p4 K) : MW l yL_want wsL_want { frames := 7, cells := 1, slots := 6, locals := 117 } dC dI y [.ref a.1, .int p0, .int p1, .int p2, .long p3, .int p4, .ref o] a o (woW y a o gs S f) sz K := by
  refine Met_ofWH (cc := cL_want) (maxL := 9) (ret := some .int) (hh := [(0, 16, 19, 13), (0, 16, 23, 15), (0, 16, 27, 17)]) (by decide) rfl ?_
  intro p e s m args below meth c s₁ B hml htab hv
  obtain ⟨rfl, hsz, hP, hK, hXW, hCW, hZ, hD0⟩ := hv
  have hx := B.exec
  have hb := B.bytes
  have hr := B.returns
  have hts := atoms_spec (ws := wsL_want) B.pre
  have hown : s.vm.findClass RL = some m.cls := findClass_of_methodNamed B.named
  have hlocks := B.notSynchronized
  subst hsz
  have hD := hD0.self (sz := s.heap.size)
  generalize hAe : va_A (woW y a o gs S f) s.heap.size = A at hD hZ ⊢
  have hA : ∀ q : Nat, s.heap.size ≤ q → A q := fun q h => by rw [← hAe]; exact Or.inr h
  have hS : va_S A s.heap s.heap [] := va_S.rf
  clear hAe hD0
  have w13 := hts (Cond.classLink RL 13 "java/lang/IndexOutOfBoundsException") (List.mem_of_getElem? (i := 1) rfl)
  have w15 := hts (Cond.classLink RL 15 "java/lang/IllegalArgumentException") (List.mem_of_getElem? (i := 2) rfl)
  have w17 := hts (Cond.classLink RL 17 "java/lang/UnsupportedOperationException") (List.mem_of_getElem? (i := 3) rfl)
  have hl := lv_entry ([.ref a.1, .int p0, .int p1, .int p2, .long p3, .int p4, .ref o]) (n := 9) (Nat.le_of_ble_eq_true rfl)
  rw [lg_entry_eq]
  generalize (lg_sl ([.ref a.1, .int p0, .int p1, .int p2, .long p3, .int p4, .ref o]) ++ List.replicate (9 - (lg_sl ([.ref a.1, .int p0, .int p1, .int p2, .long p3, .int p4, .ref o])).length) Slot.unset).toArray = ls at hl ⊢
  have hl : lv_has ls 9 [(0, .ref a.1), (1, .int p0), (2, .int p1), (3, .int p2), (4, .long p3), (6, .int p4), (7, .ref o)] := hl
  unfold wl_want at hf
  refine lv_aload hx hb dL_want_0 (lv_at hl 6 rfl) ?_
  refine lv_iconst (v := 0) hx hb dL_want_2 (by decide) ?_
  refine lv_aload_n hx hb dL_want_3 rfl (lv_at hl 0 rfl) ?_
  refine lv_iload_n hx hb dL_want_4 rfl (lv_at hl 1 rfl) ?_
  refine lv_iload_n hx hb dL_want_5 rfl (lv_at hl 2 rfl) ?_
  refine lv_iload_n hx hb dL_want_6 rfl (lv_at hl 3 rfl) ?_
  refine lv_lload hx hb dL_want_7 (lv_at hl 4 rfl) ?_
  refine lv_iload hx hb dL_want_9 (lv_at hl 5 rfl) ?_
  refine kXi (As := [.int p0, .int p1, .int p2, .long p3, .int p4]) (rest := [.int 0, .ref o]) (pre := []) (post := ouW y o f) ⟨hx, hb, hml, hown, hts⟩ (c_X4_want l dC dI y a gs s.heap.size S p0 p1 p2 p3 p4 _ _ hst hf) (cwV 5 hts gL_want_X4_want rfl rfl rfl (by decide +kernel) ⟨Nat.le_of_ble_eq_true rfl, Nat.le_of_ble_eq_true rfl⟩) hK hXW hZ hP hD (va_recv hK.1 hP (ci := 4) (q0 := 0) rfl rfl) hS hA rfl hl.1 rfl (Nat.le_of_ble_eq_true rfl) dL_want_11 ⟨Nat.le_of_ble_eq_true rfl, Nat.le_of_ble_eq_true rfl⟩ (fun E ce q9 u H locs hf hP hD hS hce hcv hcl => ?_) (fun r u H locs hf hP hD hS => ?_)
  · have hP : va_P (dC, dI) vwCl (woW y a o gs u f) H := hP
    have hD : va_D A (woW y a o gs u f) := hD
    rcases hf with ⟨rfl, hf⟩ | ⟨rfl, hf⟩ | ⟨rfl, hf⟩
    · refine vx_catch (own := RL) (name := "java/lang/IndexOutOfBoundsException") hown [] ⟨0, 16, 19, 13⟩ [⟨0, 16, 23, 15⟩, ⟨0, 16, 27, 17⟩] (by rw [htab]; rfl) (fun z hz => absurd hz List.not_mem_nil) (by decide) (by decide) w13 (va_Nw.use rfl hXW.2.2.2.1) hce hcv hcl ?_
      refine lv_astore (lv' := [(8, .ref q9), (0, .ref a.1), (1, .int p0), (2, .int p1), (3, .int p2), (4, .long p3), (6, .int p4), (7, .ref o)]) hx hb dL_want_19 hl (by decide) rfl (fun ls hl => ?_)
      refine lv_iconst (v := 1) hx hb dL_want_21 (by decide) ?_
      exact W.iret (v := 1) hx hb hr (fun t ht hW => ⟨⟨1, (u, gs, f), rfl, hf, by rw [ht]; exact hP, hD⟩, hS.F ht⟩) hS.2.2 dL_want_22
    · refine vx_catch (own := RL) (name := "java/lang/IllegalArgumentException") hown [⟨0, 16, 19, 13⟩] ⟨0, 16, 23, 15⟩ [⟨0, 16, 27, 17⟩] (by rw [htab]; rfl) (fun z hz => by
      rcases List.mem_cons.mp hz with rfl | hz
      · exact Or.inr ⟨by decide, _, w13, hCW.1⟩
      exact absurd hz List.not_mem_nil) (by decide) (by decide) w15 (va_Nw.use rfl hXW.2.2.2.2.1) hce hcv hcl ?_
      refine lv_astore (lv' := [(8, .ref q9), (0, .ref a.1), (1, .int p0), (2, .int p1), (3, .int p2), (4, .long p3), (6, .int p4), (7, .ref o)]) hx hb dL_want_23 hl (by decide) rfl (fun ls hl => ?_)
      refine lv_iconst (v := 2) hx hb dL_want_25 (by decide) ?_
      exact W.iret (v := 2) hx hb hr (fun t ht hW => ⟨⟨2, (u, gs, f), rfl, hf, by rw [ht]; exact hP, hD⟩, hS.F ht⟩) hS.2.2 dL_want_26
    · refine vx_catch (own := RL) (name := "java/lang/UnsupportedOperationException") hown [⟨0, 16, 19, 13⟩, ⟨0, 16, 23, 15⟩] ⟨0, 16, 27, 17⟩ [] (by rw [htab]; rfl) (fun z hz => by
      rcases List.mem_cons.mp hz with rfl | hz
      · exact Or.inr ⟨by decide, _, w13, hCW.2.1⟩
      rcases List.mem_cons.mp hz with rfl | hz
      · exact Or.inr ⟨by decide, _, w15, hCW.2.2.1⟩
      exact absurd hz List.not_mem_nil) (by decide) (by decide) w17 (va_Nw.use rfl hXW.2.2.2.2.2.1) hce hcv hcl ?_
      refine lv_astore (lv' := [(8, .ref q9), (0, .ref a.1), (1, .int p0), (2, .int p1), (3, .int p2), (4, .long p3), (6, .int p4), (7, .ref o)]) hx hb dL_want_27 hl (by decide) rfl (fun ls hl => ?_)
      refine lv_iconst (v := 3) hx hb dL_want_29 (by decide) ?_
      exact W.iret (v := 3) hx hb hr (fun t ht hW => ⟨⟨3, (u, gs, f), rfl, hf, by rw [ht]; exact hP, hD⟩, hS.F ht⟩) hS.2.2 dL_want_30
  · have hP : va_P (dC, dI) vwCl (woW y a o gs u f) H := hP
    have hD : va_D A (woW y a o gs u f) := hD
    refine lv_i2l (v := r.toInt64) hx hb dL_want_14 rfl ?_
    refine ar_lst (f := f) (j := 0) hx hb hK.1 hP hD hS 56 1 rfl rfl (clamp_lit 0 rfl) (vin_lit 0 1 rfl rfl) dL_want_15 (fun H locs hP hD hS => ?_)
    have hP : va_P (dC, dI) vwCl (woW y a o gs u (vp_updL f 0 r.toInt64)) H := hP
    have hD : va_D A (woW y a o gs u (vp_updL f 0 r.toInt64)) := hD
    refine lv_goto (tgt := 31) hx hb dL_want_16 (by decide) ?_
    refine lv_iconst (v := 0) hx hb dL_want_31 (by decide) ?_
    exact W.iret (v := 0) hx hb hr (fun t ht hW => ⟨⟨0, (u, gs, (vp_updL f 0 r.toInt64)), rfl, hf, by rw [ht]; exact hP, hD⟩, hS.F ht⟩) hS.2.2 dL_want_32

def wl_step (S : WireS) (f : Nat → Int64) (p0 : Int32) (p1 : Int32) (K : Int32 → WireS → (Nat → Int64) → Prop) : Prop := wp_X4_step S p0 p1 (fun r u => K 0 u (vp_updL f 0 r.toInt64)) (fun E u => (E = "java/lang/IllegalArgumentException" ∧ K 1 u f))
set_option maxHeartbeats 4000000 in
set_option maxRecDepth 100000 in
theorem c_L_step (l : Launch) (dC : Nat → ClassId) (dI : Nat → Nat → Nat) (y : Nat → ClassId) (a : WireA) (gs : Nat → Nat → Nat) (o sz : Nat) (S : WireS) (f : Nat → Int64) (p0 : Int32) (p1 : Int32) (K : Int32 → WireS → (Nat → Int64) → Prop) (hst : l.stackTraces = false) (hf : wl_step S f p0 p1 K) : MW l yL_step wsL_step { frames := 8, cells := 1, slots := 6, locals := 179 } dC dI y [.ref a.1, .int p0, .int p1, .ref o] a o (woW y a o gs S f) sz K := by
  refine Met_ofWH (cc := cL_step) (maxL := 5) (ret := some .int) (hh := [(0, 10, 13, 15)]) (by decide) rfl ?_
  intro p e s m args below meth c s₁ B hml htab hv
  obtain ⟨rfl, hsz, hP, hK, hXW, hCW, hZ, hD0⟩ := hv
  have hx := B.exec
  have hb := B.bytes
  have hr := B.returns
  have hts := atoms_spec (ws := wsL_step) B.pre
  have hown : s.vm.findClass RL = some m.cls := findClass_of_methodNamed B.named
  have hlocks := B.notSynchronized
  subst hsz
  have hD := hD0.self (sz := s.heap.size)
  generalize hAe : va_A (woW y a o gs S f) s.heap.size = A at hD hZ ⊢
  have hA : ∀ q : Nat, s.heap.size ≤ q → A q := fun q h => by rw [← hAe]; exact Or.inr h
  have hS : va_S A s.heap s.heap [] := va_S.rf
  clear hAe hD0
  have w15 := hts (Cond.classLink RL 15 "java/lang/IllegalArgumentException") (List.mem_of_getElem? (i := 1) rfl)
  have hl := lv_entry ([.ref a.1, .int p0, .int p1, .ref o]) (n := 5) (Nat.le_of_ble_eq_true rfl)
  rw [lg_entry_eq]
  generalize (lg_sl ([.ref a.1, .int p0, .int p1, .ref o]) ++ List.replicate (5 - (lg_sl ([.ref a.1, .int p0, .int p1, .ref o])).length) Slot.unset).toArray = ls at hl ⊢
  have hl : lv_has ls 5 [(0, .ref a.1), (1, .int p0), (2, .int p1), (3, .ref o)] := hl
  unfold wl_step at hf
  refine lv_aload_n hx hb dL_step_0 rfl (lv_at hl 3 rfl) ?_
  refine lv_iconst (v := 0) hx hb dL_step_1 (by decide) ?_
  refine lv_aload_n hx hb dL_step_2 rfl (lv_at hl 0 rfl) ?_
  refine lv_iload_n hx hb dL_step_3 rfl (lv_at hl 1 rfl) ?_
  refine lv_iload_n hx hb dL_step_4 rfl (lv_at hl 2 rfl) ?_
  refine kXi (As := [.int p0, .int p1]) (rest := [.int 0, .ref o]) (pre := []) (post := ouW y o f) ⟨hx, hb, hml, hown, hts⟩ (c_X4_step l dC dI y a gs s.heap.size S p0 p1 _ _ hst hf) (cwV 2 hts gL_step_X4_step rfl rfl rfl (by decide +kernel) ⟨Nat.le_of_ble_eq_true rfl, Nat.le_of_ble_eq_true rfl⟩) hK hXW hZ hP hD (va_recv hK.1 hP (ci := 4) (q0 := 0) rfl rfl) hS hA rfl hl.1 rfl (Nat.le_of_ble_eq_true rfl) dL_step_5 ⟨Nat.le_of_ble_eq_true rfl, Nat.le_of_ble_eq_true rfl⟩ (fun E ce q9 u H locs hf hP hD hS hce hcv hcl => ?_) (fun r u H locs hf hP hD hS => ?_)
  · have hP : va_P (dC, dI) vwCl (woW y a o u.2 u.1 f) H := hP
    have hD : va_D A (woW y a o u.2 u.1 f) := hD
    rcases hf with ⟨rfl, hf⟩
    · refine vx_catch (own := RL) (name := "java/lang/IllegalArgumentException") hown [] ⟨0, 10, 13, 15⟩ [] (by rw [htab]; rfl) (fun z hz => absurd hz List.not_mem_nil) (by decide) (by decide) w15 (va_Nw.use rfl hXW.2.2.2.2.1) hce hcv hcl ?_
      refine lv_astore (lv' := [(4, .ref q9), (0, .ref a.1), (1, .int p0), (2, .int p1), (3, .ref o)]) hx hb dL_step_13 hl (by decide) rfl (fun ls hl => ?_)
      refine lv_iconst (v := 1) hx hb dL_step_15 (by decide) ?_
      exact W.iret (v := 1) hx hb hr (fun t ht hW => ⟨⟨1, (u.1, u.2, f), rfl, hf, by rw [ht]; exact hP, hD⟩, hS.F ht⟩) hS.2.2 dL_step_16
  · have hP : va_P (dC, dI) vwCl (woW y a o u.2 u.1 f) H := hP
    have hD : va_D A (woW y a o u.2 u.1 f) := hD
    refine lv_i2l (v := r.toInt64) hx hb dL_step_8 rfl ?_
    refine ar_lst (f := f) (j := 0) hx hb hK.1 hP hD hS 56 1 rfl rfl (clamp_lit 0 rfl) (vin_lit 0 1 rfl rfl) dL_step_9 (fun H locs hP hD hS => ?_)
    have hP : va_P (dC, dI) vwCl (woW y a o u.2 u.1 (vp_updL f 0 r.toInt64)) H := hP
    have hD : va_D A (woW y a o u.2 u.1 (vp_updL f 0 r.toInt64)) := hD
    refine lv_goto (tgt := 17) hx hb dL_step_10 (by decide) ?_
    refine lv_iconst (v := 0) hx hb dL_step_17 (by decide) ?_
    exact W.iret (v := 0) hx hb hr (fun t ht hW => ⟨⟨0, (u.1, u.2, (vp_updL f 0 r.toInt64)), rfl, hf, by rw [ht]; exact hP, hD⟩, hS.F ht⟩) hS.2.2 dL_step_18

def wl_join (S : WireS) (f : Nat → Int64) (p0 : Int32) (K : Int32 → WireS → (Nat → Int64) → Prop) : Prop := wp_X4_join S p0 (fun r u => (r = 0 → K 0 u (vp_updL f 0 0)) ∧ (¬ r = 0 → K 0 u (vp_updL f 0 1))) (fun E u => (E = "java/lang/IndexOutOfBoundsException" ∧ K 1 u f))
set_option maxHeartbeats 4000000 in
set_option maxRecDepth 100000 in
theorem c_L_join (l : Launch) (dC : Nat → ClassId) (dI : Nat → Nat → Nat) (y : Nat → ClassId) (a : WireA) (gs : Nat → Nat → Nat) (o sz : Nat) (S : WireS) (f : Nat → Int64) (p0 : Int32) (K : Int32 → WireS → (Nat → Int64) → Prop) (hst : l.stackTraces = false) (hf : wl_join S f p0 K) : MW l yL_join wsL_join { frames := 7, cells := 1, slots := 6, locals := 111 } dC dI y [.ref a.1, .int p0, .ref o] a o (woW y a o gs S f) sz K := by
  refine Met_ofWH (cc := cL_join) (maxL := 4) (ret := some .int) (hh := [(0, 16, 19, 13)]) (by decide) rfl ?_
  intro p e s m args below meth c s₁ B hml htab hv
  obtain ⟨rfl, hsz, hP, hK, hXW, hCW, hZ, hD0⟩ := hv
  have hx := B.exec
  have hb := B.bytes
  have hr := B.returns
  have hts := atoms_spec (ws := wsL_join) B.pre
  have hown : s.vm.findClass RL = some m.cls := findClass_of_methodNamed B.named
  have hlocks := B.notSynchronized
  subst hsz
  have hD := hD0.self (sz := s.heap.size)
  generalize hAe : va_A (woW y a o gs S f) s.heap.size = A at hD hZ ⊢
  have hA : ∀ q : Nat, s.heap.size ≤ q → A q := fun q h => by rw [← hAe]; exact Or.inr h
  have hS : va_S A s.heap s.heap [] := va_S.rf
  clear hAe hD0
  have w13 := hts (.classLink RL 13 "java/lang/IndexOutOfBoundsException") (List.mem_of_getElem? (i := 1) rfl)
  have hl := lv_entry ([.ref a.1, .int p0, .ref o]) (n := 4) (Nat.le_of_ble_eq_true rfl)
  rw [lg_entry_eq]
  generalize (lg_sl ([.ref a.1, .int p0, .ref o]) ++ List.replicate (4 - (lg_sl ([.ref a.1, .int p0, .ref o])).length) Slot.unset).toArray = ls at hl ⊢
  have hl : lv_has ls 4 [(0, .ref a.1), (1, .int p0), (2, .ref o)] := hl
  unfold wl_join at hf
  refine lv_aload_n hx hb dL_join_0 rfl (lv_at hl 2 rfl) ?_
  refine lv_iconst (v := 0) hx hb dL_join_1 (by decide) ?_
  refine lv_aload_n hx hb dL_join_2 rfl (lv_at hl 0 rfl) ?_
  refine lv_iload_n hx hb dL_join_3 rfl (lv_at hl 1 rfl) ?_
  refine kXi (As := [.int p0]) (rest := [.int 0, .ref o]) (pre := []) (post := ouW y o f) ⟨hx, hb, hml, hown, hts⟩ (c_X4_join l dC dI y a gs s.heap.size S p0 _ _ hst hf) (cwV 1 hts gL_join_X4_join rfl rfl rfl (by decide +kernel) ⟨Nat.le_of_ble_eq_true rfl, Nat.le_of_ble_eq_true rfl⟩) hK hXW hZ hP hD (va_recv hK.1 hP (ci := 4) (q0 := 0) rfl rfl) hS hA rfl hl.1 rfl (Nat.le_of_ble_eq_true rfl) dL_join_4 ⟨Nat.le_of_ble_eq_true rfl, Nat.le_of_ble_eq_true rfl⟩ (fun E ce q9 u H locs hf hP hD hS hce hcv hcl => ?_) (fun r u H locs hf hP hD hS => ?_)
  · have hP : va_P (dC, dI) vwCl (woW y a o gs u f) H := hP
    have hD : va_D A (woW y a o gs u f) := hD
    rcases hf with ⟨rfl, hf⟩
    · refine vx_catch (own := RL) (name := "java/lang/IndexOutOfBoundsException") hown [] ⟨0, 16, 19, 13⟩ [] (by rw [htab]; rfl) (fun z hz => absurd hz List.not_mem_nil) (by decide) (by decide) w13 (va_Nw.use rfl hXW.2.2.2.1) hce hcv hcl ?_
      refine lv_astore_n (lv' := [(3, .ref q9), (0, .ref a.1), (1, .int p0), (2, .ref o)]) hx hb dL_join_19 rfl hl (by decide) rfl (fun ls hl => ?_)
      refine lv_iconst (v := 1) hx hb dL_join_20 (by decide) ?_
      exact W.iret (v := 1) hx hb hr (fun t ht hW => ⟨⟨1, (u, gs, f), rfl, hf, by rw [ht]; exact hP, hD⟩, hS.F ht⟩) hS.2.2 dL_join_21
  · have hP : va_P (dC, dI) vwCl (woW y a o gs u f) H := hP
    have hD : va_D A (woW y a o gs u f) := hD
    refine lv_if_eq (tgt := 14) hx hb dL_join_7 (by decide) (fun c1 => ?_) (fun c1 => ?_)
    · replace hf := hf.1 c1
      refine lv_lconst (v := 0) hx hb dL_join_14 (by decide) ?_
      refine ar_lst (f := f) (j := 0) hx hb hK.1 hP hD hS 56 1 rfl rfl (clamp_lit 0 rfl) (vin_lit 0 1 rfl rfl) dL_join_15 (fun H locs hP hD hS => ?_)
      have hP : va_P (dC, dI) vwCl (woW y a o gs u (vp_updL f 0 0)) H := hP
      have hD : va_D A (woW y a o gs u (vp_updL f 0 0)) := hD
      refine lv_goto (tgt := 22) hx hb dL_join_16 (by decide) ?_
      refine lv_iconst (v := 0) hx hb dL_join_22 (by decide) ?_
      exact W.iret (v := 0) hx hb hr (fun t ht hW => ⟨⟨0, (u, gs, (vp_updL f 0 0)), rfl, hf, by rw [ht]; exact hP, hD⟩, hS.F ht⟩) hS.2.2 dL_join_23
    · replace hf := hf.2 c1
      refine lv_lconst (v := 1) hx hb dL_join_10 (by decide) ?_
      refine lv_goto (tgt := 15) hx hb dL_join_11 (by decide) ?_
      refine ar_lst (f := f) (j := 0) hx hb hK.1 hP hD hS 56 1 rfl rfl (clamp_lit 0 rfl) (vin_lit 0 1 rfl rfl) dL_join_15 (fun H locs hP hD hS => ?_)
      have hP : va_P (dC, dI) vwCl (woW y a o gs u (vp_updL f 0 1)) H := hP
      have hD : va_D A (woW y a o gs u (vp_updL f 0 1)) := hD
      refine lv_goto (tgt := 22) hx hb dL_join_16 (by decide) ?_
      refine lv_iconst (v := 0) hx hb dL_join_22 (by decide) ?_
      exact W.iret (v := 0) hx hb hr (fun t ht hW => ⟨⟨0, (u, gs, (vp_updL f 0 1)), rfl, hf, by rw [ht]; exact hP, hD⟩, hS.F ht⟩) hS.2.2 dL_join_23

def wl_node (S : WireS) (f : Nat → Int64) (p0 : Int32) (p1 : Int32) (K : Int32 → WireS → (Nat → Int64) → Prop) : Prop := wp_X4_node S p0 p1 (fun r u => K 0 u (vp_updL f 0 r.toInt64)) (fun E u => (E = "java/lang/IndexOutOfBoundsException" ∧ K 1 u f))
set_option maxHeartbeats 4000000 in
set_option maxRecDepth 100000 in
theorem c_L_node (l : Launch) (dC : Nat → ClassId) (dI : Nat → Nat → Nat) (y : Nat → ClassId) (a : WireA) (gs : Nat → Nat → Nat) (o sz : Nat) (S : WireS) (f : Nat → Int64) (p0 : Int32) (p1 : Int32) (K : Int32 → WireS → (Nat → Int64) → Prop) (hst : l.stackTraces = false) (hf : wl_node S f p0 p1 K) : MW l yL_node wsL_node { frames := 7, cells := 1, slots := 6, locals := 112 } dC dI y [.ref a.1, .int p0, .int p1, .ref o] a o (woW y a o gs S f) sz K := by
  refine Met_ofWH (cc := cL_node) (maxL := 5) (ret := some .int) (hh := [(0, 10, 13, 13)]) (by decide) rfl ?_
  intro p e s m args below meth c s₁ B hml htab hv
  obtain ⟨rfl, hsz, hP, hK, hXW, hCW, hZ, hD0⟩ := hv
  have hx := B.exec
  have hb := B.bytes
  have hr := B.returns
  have hts := atoms_spec (ws := wsL_node) B.pre
  have hown : s.vm.findClass RL = some m.cls := findClass_of_methodNamed B.named
  have hlocks := B.notSynchronized
  subst hsz
  have hD := hD0.self (sz := s.heap.size)
  generalize hAe : va_A (woW y a o gs S f) s.heap.size = A at hD hZ ⊢
  have hA : ∀ q : Nat, s.heap.size ≤ q → A q := fun q h => by rw [← hAe]; exact Or.inr h
  have hS : va_S A s.heap s.heap [] := va_S.rf
  clear hAe hD0
  have w13 := hts (.classLink RL 13 "java/lang/IndexOutOfBoundsException") (List.mem_of_getElem? (i := 1) rfl)
  have hl := lv_entry ([.ref a.1, .int p0, .int p1, .ref o]) (n := 5) (Nat.le_of_ble_eq_true rfl)
  rw [lg_entry_eq]
  generalize (lg_sl ([.ref a.1, .int p0, .int p1, .ref o]) ++ List.replicate (5 - (lg_sl ([.ref a.1, .int p0, .int p1, .ref o])).length) Slot.unset).toArray = ls at hl ⊢
  have hl : lv_has ls 5 [(0, .ref a.1), (1, .int p0), (2, .int p1), (3, .ref o)] := hl
  unfold wl_node at hf
  refine lv_aload_n hx hb dL_node_0 rfl (lv_at hl 3 rfl) ?_
  refine lv_iconst (v := 0) hx hb dL_node_1 (by decide) ?_
  refine lv_aload_n hx hb dL_node_2 rfl (lv_at hl 0 rfl) ?_
  refine lv_iload_n hx hb dL_node_3 rfl (lv_at hl 1 rfl) ?_
  refine lv_iload_n hx hb dL_node_4 rfl (lv_at hl 2 rfl) ?_
  refine kXi (As := [.int p0, .int p1]) (rest := [.int 0, .ref o]) (pre := []) (post := ouW y o f) ⟨hx, hb, hml, hown, hts⟩ (c_X4_node l dC dI y a gs s.heap.size S p0 p1 _ _ hst hf) (cwV 2 hts gL_node_X4_node rfl rfl rfl (by decide +kernel) ⟨Nat.le_of_ble_eq_true rfl, Nat.le_of_ble_eq_true rfl⟩) hK hXW hZ hP hD (va_recv hK.1 hP (ci := 4) (q0 := 0) rfl rfl) hS hA rfl hl.1 rfl (Nat.le_of_ble_eq_true rfl) dL_node_5 ⟨Nat.le_of_ble_eq_true rfl, Nat.le_of_ble_eq_true rfl⟩ (fun E ce q9 u H locs hf hP hD hS hce hcv hcl => ?_) (fun r u H locs hf hP hD hS => ?_)
  · have hP : va_P (dC, dI) vwCl (woW y a o gs u f) H := hP
    have hD : va_D A (woW y a o gs u f) := hD
    rcases hf with ⟨rfl, hf⟩
    · refine vx_catch (own := RL) (name := "java/lang/IndexOutOfBoundsException") hown [] ⟨0, 10, 13, 13⟩ [] (by rw [htab]; rfl) (fun z hz => absurd hz List.not_mem_nil) (by decide) (by decide) w13 (va_Nw.use rfl hXW.2.2.2.1) hce hcv hcl ?_
      refine lv_astore (lv' := [(4, .ref q9), (0, .ref a.1), (1, .int p0), (2, .int p1), (3, .ref o)]) hx hb dL_node_13 hl (by decide) rfl (fun ls hl => ?_)
      refine lv_iconst (v := 1) hx hb dL_node_15 (by decide) ?_
      exact W.iret (v := 1) hx hb hr (fun t ht hW => ⟨⟨1, (u, gs, f), rfl, hf, by rw [ht]; exact hP, hD⟩, hS.F ht⟩) hS.2.2 dL_node_16
  · have hP : va_P (dC, dI) vwCl (woW y a o gs u f) H := hP
    have hD : va_D A (woW y a o gs u f) := hD
    refine lv_i2l (v := r.toInt64) hx hb dL_node_8 rfl ?_
    refine ar_lst (f := f) (j := 0) hx hb hK.1 hP hD hS 56 1 rfl rfl (clamp_lit 0 rfl) (vin_lit 0 1 rfl rfl) dL_node_9 (fun H locs hP hD hS => ?_)
    have hP : va_P (dC, dI) vwCl (woW y a o gs u (vp_updL f 0 r.toInt64)) H := hP
    have hD : va_D A (woW y a o gs u (vp_updL f 0 r.toInt64)) := hD
    refine lv_goto (tgt := 17) hx hb dL_node_10 (by decide) ?_
    refine lv_iconst (v := 0) hx hb dL_node_17 (by decide) ?_
    exact W.iret (v := 0) hx hb hr (fun t ht hW => ⟨⟨0, (u, gs, (vp_updL f 0 r.toInt64)), rfl, hf, by rw [ht]; exact hP, hD⟩, hS.F ht⟩) hS.2.2 dL_node_18

def wl_received (S : WireS) (f : Nat → Int64) (p0 : Int32) (p1 : Int32) (K : Int32 → WireS → (Nat → Int64) → Prop) : Prop := wp_X4_received S p0 p1 (fun r u => K 0 u (vp_updL f 0 r)) (fun E u => (E = "java/lang/IndexOutOfBoundsException" ∧ K 1 u f) ∨ (E = "java/util/NoSuchElementException" ∧ K 2 u f))
set_option maxHeartbeats 4000000 in
set_option maxRecDepth 100000 in
theorem c_L_received (l : Launch) (dC : Nat → ClassId) (dI : Nat → Nat → Nat) (y : Nat → ClassId) (a : WireA) (gs : Nat → Nat → Nat) (o sz : Nat) (S : WireS) (f : Nat → Int64) (p0 : Int32) (p1 : Int32) (K : Int32 → WireS → (Nat → Int64) → Prop) (hst : l.stackTraces = false) (hf : wl_received S f p0 p1 K) : MW l yL_received wsL_received { frames := 7, cells := 1, slots := 6, locals := 113 } dC dI y [.ref a.1, .int p0, .int p1, .ref o] a o (woW y a o gs S f) sz K := by
  refine Met_ofWH (cc := cL_received) (maxL := 5) (ret := some .int) (hh := [(0, 9, 12, 13), (0, 9, 16, 34)]) (by decide) rfl ?_
  intro p e s m args below meth c s₁ B hml htab hv
  obtain ⟨rfl, hsz, hP, hK, hXW, hCW, hZ, hD0⟩ := hv
  have hx := B.exec
  have hb := B.bytes
  have hr := B.returns
  have hts := atoms_spec (ws := wsL_received) B.pre
  have hown : s.vm.findClass RL = some m.cls := findClass_of_methodNamed B.named
  have hlocks := B.notSynchronized
  subst hsz
  have hD := hD0.self (sz := s.heap.size)
  generalize hAe : va_A (woW y a o gs S f) s.heap.size = A at hD hZ ⊢
  have hA : ∀ q : Nat, s.heap.size ≤ q → A q := fun q h => by rw [← hAe]; exact Or.inr h
  have hS : va_S A s.heap s.heap [] := va_S.rf
  clear hAe hD0
  have w13 := hts (.classLink RL 13 "java/lang/IndexOutOfBoundsException") (List.mem_of_getElem? (i := 1) rfl)
  have w34 := hts (.classLink RL 34 "java/util/NoSuchElementException") (List.mem_of_getElem? (i := 2) rfl)
  have hl := lv_entry ([.ref a.1, .int p0, .int p1, .ref o]) (n := 5) (Nat.le_of_ble_eq_true rfl)
  rw [lg_entry_eq]
  generalize (lg_sl ([.ref a.1, .int p0, .int p1, .ref o]) ++ List.replicate (5 - (lg_sl ([.ref a.1, .int p0, .int p1, .ref o])).length) Slot.unset).toArray = ls at hl ⊢
  have hl : lv_has ls 5 [(0, .ref a.1), (1, .int p0), (2, .int p1), (3, .ref o)] := hl
  unfold wl_received at hf
  refine lv_aload_n hx hb dL_received_0 rfl (lv_at hl 3 rfl) ?_
  refine lv_iconst (v := 0) hx hb dL_received_1 (by decide) ?_
  refine lv_aload_n hx hb dL_received_2 rfl (lv_at hl 0 rfl) ?_
  refine lv_iload_n hx hb dL_received_3 rfl (lv_at hl 1 rfl) ?_
  refine lv_iload_n hx hb dL_received_4 rfl (lv_at hl 2 rfl) ?_
  refine kXl (As := [.int p0, .int p1]) (rest := [.int 0, .ref o]) (pre := []) (post := ouW y o f) ⟨hx, hb, hml, hown, hts⟩ (c_X4_received l dC dI y a gs s.heap.size S p0 p1 _ _ hst hf) (cwV 2 hts gL_received_X4_received rfl rfl rfl (by decide +kernel) ⟨Nat.le_of_ble_eq_true rfl, Nat.le_of_ble_eq_true rfl⟩) hK hXW hZ hP hD (va_recv hK.1 hP (ci := 4) (q0 := 0) rfl rfl) hS hA rfl hl.1 rfl (Nat.le_of_ble_eq_true rfl) dL_received_5 ⟨Nat.le_of_ble_eq_true rfl, Nat.le_of_ble_eq_true rfl⟩ (fun E ce q9 u H locs hf hP hD hS hce hcv hcl => ?_) (fun r u H locs hf hP hD hS => ?_)
  · have hP : va_P (dC, dI) vwCl (woW y a o gs u f) H := hP
    have hD : va_D A (woW y a o gs u f) := hD
    rcases hf with ⟨rfl, hf⟩ | ⟨rfl, hf⟩
    · refine vx_catch (own := RL) (name := "java/lang/IndexOutOfBoundsException") hown [] ⟨0, 9, 12, 13⟩ [⟨0, 9, 16, 34⟩] (by rw [htab]; rfl) (fun z hz => absurd hz List.not_mem_nil) (by decide) (by decide) w13 (va_Nw.use rfl hXW.2.2.2.1) hce hcv hcl ?_
      refine lv_astore (lv' := [(4, .ref q9), (0, .ref a.1), (1, .int p0), (2, .int p1), (3, .ref o)]) hx hb dL_received_12 hl (by decide) rfl (fun ls hl => ?_)
      refine lv_iconst (v := 1) hx hb dL_received_14 (by decide) ?_
      exact W.iret (v := 1) hx hb hr (fun t ht hW => ⟨⟨1, (u, gs, f), rfl, hf, by rw [ht]; exact hP, hD⟩, hS.F ht⟩) hS.2.2 dL_received_15
    · refine vx_catch (own := RL) (name := "java/util/NoSuchElementException") hown [⟨0, 9, 12, 13⟩] ⟨0, 9, 16, 34⟩ [] (by rw [htab]; rfl) (fun z hz => by
      rcases List.mem_cons.mp hz with rfl | hz
      · exact Or.inr ⟨by decide, _, w13, hCW.2.2.2⟩
      exact absurd hz List.not_mem_nil) (by decide) (by decide) w34 (va_Nw.use rfl hXW.2.2.2.2.2.2) hce hcv hcl ?_
      refine lv_astore (lv' := [(4, .ref q9), (0, .ref a.1), (1, .int p0), (2, .int p1), (3, .ref o)]) hx hb dL_received_16 hl (by decide) rfl (fun ls hl => ?_)
      refine lv_iconst (v := 2) hx hb dL_received_18 (by decide) ?_
      exact W.iret (v := 2) hx hb hr (fun t ht hW => ⟨⟨2, (u, gs, f), rfl, hf, by rw [ht]; exact hP, hD⟩, hS.F ht⟩) hS.2.2 dL_received_19
  · have hP : va_P (dC, dI) vwCl (woW y a o gs u f) H := hP
    have hD : va_D A (woW y a o gs u f) := hD
    refine ar_lst (f := f) (j := 0) hx hb hK.1 hP hD hS 56 1 rfl rfl (clamp_lit 0 rfl) (vin_lit 0 1 rfl rfl) dL_received_8 (fun H locs hP hD hS => ?_)
    have hP : va_P (dC, dI) vwCl (woW y a o gs u (vp_updL f 0 r)) H := hP
    have hD : va_D A (woW y a o gs u (vp_updL f 0 r)) := hD
    refine lv_goto (tgt := 20) hx hb dL_received_9 (by decide) ?_
    refine lv_iconst (v := 0) hx hb dL_received_20 (by decide) ?_
    exact W.iret (v := 0) hx hb hr (fun t ht hW => ⟨⟨0, (u, gs, (vp_updL f 0 r)), rfl, hf, by rw [ht]; exact hP, hD⟩, hS.F ht⟩) hS.2.2 dL_received_21

def wl_tape (S : WireS) (f : Nat → Int64) (p0 : Int32) (K : Int32 → WireS → (Nat → Int64) → Prop) : Prop := wp_X4_tape S p0 (fun r u => K 0 u (vp_updL f 0 r.toInt64)) (fun E u => (E = "java/lang/IndexOutOfBoundsException" ∧ K 1 u f) ∨ (E = "java/util/NoSuchElementException" ∧ K 2 u f))
set_option maxHeartbeats 4000000 in
set_option maxRecDepth 100000 in
theorem c_L_tape (l : Launch) (dC : Nat → ClassId) (dI : Nat → Nat → Nat) (y : Nat → ClassId) (a : WireA) (gs : Nat → Nat → Nat) (o sz : Nat) (S : WireS) (f : Nat → Int64) (p0 : Int32) (K : Int32 → WireS → (Nat → Int64) → Prop) (hst : l.stackTraces = false) (hf : wl_tape S f p0 K) : MW l yL_tape wsL_tape { frames := 7, cells := 1, slots := 6, locals := 113 } dC dI y [.ref a.1, .int p0, .ref o] a o (woW y a o gs S f) sz K := by
  refine Met_ofWH (cc := cL_tape) (maxL := 4) (ret := some .int) (hh := [(0, 9, 12, 13), (0, 9, 15, 34)]) (by decide) rfl ?_
  intro p e s m args below meth c s₁ B hml htab hv
  obtain ⟨rfl, hsz, hP, hK, hXW, hCW, hZ, hD0⟩ := hv
  have hx := B.exec
  have hb := B.bytes
  have hr := B.returns
  have hts := atoms_spec (ws := wsL_tape) B.pre
  have hown : s.vm.findClass RL = some m.cls := findClass_of_methodNamed B.named
  have hlocks := B.notSynchronized
  subst hsz
  have hD := hD0.self (sz := s.heap.size)
  generalize hAe : va_A (woW y a o gs S f) s.heap.size = A at hD hZ ⊢
  have hA : ∀ q : Nat, s.heap.size ≤ q → A q := fun q h => by rw [← hAe]; exact Or.inr h
  have hS : va_S A s.heap s.heap [] := va_S.rf
  clear hAe hD0
  have w13 := hts (Cond.classLink RL 13 "java/lang/IndexOutOfBoundsException") (List.mem_of_getElem? (i := 1) rfl)
  have w34 := hts (Cond.classLink RL 34 "java/util/NoSuchElementException") (List.mem_of_getElem? (i := 2) rfl)
  have hl := lv_entry ([.ref a.1, .int p0, .ref o]) (n := 4) (Nat.le_of_ble_eq_true rfl)
  rw [lg_entry_eq]
  generalize (lg_sl ([.ref a.1, .int p0, .ref o]) ++ List.replicate (4 - (lg_sl ([.ref a.1, .int p0, .ref o])).length) Slot.unset).toArray = ls at hl ⊢
  have hl : lv_has ls 4 [(0, .ref a.1), (1, .int p0), (2, .ref o)] := hl
  unfold wl_tape at hf
  refine lv_aload_n hx hb dL_tape_0 rfl (lv_at hl 2 rfl) ?_
  refine lv_iconst (v := 0) hx hb dL_tape_1 (by decide) ?_
  refine lv_aload_n hx hb dL_tape_2 rfl (lv_at hl 0 rfl) ?_
  refine lv_iload_n hx hb dL_tape_3 rfl (lv_at hl 1 rfl) ?_
  refine kXi (As := [.int p0]) (rest := [.int 0, .ref o]) (pre := []) (post := ouW y o f) ⟨hx, hb, hml, hown, hts⟩ (c_X4_tape l dC dI y a gs s.heap.size S p0 _ _ hst hf) (cwV 1 hts gL_tape_X4_tape rfl rfl rfl (by decide +kernel) ⟨Nat.le_of_ble_eq_true rfl, Nat.le_of_ble_eq_true rfl⟩) hK hXW hZ hP hD (va_recv hK.1 hP (ci := 4) (q0 := 0) rfl rfl) hS hA rfl hl.1 rfl (Nat.le_of_ble_eq_true rfl) dL_tape_4 ⟨Nat.le_of_ble_eq_true rfl, Nat.le_of_ble_eq_true rfl⟩ (fun E ce q9 u H locs hf hP hD hS hce hcv hcl => ?_) (fun r u H locs hf hP hD hS => ?_)
  · have hP : va_P (dC, dI) vwCl (woW y a o gs u f) H := hP
    have hD : va_D A (woW y a o gs u f) := hD
    rcases hf with ⟨rfl, hf⟩ | ⟨rfl, hf⟩
    · refine vx_catch (own := RL) (name := "java/lang/IndexOutOfBoundsException") hown [] ⟨0, 9, 12, 13⟩ [⟨0, 9, 15, 34⟩] (by rw [htab]; rfl) (fun z hz => absurd hz List.not_mem_nil) (by decide) (by decide) w13 (va_Nw.use rfl hXW.2.2.2.1) hce hcv hcl ?_
      refine lv_astore_n (lv' := [(3, .ref q9), (0, .ref a.1), (1, .int p0), (2, .ref o)]) hx hb dL_tape_12 rfl hl (by decide) rfl (fun ls hl => ?_)
      refine lv_iconst (v := 1) hx hb dL_tape_13 (by decide) ?_
      exact W.iret (v := 1) hx hb hr (fun t ht hW => ⟨⟨1, (u, gs, f), rfl, hf, by rw [ht]; exact hP, hD⟩, hS.F ht⟩) hS.2.2 dL_tape_14
    · refine vx_catch (own := RL) (name := "java/util/NoSuchElementException") hown [⟨0, 9, 12, 13⟩] ⟨0, 9, 15, 34⟩ [] (by rw [htab]; rfl) (fun z hz => by
      rcases List.mem_cons.mp hz with rfl | hz
      · exact Or.inr ⟨by decide, _, w13, hCW.2.2.2⟩
      exact absurd hz List.not_mem_nil) (by decide) (by decide) w34 (va_Nw.use rfl hXW.2.2.2.2.2.2) hce hcv hcl ?_
      refine lv_astore_n (lv' := [(3, .ref q9), (0, .ref a.1), (1, .int p0), (2, .ref o)]) hx hb dL_tape_15 rfl hl (by decide) rfl (fun ls hl => ?_)
      refine lv_iconst (v := 2) hx hb dL_tape_16 (by decide) ?_
      exact W.iret (v := 2) hx hb hr (fun t ht hW => ⟨⟨2, (u, gs, f), rfl, hf, by rw [ht]; exact hP, hD⟩, hS.F ht⟩) hS.2.2 dL_tape_17
  · have hP : va_P (dC, dI) vwCl (woW y a o gs u f) H := hP
    have hD : va_D A (woW y a o gs u f) := hD
    refine lv_i2l (v := r.toInt64) hx hb dL_tape_7 rfl ?_
    refine ar_lst (f := f) (j := 0) hx hb hK.1 hP hD hS 56 1 rfl rfl (clamp_lit 0 rfl) (vin_lit 0 1 rfl rfl) dL_tape_8 (fun H locs hP hD hS => ?_)
    have hP : va_P (dC, dI) vwCl (woW y a o gs u (vp_updL f 0 r.toInt64)) H := hP
    have hD : va_D A (woW y a o gs u (vp_updL f 0 r.toInt64)) := hD
    refine lv_goto (tgt := 18) hx hb dL_tape_9 (by decide) ?_
    refine lv_iconst (v := 0) hx hb dL_tape_18 (by decide) ?_
    exact W.iret (v := 0) hx hb hr (fun t ht hW => ⟨⟨0, (u, gs, (vp_updL f 0 r.toInt64)), rfl, hf, by rw [ht]; exact hP, hD⟩, hS.F ht⟩) hS.2.2 dL_tape_19

def wl_bit (S : WireS) (f : Nat → Int64) (p0 : Int32) (K : Int32 → WireS → (Nat → Int64) → Prop) : Prop := wp_X4_bit S p0 (fun r u => K 0 u (vp_updL f 0 r.toInt64)) (fun E u => (E = "java/lang/IndexOutOfBoundsException" ∧ K 1 u f))
set_option maxHeartbeats 4000000 in
set_option maxRecDepth 100000 in
theorem c_L_bit (l : Launch) (dC : Nat → ClassId) (dI : Nat → Nat → Nat) (y : Nat → ClassId) (a : WireA) (gs : Nat → Nat → Nat) (o sz : Nat) (S : WireS) (f : Nat → Int64) (p0 : Int32) (K : Int32 → WireS → (Nat → Int64) → Prop) (hst : l.stackTraces = false) (hf : wl_bit S f p0 K) : MW l yL_bit wsL_bit { frames := 7, cells := 1, slots := 6, locals := 110 } dC dI y [.ref a.1, .int p0, .ref o] a o (woW y a o gs S f) sz K := by
  refine Met_ofWH (cc := cL_bit) (maxL := 4) (ret := some .int) (hh := [(0, 9, 12, 13)]) (by decide) rfl ?_
  intro p e s m args below meth c s₁ B hml htab hv
  obtain ⟨rfl, hsz, hP, hK, hXW, hCW, hZ, hD0⟩ := hv
  have hx := B.exec
  have hb := B.bytes
  have hr := B.returns
  have hts := atoms_spec (ws := wsL_bit) B.pre
  have hown : s.vm.findClass RL = some m.cls := findClass_of_methodNamed B.named
  have hlocks := B.notSynchronized
  subst hsz
  have hD := hD0.self (sz := s.heap.size)
  generalize hAe : va_A (woW y a o gs S f) s.heap.size = A at hD hZ ⊢
  have hA : ∀ q : Nat, s.heap.size ≤ q → A q := fun q h => by rw [← hAe]; exact Or.inr h
  have hS : va_S A s.heap s.heap [] := va_S.rf
  clear hAe hD0
  have w13 := hts (.classLink RL 13 "java/lang/IndexOutOfBoundsException") (List.mem_of_getElem? (i := 1) rfl)
  have hl := lv_entry ([.ref a.1, .int p0, .ref o]) (n := 4) (Nat.le_of_ble_eq_true rfl)
  rw [lg_entry_eq]
  generalize (lg_sl ([.ref a.1, .int p0, .ref o]) ++ List.replicate (4 - (lg_sl ([.ref a.1, .int p0, .ref o])).length) Slot.unset).toArray = ls at hl ⊢
  have hl : lv_has ls 4 [(0, .ref a.1), (1, .int p0), (2, .ref o)] := hl
  unfold wl_bit at hf
  refine lv_aload_n hx hb dL_bit_0 rfl (lv_at hl 2 rfl) ?_
  refine lv_iconst (v := 0) hx hb dL_bit_1 (by decide) ?_
  refine lv_aload_n hx hb dL_bit_2 rfl (lv_at hl 0 rfl) ?_
  refine lv_iload_n hx hb dL_bit_3 rfl (lv_at hl 1 rfl) ?_
  refine kXi (As := [.int p0]) (rest := [.int 0, .ref o]) (pre := []) (post := ouW y o f) ⟨hx, hb, hml, hown, hts⟩ (c_X4_bit l dC dI y a gs s.heap.size S p0 _ _ hst hf) (cwV 1 hts gL_bit_X4_bit rfl rfl rfl (by decide +kernel) ⟨Nat.le_of_ble_eq_true rfl, Nat.le_of_ble_eq_true rfl⟩) hK hXW hZ hP hD (va_recv hK.1 hP (ci := 4) (q0 := 0) rfl rfl) hS hA rfl hl.1 rfl (Nat.le_of_ble_eq_true rfl) dL_bit_4 ⟨Nat.le_of_ble_eq_true rfl, Nat.le_of_ble_eq_true rfl⟩ (fun E ce q9 u H locs hf hP hD hS hce hcv hcl => ?_) (fun r u H locs hf hP hD hS => ?_)
  · have hP : va_P (dC, dI) vwCl (woW y a o gs u f) H := hP
    have hD : va_D A (woW y a o gs u f) := hD
    rcases hf with ⟨rfl, hf⟩
    · refine vx_catch (own := RL) (name := "java/lang/IndexOutOfBoundsException") hown [] ⟨0, 9, 12, 13⟩ [] (by rw [htab]; rfl) (fun z hz => absurd hz List.not_mem_nil) (by decide) (by decide) w13 (va_Nw.use rfl hXW.2.2.2.1) hce hcv hcl ?_
      refine lv_astore_n (lv' := [(3, .ref q9), (0, .ref a.1), (1, .int p0), (2, .ref o)]) hx hb dL_bit_12 rfl hl (by decide) rfl (fun ls hl => ?_)
      refine lv_iconst (v := 1) hx hb dL_bit_13 (by decide) ?_
      exact W.iret (v := 1) hx hb hr (fun t ht hW => ⟨⟨1, (u, gs, f), rfl, hf, by rw [ht]; exact hP, hD⟩, hS.F ht⟩) hS.2.2 dL_bit_14
  · have hP : va_P (dC, dI) vwCl (woW y a o gs u f) H := hP
    have hD : va_D A (woW y a o gs u f) := hD
    refine lv_i2l (v := r.toInt64) hx hb dL_bit_7 rfl ?_
    refine ar_lst (f := f) (j := 0) hx hb hK.1 hP hD hS 56 1 rfl rfl (clamp_lit 0 rfl) (vin_lit 0 1 rfl rfl) dL_bit_8 (fun H locs hP hD hS => ?_)
    have hP : va_P (dC, dI) vwCl (woW y a o gs u (vp_updL f 0 r.toInt64)) H := hP
    have hD : va_D A (woW y a o gs u (vp_updL f 0 r.toInt64)) := hD
    refine lv_goto (tgt := 15) hx hb dL_bit_9 (by decide) ?_
    refine lv_iconst (v := 0) hx hb dL_bit_15 (by decide) ?_
    exact W.iret (v := 0) hx hb hr (fun t ht hW => ⟨⟨0, (u, gs, (vp_updL f 0 r.toInt64)), rfl, hf, by rw [ht]; exact hP, hD⟩, hS.F ht⟩) hS.2.2 dL_bit_16

def wl_flip (S : WireS) (f : Nat → Int64) (p0 : Int32) (K : Int32 → WireS → (Nat → Int64) → Prop) : Prop := wp_X4_flip S p0 (fun u => K 0 u f) (fun E u => (E = "java/lang/IndexOutOfBoundsException" ∧ K 1 u f))
set_option maxHeartbeats 4000000 in
set_option maxRecDepth 100000 in
theorem c_L_flip (l : Launch) (dC : Nat → ClassId) (dI : Nat → Nat → Nat) (y : Nat → ClassId) (a : WireA) (gs : Nat → Nat → Nat) (o sz : Nat) (S : WireS) (f : Nat → Int64) (p0 : Int32) (K : Int32 → WireS → (Nat → Int64) → Prop) (hst : l.stackTraces = false) (hf : wl_flip S f p0 K) : MW l yL_flip wsL_flip { frames := 7, cells := 1, slots := 6, locals := 110 } dC dI y [.ref a.1, .int p0] a o (woW y a o gs S f) sz K := by
  refine Met_ofWH (cc := cL_flip) (maxL := 3) (ret := some .int) (hh := [(0, 5, 8, 13)]) (by decide) rfl ?_
  intro p e s m args below meth c s₁ B hml htab hv
  obtain ⟨rfl, hsz, hP, hK, hXW, hCW, hZ, hD0⟩ := hv
  have hx := B.exec
  have hb := B.bytes
  have hr := B.returns
  have hts := atoms_spec (ws := wsL_flip) B.pre
  have hown : s.vm.findClass RL = some m.cls := findClass_of_methodNamed B.named
  have hlocks := B.notSynchronized
  subst hsz
  have hD := hD0.self (sz := s.heap.size)
  generalize hAe : va_A (woW y a o gs S f) s.heap.size = A at hD hZ ⊢
  have hA : ∀ q : Nat, s.heap.size ≤ q → A q := fun q h => by rw [← hAe]; exact Or.inr h
  have hS : va_S A s.heap s.heap [] := va_S.rf
  clear hAe hD0
  have w13 := hts (.classLink RL 13 "java/lang/IndexOutOfBoundsException") (List.mem_of_getElem? (i := 1) rfl)
  have hl := lv_entry ([.ref a.1, .int p0]) (n := 3) (Nat.le_of_ble_eq_true rfl)
  rw [lg_entry_eq]
  generalize (lg_sl ([.ref a.1, .int p0]) ++ List.replicate (3 - (lg_sl ([.ref a.1, .int p0])).length) Slot.unset).toArray = ls at hl ⊢
  have hl : lv_has ls 3 [(0, .ref a.1), (1, .int p0)] := hl
  unfold wl_flip at hf
  refine lv_aload_n hx hb dL_flip_0 rfl (lv_at hl 0 rfl) ?_
  refine lv_iload_n hx hb dL_flip_1 rfl (lv_at hl 1 rfl) ?_
  refine kXv (As := [.int p0]) (rest := []) (pre := []) (post := ouW y o f) ⟨hx, hb, hml, hown, hts⟩ (c_X4_flip l dC dI y a gs s.heap.size S p0 _ _ hst hf) (cwV 1 hts gL_flip_X4_flip rfl rfl rfl (by decide +kernel) ⟨Nat.le_of_ble_eq_true rfl, Nat.le_of_ble_eq_true rfl⟩) hK hXW hZ hP hD (va_recv hK.1 hP (ci := 4) (q0 := 0) rfl rfl) hS hA rfl hl.1 rfl (Nat.le_of_ble_eq_true rfl) dL_flip_2 ⟨Nat.le_of_ble_eq_true rfl, Nat.le_of_ble_eq_true rfl⟩ (fun E ce q9 u H locs hf hP hD hS hce hcv hcl => ?_) (fun u H locs hf hP hD hS => ?_)
  · have hP : va_P (dC, dI) vwCl (woW y a o gs u f) H := hP
    have hD : va_D A (woW y a o gs u f) := hD
    rcases hf with ⟨rfl, hf⟩
    · refine vx_catch (own := RL) (name := "java/lang/IndexOutOfBoundsException") hown [] ⟨0, 5, 8, 13⟩ [] (by rw [htab]; rfl) (fun z hz => absurd hz List.not_mem_nil) (by decide) (by decide) w13 (va_Nw.use rfl hXW.2.2.2.1) hce hcv hcl ?_
      refine lv_astore_n (lv' := [(2, .ref q9), (0, .ref a.1), (1, .int p0)]) hx hb dL_flip_8 rfl hl (by decide) rfl (fun ls hl => ?_)
      refine lv_iconst (v := 1) hx hb dL_flip_9 (by decide) ?_
      exact W.iret (v := 1) hx hb hr (fun t ht hW => ⟨⟨1, (u, gs, f), rfl, hf, by rw [ht]; exact hP, hD⟩, hS.F ht⟩) hS.2.2 dL_flip_10
  · have hP : va_P (dC, dI) vwCl (woW y a o gs u f) H := hP
    have hD : va_D A (woW y a o gs u f) := hD
    refine lv_goto (tgt := 11) hx hb dL_flip_5 (by decide) ?_
    refine lv_iconst (v := 0) hx hb dL_flip_11 (by decide) ?_
    exact W.iret (v := 0) hx hb hr (fun t ht hW => ⟨⟨0, (u, gs, f), rfl, hf, by rw [ht]; exact hP, hD⟩, hS.F ht⟩) hS.2.2 dL_flip_12
