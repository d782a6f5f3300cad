theorem dfltX0 : ∀ j, j < 4 → defaultValue (tyX0 j) = vp_V [.int 0, .int 0, .long 0, .int 0] j := by
  intro j hj
  rcases (show j = 0 ∨ j = 1 ∨ j = 2 ∨ j = 3 by omega) with rfl | rfl | rfl | rfl <;> rfl
theorem dfltX1 : ∀ j, j < 8 → defaultValue (tyX1 j) = vp_V [.null, .null, .int 0, .int 0, .int 0, .int 0, .int 0, .int 0] j := by
  intro j hj
  rcases (show j = 0 ∨ j = 1 ∨ j = 2 ∨ j = 3 ∨ j = 4 ∨ j = 5 ∨ j = 6 ∨ j = 7 by omega) with rfl | rfl | rfl | rfl | rfl | rfl | rfl | rfl <;> rfl
theorem dfltX2 : ∀ j, j < 15 → defaultValue (tyX2 j) = vp_V [.null, .null, .null, .null, .int 0, .int 0, .int 0, .int 0, .int 0, .int 0, .int 0, .int 0, .int 0, .int 0, .int 0] j := by
  intro j hj
  rcases (show j = 0 ∨ j = 1 ∨ j = 2 ∨ j = 3 ∨ j = 4 ∨ j = 5 ∨ j = 6 ∨ j = 7 ∨ j = 8 ∨ j = 9 ∨ j = 10 ∨ j = 11 ∨ j = 12 ∨ j = 13 ∨ j = 14 by omega) with rfl | rfl | rfl | rfl | rfl | rfl | rfl | rfl | rfl | rfl | rfl | rfl | rfl | rfl | rfl <;> rfl
theorem dfltX3 : ∀ j, j < 9 → defaultValue (tyX3 j) = vp_V [.null, .int 0, .int 0, .int 0, .int 0, .int 0, .int 0, .int 0, .int 0] j := by
  intro j hj
  rcases (show j = 0 ∨ j = 1 ∨ j = 2 ∨ j = 3 ∨ j = 4 ∨ j = 5 ∨ j = 6 ∨ j = 7 ∨ j = 8 by omega) with rfl | rfl | rfl | rfl | rfl | rfl | rfl | rfl | rfl <;> rfl
set_option maxHeartbeats 4000000 in
set_option maxRecDepth 100000 in
theorem c_X0_init (l : Launch) (dC : Nat → ClassId) (dI : Nat → Nat → Nat) (y : Nat → ClassId) (h0 : Nat) (sz : Nat) : MC l yX0_init wsX0_init { frames := 1, cells := 0, slots := 0, locals := 12 } dC dI y [.ref h0] [(h0, .inr (0, [.int 0, .int 0, .long 0, .int 0]))] sz (fun _ : Unit => frW h0 frameI) (fun _ => True) 0 0 := by
  refine Met.ofW (cc := cX0_init) (maxL := 1) (ret := none) (by decide) rfl ?_
  intro p e s m args below meth c s₁ B hml hv
  obtain ⟨rfl, hsz, hP, hK, hO, hD0⟩ := hv
  have hx := B.exec
  have hb := B.bytes
  have hr := B.returns
  have hts := atoms_spec (ws := wsX0_init) B.pre
  have hown : s.vm.findClass RX0 = some m.cls := findClass_of_methodNamed B.named
  have hlocks := B.notSynchronized
  have hin9 : meth.name = "<init>" := (name_of_methodNamed B.named B.method).1
  subst hsz
  have hD := hD0.self (sz := s.heap.size)
  generalize hAe : va_A ([(h0, .inr (0, [.int 0, .int 0, .long 0, .int 0]))]) s.heap.size = A at hD ⊢
  have hA : ∀ q : Nat, s.heap.size ≤ q → A q := fun q h => by rw [← hAe]; exact Or.inr h
  have hS : va_S A s.heap s.heap [] := va_S.rf
  clear hAe hD0
  have w15 := hts (.fieldLink RX0 15 "SharedWire$Frame" "identifier" "I") (List.mem_of_getElem? (i := 5) rfl)
  have w19 := hts (.fieldLink RX0 19 "SharedWire$Frame" "data" "J") (List.mem_of_getElem? (i := 6) rfl)
  have w23 := hts (.fieldLink RX0 23 "SharedWire$Frame" "size" "I") (List.mem_of_getElem? (i := 7) rfl)
  have w3 := hts (.methodLink RX0 3 objectInit) (List.mem_of_getElem? (i := 1) rfl)
  have w9 := hts (.fieldLink RX0 9 "SharedWire$Frame" "isLong" "Z") (List.mem_of_getElem? (i := 4) rfl)
  have hinX0 : ∀ w ∈ wsX00, w ∈ wsX0_init := fun w h => List.mem_cons_of_mem _ (List.mem_append_right _ (h))
  have hl := lv_entry ([.ref h0]) (n := 1) (Nat.le_of_ble_eq_true rfl)
  rw [lg_entry_eq]
  generalize (lg_sl ([.ref h0]) ++ List.replicate (1 - (lg_sl ([.ref h0])).length) Slot.unset).toArray = ls at hl ⊢
  have hl : lv_has ls 1 [(0, .ref h0)] := hl
  refine lv_aload_n hx hb dX0_init_0 rfl (lv_at hl 0 rfl) ?_
  refine W.objInit hx hb hown w3 (hts (.instanceMethod objectInit) (List.mem_of_getElem? (i := 2) rfl)) (hts (.code objectInit ⟨#[0xb1]⟩ 1 none) (List.mem_of_getElem? (i := 3) rfl)) rfl (by rw [hml]; exact hl.1) rfl dX0_init_1 (Nat.le_of_ble_eq_true rfl) (Nat.le_of_ble_eq_true rfl) ?_
  refine W.eq (g2 := F0 m 4 ls []) rfl ?_
  refine lv_aload_n hx hb dX0_init_4 rfl (lv_at hl 0 rfl) ?_
  refine lv_iconst (v := 0) hx hb dX0_init_5 (by decide) ?_
  refine va_put (D := (dC, dI)) (ci := 0) (v := .int 0) (ty := .boolean) (C := RX0) (T := TX0) (N := 4) hx hb hts hinX0 tyX0 tyX0_ok nmX0 hown hK.1 hP hD hS 0 rfl rfl 0 (by decide) w9 (fun _ h9 => h9) rfl (by decide +kernel) rfl rfl (Nat.le_of_ble_eq_true rfl) dX0_init_6 (fun H locs hP hD hS => ?_)
  have hP : va_P (dC, dI) vwCl [(h0, .inr (0, [.int 0, .int 0, .long 0, .int 0]))] H := hP
  have hD : va_D A [(h0, .inr (0, [.int 0, .int 0, .long 0, .int 0]))] := hD
  refine lv_aload_n hx hb dX0_init_9 rfl (lv_at hl 0 rfl) ?_
  refine lv_iconst (v := 0) hx hb dX0_init_10 (by decide) ?_
  refine va_put (D := (dC, dI)) (ci := 0) (v := .int 0) (ty := .int) (C := RX0) (T := TX0) (N := 4) hx hb hts hinX0 tyX0 tyX0_ok nmX0 hown hK.1 hP hD hS 0 rfl rfl 1 (by decide) w15 (fun _ h9 => h9) rfl (by decide +kernel) rfl rfl (Nat.le_of_ble_eq_true rfl) dX0_init_11 (fun H locs hP hD hS => ?_)
  have hP : va_P (dC, dI) vwCl [(h0, .inr (0, [.int 0, .int 0, .long 0, .int 0]))] H := hP
  have hD : va_D A [(h0, .inr (0, [.int 0, .int 0, .long 0, .int 0]))] := hD
  refine lv_aload_n hx hb dX0_init_14 rfl (lv_at hl 0 rfl) ?_
  refine lv_lconst (v := 0) hx hb dX0_init_15 (by decide) ?_
  refine va_put (D := (dC, dI)) (ci := 0) (v := .long 0) (ty := .long) (C := RX0) (T := TX0) (N := 4) hx hb hts hinX0 tyX0 tyX0_ok nmX0 hown hK.1 hP hD hS 0 rfl rfl 2 (by decide) w19 (fun _ h9 => h9) rfl (by decide +kernel) rfl rfl (Nat.le_of_ble_eq_true rfl) dX0_init_16 (fun H locs hP hD hS => ?_)
  have hP : va_P (dC, dI) vwCl [(h0, .inr (0, [.int 0, .int 0, .long 0, .int 0]))] H := hP
  have hD : va_D A [(h0, .inr (0, [.int 0, .int 0, .long 0, .int 0]))] := hD
  refine lv_aload_n hx hb dX0_init_19 rfl (lv_at hl 0 rfl) ?_
  refine lv_iconst (v := 0) hx hb dX0_init_20 (by decide) ?_
  refine va_put (D := (dC, dI)) (ci := 0) (v := .int 0) (ty := .int) (C := RX0) (T := TX0) (N := 4) hx hb hts hinX0 tyX0 tyX0_ok nmX0 hown hK.1 hP hD hS 0 rfl rfl 3 (by decide) w23 (fun _ h9 => h9) rfl (by decide +kernel) rfl rfl (Nat.le_of_ble_eq_true rfl) dX0_init_21 (fun H locs hP hD hS => ?_)
  have hP : va_P (dC, dI) vwCl [(h0, .inr (0, [.int 0, .int 0, .long 0, .int 0]))] H := hP
  have hD : va_D A [(h0, .inr (0, [.int 0, .int 0, .long 0, .int 0]))] := hD
  have hP : va_P (dC, dI) vwCl (frW h0 frameI) H := hP.sub [0] rfl
  have hD : va_D A (frW h0 frameI) := hD.sub [0] (by decide) rfl
  exact W.vret hx hb hr (fun t ht hW => ⟨⟨(), rfl, trivial, by rw [ht]; exact hP, hD⟩, hS.F ht⟩) hS.2.2 dX0_init_24

set_option maxHeartbeats 4000000 in
set_option maxRecDepth 100000 in
theorem c_X1_init (l : Launch) (dC : Nat → ClassId) (dI : Nat → Nat → Nat) (y : Nat → ClassId) (h0 : Nat) (sz : Nat) : MC l yX1_init wsX1_init { frames := 1, cells := 2, slots := 320, locals := 12 } dC dI y [.ref h0] [(h0, .inr (1, [.null, .null, .int 0, .int 0, .int 0, .int 0, .int 0, .int 0]))] sz (fun u : LineA => lnW y u lineI) (fun u => h0 = u.1) 2 320 := by
  refine Met.ofW (cc := cX1_init) (maxL := 1) (ret := none) (by decide) rfl ?_
  intro p e s m args below meth c s₁ B hml hv
  obtain ⟨rfl, hsz, hP, hK, hO, hD0⟩ := hv
  have hx := B.exec
  have hb := B.bytes
  have hr := B.returns
  have hts := atoms_spec (ws := wsX1_init) B.pre
  have hown : s.vm.findClass RX1 = some m.cls := findClass_of_methodNamed B.named
  have hlocks := B.notSynchronized
  have hin9 : meth.name = "<init>" := (name_of_methodNamed B.named B.method).1
  subst hsz
  have hD := hD0.self (sz := s.heap.size)
  generalize hAe : va_A ([(h0, .inr (1, [.null, .null, .int 0, .int 0, .int 0, .int 0, .int 0, .int 0]))]) s.heap.size = A at hD ⊢
  have hA : ∀ q : Nat, s.heap.size ≤ q → A q := fun q h => by rw [← hAe]; exact Or.inr h
  have hS : va_S A s.heap s.heap [] := va_S.rf
  clear hAe hD0
  have w15 := hts (.fieldLink RX1 15 "SharedWire$Line" "places" "[I") (List.mem_of_getElem? (i := 6) rfl)
  have w18 := hts (.fieldLink RX1 18 "SharedWire$Line" "length" "I") (List.mem_of_getElem? (i := 7) rfl)
  have w22 := hts (.fieldLink RX1 22 "SharedWire$Line" "head" "I") (List.mem_of_getElem? (i := 8) rfl)
  have w25 := hts (.fieldLink RX1 25 "SharedWire$Line" "framed" "I") (List.mem_of_getElem? (i := 9) rfl)
  have w28 := hts (.fieldLink RX1 28 "SharedWire$Line" "alike" "I") (List.mem_of_getElem? (i := 10) rfl)
  have w3 := hts (.methodLink RX1 3 objectInit) (List.mem_of_getElem? (i := 1) rfl)
  have w31 := hts (.fieldLink RX1 31 "SharedWire$Line" "last" "I") (List.mem_of_getElem? (i := 11) rfl)
  have w34 := hts (.fieldLink RX1 34 "SharedWire$Line" "check" "I") (List.mem_of_getElem? (i := 12) rfl)
  have w9 := hts (.fieldLink RX1 9 "SharedWire$Line" "bits" "[I") (List.mem_of_getElem? (i := 5) rfl)
  have hinX1 : ∀ w ∈ wsX10, w ∈ wsX1_init := fun w h => List.mem_cons_of_mem _ (List.mem_append_right _ (h))
  have hl := lv_entry ([.ref h0]) (n := 1) (Nat.le_of_ble_eq_true rfl)
  rw [lg_entry_eq]
  generalize (lg_sl ([.ref h0]) ++ List.replicate (1 - (lg_sl ([.ref h0])).length) Slot.unset).toArray = ls at hl ⊢
  have hl : lv_has ls 1 [(0, .ref h0)] := hl
  refine lv_aload_n hx hb dX1_init_0 rfl (lv_at hl 0 rfl) ?_
  refine W.objInit hx hb hown w3 (hts (.instanceMethod objectInit) (List.mem_of_getElem? (i := 2) rfl)) (hts (.code objectInit ⟨#[0xb1]⟩ 1 none) (List.mem_of_getElem? (i := 3) rfl)) rfl (by rw [hml]; exact hl.1) rfl dX1_init_1 (Nat.le_of_ble_eq_true rfl) (Nat.le_of_ble_eq_true rfl) ?_
  refine W.eq (g2 := F0 m 4 ls []) rfl ?_
  refine lv_aload_n hx hb dX1_init_4 rfl (lv_at hl 0 rfl) ?_
  refine lv_sipush (v := 160) hx hb dX1_init_5 (by decide) ?_
  refine nw_int (N' := 160) hx hb (hts (.arrayClass .int) (List.mem_of_getElem? (i := 4) rfl)) hK hP hD hS hA (by decide) (clamp_lit 160 rfl) (Nat.le_of_ble_eq_true rfl) (Nat.le_of_ble_eq_true rfl) (Nat.le_of_ble_eq_true rfl) dX1_init_8 (fun q1 H hP hD hS => ?_)
  have hP : va_P (dC, dI) vwCl [(h0, .inr (1, [.null, .null, .int 0, .int 0, .int 0, .int 0, .int 0, .int 0])), (q1, .inl (y 0, 160, .inl (fun _ => 0)))] H := hP
  have hD : va_D A [(h0, .inr (1, [.null, .null, .int 0, .int 0, .int 0, .int 0, .int 0, .int 0])), (q1, .inl (y 0, 160, .inl (fun _ => 0)))] := hD
  refine W.widen (k := 1) (n := 160) (Nat.le_of_ble_eq_true rfl) (Nat.le_of_ble_eq_true rfl) ?_
  refine va_putF (D := (dC, dI)) (ci := 1) (v := .ref q1) (ty := (.array .int)) (C := RX1) (T := TX1) (N := 8) hx hb hts hinX1 tyX1 tyX1_ok nmX1 hown hK.1 hP hD hS 0 rfl rfl 0 (by decide) w9 (fun _ h9 => h9) rfl hin9 rfl (by decide +kernel) rfl rfl (Nat.le_of_ble_eq_true rfl) dX1_init_10 (fun H locs hP hD hS => ?_)
  have hP : va_P (dC, dI) vwCl [(h0, .inr (1, [.ref q1, .null, .int 0, .int 0, .int 0, .int 0, .int 0, .int 0])), (q1, .inl (y 0, 160, .inl (fun _ => 0)))] H := hP
  have hD : va_D A [(h0, .inr (1, [.ref q1, .null, .int 0, .int 0, .int 0, .int 0, .int 0, .int 0])), (q1, .inl (y 0, 160, .inl (fun _ => 0)))] := hD
  refine lv_aload_n hx hb dX1_init_13 rfl (lv_at hl 0 rfl) ?_
  refine lv_sipush (v := 160) hx hb dX1_init_14 (by decide) ?_
  refine nw_int (N' := 160) hx hb (hts (.arrayClass .int) (List.mem_of_getElem? (i := 4) rfl)) hK hP hD hS hA (by decide) (clamp_lit 160 rfl) (Nat.le_of_ble_eq_true rfl) (Nat.le_of_ble_eq_true rfl) (Nat.le_of_ble_eq_true rfl) dX1_init_17 (fun q2 H hP hD hS => ?_)
  have hP : va_P (dC, dI) vwCl [(h0, .inr (1, [.ref q1, .null, .int 0, .int 0, .int 0, .int 0, .int 0, .int 0])), (q1, .inl (y 0, 160, .inl (fun _ => 0))), (q2, .inl (y 0, 160, .inl (fun _ => 0)))] H := hP
  have hD : va_D A [(h0, .inr (1, [.ref q1, .null, .int 0, .int 0, .int 0, .int 0, .int 0, .int 0])), (q1, .inl (y 0, 160, .inl (fun _ => 0))), (q2, .inl (y 0, 160, .inl (fun _ => 0)))] := hD
  refine W.widen (k := 2) (n := 320) (Nat.le_of_ble_eq_true rfl) (Nat.le_of_ble_eq_true rfl) ?_
  refine va_putF (D := (dC, dI)) (ci := 1) (v := .ref q2) (ty := (.array .int)) (C := RX1) (T := TX1) (N := 8) hx hb hts hinX1 tyX1 tyX1_ok nmX1 hown hK.1 hP hD hS 0 rfl rfl 1 (by decide) w15 (fun _ h9 => h9) rfl hin9 rfl (by decide +kernel) rfl rfl (Nat.le_of_ble_eq_true rfl) dX1_init_19 (fun H locs hP hD hS => ?_)
  have hP : va_P (dC, dI) vwCl [(h0, .inr (1, [.ref q1, .ref q2, .int 0, .int 0, .int 0, .int 0, .int 0, .int 0])), (q1, .inl (y 0, 160, .inl (fun _ => 0))), (q2, .inl (y 0, 160, .inl (fun _ => 0)))] H := hP
  have hD : va_D A [(h0, .inr (1, [.ref q1, .ref q2, .int 0, .int 0, .int 0, .int 0, .int 0, .int 0])), (q1, .inl (y 0, 160, .inl (fun _ => 0))), (q2, .inl (y 0, 160, .inl (fun _ => 0)))] := hD
  refine lv_aload_n hx hb dX1_init_22 rfl (lv_at hl 0 rfl) ?_
  refine lv_iconst (v := 0) hx hb dX1_init_23 (by decide) ?_
  refine va_put (D := (dC, dI)) (ci := 1) (v := .int 0) (ty := .int) (C := RX1) (T := TX1) (N := 8) hx hb hts hinX1 tyX1 tyX1_ok nmX1 hown hK.1 hP hD hS 0 rfl rfl 2 (by decide) w18 (fun _ h9 => h9) rfl (by decide +kernel) rfl rfl (Nat.le_of_ble_eq_true rfl) dX1_init_24 (fun H locs hP hD hS => ?_)
  have hP : va_P (dC, dI) vwCl [(h0, .inr (1, [.ref q1, .ref q2, .int 0, .int 0, .int 0, .int 0, .int 0, .int 0])), (q1, .inl (y 0, 160, .inl (fun _ => 0))), (q2, .inl (y 0, 160, .inl (fun _ => 0)))] H := hP
  have hD : va_D A [(h0, .inr (1, [.ref q1, .ref q2, .int 0, .int 0, .int 0, .int 0, .int 0, .int 0])), (q1, .inl (y 0, 160, .inl (fun _ => 0))), (q2, .inl (y 0, 160, .inl (fun _ => 0)))] := hD
  refine lv_aload_n hx hb dX1_init_27 rfl (lv_at hl 0 rfl) ?_
  refine lv_iconst (v := 0) hx hb dX1_init_28 (by decide) ?_
  refine va_put (D := (dC, dI)) (ci := 1) (v := .int 0) (ty := .int) (C := RX1) (T := TX1) (N := 8) hx hb hts hinX1 tyX1 tyX1_ok nmX1 hown hK.1 hP hD hS 0 rfl rfl 3 (by decide) w22 (fun _ h9 => h9) rfl (by decide +kernel) rfl rfl (Nat.le_of_ble_eq_true rfl) dX1_init_29 (fun H locs hP hD hS => ?_)
  have hP : va_P (dC, dI) vwCl [(h0, .inr (1, [.ref q1, .ref q2, .int 0, .int 0, .int 0, .int 0, .int 0, .int 0])), (q1, .inl (y 0, 160, .inl (fun _ => 0))), (q2, .inl (y 0, 160, .inl (fun _ => 0)))] H := hP
  have hD : va_D A [(h0, .inr (1, [.ref q1, .ref q2, .int 0, .int 0, .int 0, .int 0, .int 0, .int 0])), (q1, .inl (y 0, 160, .inl (fun _ => 0))), (q2, .inl (y 0, 160, .inl (fun _ => 0)))] := hD
  refine lv_aload_n hx hb dX1_init_32 rfl (lv_at hl 0 rfl) ?_
  refine lv_iconst (v := 0) hx hb dX1_init_33 (by decide) ?_
  refine va_put (D := (dC, dI)) (ci := 1) (v := .int 0) (ty := .int) (C := RX1) (T := TX1) (N := 8) hx hb hts hinX1 tyX1 tyX1_ok nmX1 hown hK.1 hP hD hS 0 rfl rfl 4 (by decide) w25 (fun _ h9 => h9) rfl (by decide +kernel) rfl rfl (Nat.le_of_ble_eq_true rfl) dX1_init_34 (fun H locs hP hD hS => ?_)
  have hP : va_P (dC, dI) vwCl [(h0, .inr (1, [.ref q1, .ref q2, .int 0, .int 0, .int 0, .int 0, .int 0, .int 0])), (q1, .inl (y 0, 160, .inl (fun _ => 0))), (q2, .inl (y 0, 160, .inl (fun _ => 0)))] H := hP
  have hD : va_D A [(h0, .inr (1, [.ref q1, .ref q2, .int 0, .int 0, .int 0, .int 0, .int 0, .int 0])), (q1, .inl (y 0, 160, .inl (fun _ => 0))), (q2, .inl (y 0, 160, .inl (fun _ => 0)))] := hD
  refine lv_aload_n hx hb dX1_init_37 rfl (lv_at hl 0 rfl) ?_
  refine lv_iconst (v := 0) hx hb dX1_init_38 (by decide) ?_
  refine va_put (D := (dC, dI)) (ci := 1) (v := .int 0) (ty := .int) (C := RX1) (T := TX1) (N := 8) hx hb hts hinX1 tyX1 tyX1_ok nmX1 hown hK.1 hP hD hS 0 rfl rfl 5 (by decide) w28 (fun _ h9 => h9) rfl (by decide +kernel) rfl rfl (Nat.le_of_ble_eq_true rfl) dX1_init_39 (fun H locs hP hD hS => ?_)
  have hP : va_P (dC, dI) vwCl [(h0, .inr (1, [.ref q1, .ref q2, .int 0, .int 0, .int 0, .int 0, .int 0, .int 0])), (q1, .inl (y 0, 160, .inl (fun _ => 0))), (q2, .inl (y 0, 160, .inl (fun _ => 0)))] H := hP
  have hD : va_D A [(h0, .inr (1, [.ref q1, .ref q2, .int 0, .int 0, .int 0, .int 0, .int 0, .int 0])), (q1, .inl (y 0, 160, .inl (fun _ => 0))), (q2, .inl (y 0, 160, .inl (fun _ => 0)))] := hD
  refine lv_aload_n hx hb dX1_init_42 rfl (lv_at hl 0 rfl) ?_
  refine lv_iconst (v := (-1)) hx hb dX1_init_43 (by decide) ?_
  refine va_put (D := (dC, dI)) (ci := 1) (v := .int (-1)) (ty := .int) (C := RX1) (T := TX1) (N := 8) hx hb hts hinX1 tyX1 tyX1_ok nmX1 hown hK.1 hP hD hS 0 rfl rfl 6 (by decide) w31 (fun _ h9 => h9) rfl (by decide +kernel) rfl rfl (Nat.le_of_ble_eq_true rfl) dX1_init_44 (fun H locs hP hD hS => ?_)
  have hP : va_P (dC, dI) vwCl [(h0, .inr (1, [.ref q1, .ref q2, .int 0, .int 0, .int 0, .int 0, .int (-1), .int 0])), (q1, .inl (y 0, 160, .inl (fun _ => 0))), (q2, .inl (y 0, 160, .inl (fun _ => 0)))] H := hP
  have hD : va_D A [(h0, .inr (1, [.ref q1, .ref q2, .int 0, .int 0, .int 0, .int 0, .int (-1), .int 0])), (q1, .inl (y 0, 160, .inl (fun _ => 0))), (q2, .inl (y 0, 160, .inl (fun _ => 0)))] := hD
  refine lv_aload_n hx hb dX1_init_47 rfl (lv_at hl 0 rfl) ?_
  refine lv_iconst (v := 0) hx hb dX1_init_48 (by decide) ?_
  refine va_put (D := (dC, dI)) (ci := 1) (v := .int 0) (ty := .int) (C := RX1) (T := TX1) (N := 8) hx hb hts hinX1 tyX1 tyX1_ok nmX1 hown hK.1 hP hD hS 0 rfl rfl 7 (by decide) w34 (fun _ h9 => h9) rfl (by decide +kernel) rfl rfl (Nat.le_of_ble_eq_true rfl) dX1_init_49 (fun H locs hP hD hS => ?_)
  have hP : va_P (dC, dI) vwCl [(h0, .inr (1, [.ref q1, .ref q2, .int 0, .int 0, .int 0, .int 0, .int (-1), .int 0])), (q1, .inl (y 0, 160, .inl (fun _ => 0))), (q2, .inl (y 0, 160, .inl (fun _ => 0)))] H := hP
  have hD : va_D A [(h0, .inr (1, [.ref q1, .ref q2, .int 0, .int 0, .int 0, .int 0, .int (-1), .int 0])), (q1, .inl (y 0, 160, .inl (fun _ => 0))), (q2, .inl (y 0, 160, .inl (fun _ => 0)))] := hD
  have hP : va_P (dC, dI) vwCl (lnW y (h0, q1, q2) lineI) H := hP.sub [0, 1, 2] rfl
  have hD : va_D A (lnW y (h0, q1, q2) lineI) := hD.sub [0, 1, 2] (by decide) rfl
  exact W.vret hx hb hr (fun t ht hW => ⟨⟨(h0, q1, q2), rfl, rfl, by rw [ht]; exact hP, hD⟩, hS.F ht⟩) hS.2.2 dX1_init_52

set_option maxHeartbeats 4000000 in
set_option maxRecDepth 100000 in
theorem c_X3_init (l : Launch) (dC : Nat → ClassId) (dI : Nat → Nat → Nat) (y : Nat → ClassId) (h0 : Nat) (sz : Nat) : MC l yX3_init wsX3_init { frames := 2, cells := 1, slots := 4, locals := 32 } dC dI y [.ref h0] [(h0, .inr (3, [.null, .int 0, .int 0, .int 0, .int 0, .int 0, .int 0, .int 0, .int 0]))] sz (fun u : ReaderA => rdW u readerI) (fun u => h0 = u.1) 1 4 := by
  refine Met.ofW (cc := cX3_init) (maxL := 1) (ret := none) (by decide) rfl ?_
  intro p e s m args below meth c s₁ B hml hv
  obtain ⟨rfl, hsz, hP, hK, hO, hD0⟩ := hv
  have hx := B.exec
  have hb := B.bytes
  have hr := B.returns
  have hts := atoms_spec (ws := wsX3_init) B.pre
  have hown : s.vm.findClass RX3 = some m.cls := findClass_of_methodNamed B.named
  have hlocks := B.notSynchronized
  have hin9 : meth.name = "<init>" := (name_of_methodNamed B.named B.method).1
  subst hsz
  have hD := hD0.self (sz := s.heap.size)
  generalize hAe : va_A ([(h0, .inr (3, [.null, .int 0, .int 0, .int 0, .int 0, .int 0, .int 0, .int 0, .int 0]))]) s.heap.size = A at hD ⊢
  have hA : ∀ q : Nat, s.heap.size ≤ q → A q := fun q h => by rw [← hAe]; exact Or.inr h
  have hS : va_S A s.heap s.heap [] := va_S.rf
  clear hAe hD0
  have w12 := hts (.fieldLink RX3 12 "SharedWire$Reader" "frame" "LSharedWire$Frame;") (List.mem_of_getElem? (i := 7) rfl)
  have w18 := hts (.fieldLink RX3 18 "SharedWire$Reader" "taken" "I") (List.mem_of_getElem? (i := 8) rfl)
  have w22 := hts (.fieldLink RX3 22 "SharedWire$Reader" "tail" "I") (List.mem_of_getElem? (i := 9) rfl)
  have w25 := hts (.fieldLink RX3 25 "SharedWire$Reader" "alike" "I") (List.mem_of_getElem? (i := 10) rfl)
  have w28 := hts (.fieldLink RX3 28 "SharedWire$Reader" "last" "I") (List.mem_of_getElem? (i := 11) rfl)
  have w3 := hts (.methodLink RX3 3 objectInit) (List.mem_of_getElem? (i := 1) rfl)
  have w31 := hts (.fieldLink RX3 31 "SharedWire$Reader" "check" "I") (List.mem_of_getElem? (i := 12) rfl)
  have w34 := hts (.fieldLink RX3 34 "SharedWire$Reader" "checkTaken" "I") (List.mem_of_getElem? (i := 13) rfl)
  have w37 := hts (.fieldLink RX3 37 "SharedWire$Reader" "sizePlace" "I") (List.mem_of_getElem? (i := 14) rfl)
  have w40 := hts (.fieldLink RX3 40 "SharedWire$Reader" "checkPlace" "I") (List.mem_of_getElem? (i := 15) rfl)
  have w9 := hts (.classLink RX3 9 RX0) (List.mem_of_getElem? (i := 4) rfl)
  have hinX0 : ∀ w ∈ wsX00, w ∈ wsX3_init := fun w h => List.mem_cons_of_mem _ (List.mem_append_left _ (List.mem_append_right _ (h)))
  have hinX3 : ∀ w ∈ wsX30, w ∈ wsX3_init := fun w h => List.mem_cons_of_mem _ (List.mem_append_right _ (h))
  have hl := lv_entry ([.ref h0]) (n := 1) (Nat.le_of_ble_eq_true rfl)
  rw [lg_entry_eq]
  generalize (lg_sl ([.ref h0]) ++ List.replicate (1 - (lg_sl ([.ref h0])).length) Slot.unset).toArray = ls at hl ⊢
  have hl : lv_has ls 1 [(0, .ref h0)] := hl
  refine lv_aload_n hx hb dX3_init_0 rfl (lv_at hl 0 rfl) ?_
  refine W.objInit hx hb hown w3 (hts (.instanceMethod objectInit) (List.mem_of_getElem? (i := 2) rfl)) (hts (.code objectInit ⟨#[0xb1]⟩ 1 none) (List.mem_of_getElem? (i := 3) rfl)) rfl (by rw [hml]; exact hl.1) rfl dX3_init_1 (Nat.le_of_ble_eq_true rfl) (Nat.le_of_ble_eq_true rfl) ?_
  refine W.eq (g2 := F0 m 4 ls []) rfl ?_
  refine lv_aload_n hx hb dX3_init_4 rfl (lv_at hl 0 rfl) ?_
  refine va_new (ci := 0) (fs := [.int 0, .int 0, .long 0, .int 0]) (C := RX0) (T := TX0) (N := 4) hx hb hts hinX0 tyX0 tyX0_ok hown w9 (hts (.instantiable RX0 4) (List.mem_of_getElem? (i := 5) rfl)) (hts (.initialized RX0) (List.mem_of_getElem? (i := 6) rfl)) hK.1 hP hD hS hA rfl (dfltX0) (Nat.le_of_ble_eq_true rfl) (Nat.le_of_ble_eq_true rfl) dX3_init_5 (fun q1 H hP hD hS => ?_)
  have hP : va_P (dC, dI) vwCl [(h0, .inr (3, [.null, .int 0, .int 0, .int 0, .int 0, .int 0, .int 0, .int 0, .int 0])), (q1, .inr (0, [.int 0, .int 0, .long 0, .int 0]))] H := hP
  have hD : va_D A [(h0, .inr (3, [.null, .int 0, .int 0, .int 0, .int 0, .int 0, .int 0, .int 0, .int 0])), (q1, .inr (0, [.int 0, .int 0, .long 0, .int 0]))] := hD
  refine W.widen (k := 1) (n := 4) (Nat.le_of_ble_eq_true rfl) (Nat.le_of_ble_eq_true rfl) ?_
  refine lv_dup hx hb dX3_init_8 rfl ?_
  refine kIN (rest := [.ref q1, .ref h0]) (pre := [(h0, .inr (3, [.null, .int 0, .int 0, .int 0, .int 0, .int 0, .int 0, .int 0, .int 0]))]) (post := []) ⟨hx, hb, hml, hown, hts⟩ (c_X0_init l dC dI y q1 H.size) ⟨va_cnB 0 hts gX3_init_X0_init_n11 rfl rfl rfl hK.2.2.2.1 (hts (.initialized RX0) (List.mem_of_getElem? (i := 6) rfl)) (by decide +kernel) ⟨Nat.le_of_ble_eq_true rfl, Nat.le_of_ble_eq_true rfl⟩, rfl, (hts (.instanceMethod yX0_init) (List.mem_of_getElem? (i := 16) rfl))⟩ hK hO hP hD hS hA hl.1 (Nat.le_of_ble_eq_true rfl) dX3_init_9 ⟨Nat.le_of_ble_eq_true rfl, Nat.le_of_ble_eq_true rfl⟩ (fun u1 H locs hw hP2 hD2 hS2 => ?_)
  have hP := hP2
  have hD := hD2
  have hS := hS2
  have hP : va_P (dC, dI) vwCl [(h0, .inr (3, [.null, .int 0, .int 0, .int 0, .int 0, .int 0, .int 0, .int 0, .int 0])), (q1, .inr (0, [.int 0, .int 0, .long 0, .int 0]))] H := hP
  have hD : va_D A [(h0, .inr (3, [.null, .int 0, .int 0, .int 0, .int 0, .int 0, .int 0, .int 0, .int 0])), (q1, .inr (0, [.int 0, .int 0, .long 0, .int 0]))] := hD
  refine W.widen (k := 1) (n := 4) (Nat.le_of_ble_eq_true rfl) (Nat.le_of_ble_eq_true rfl) ?_
  refine va_putF (D := (dC, dI)) (ci := 3) (v := .ref q1) (ty := (.object "SharedWire$Frame")) (C := RX3) (T := TX3) (N := 9) hx hb hts hinX3 tyX3 tyX3_ok nmX3 hown hK.1 hP hD hS 0 rfl rfl 0 (by decide) w12 (fun _ h9 => h9) rfl hin9 rfl (by decide +kernel) rfl rfl (Nat.le_of_ble_eq_true rfl) dX3_init_12 (fun H locs hP hD hS => ?_)
  have hP : va_P (dC, dI) vwCl [(h0, .inr (3, [.ref q1, .int 0, .int 0, .int 0, .int 0, .int 0, .int 0, .int 0, .int 0])), (q1, .inr (0, [.int 0, .int 0, .long 0, .int 0]))] H := hP
  have hD : va_D A [(h0, .inr (3, [.ref q1, .int 0, .int 0, .int 0, .int 0, .int 0, .int 0, .int 0, .int 0])), (q1, .inr (0, [.int 0, .int 0, .long 0, .int 0]))] := hD
  refine lv_aload_n hx hb dX3_init_15 rfl (lv_at hl 0 rfl) ?_
  refine lv_iconst (v := 0) hx hb dX3_init_16 (by decide) ?_
  refine va_put (D := (dC, dI)) (ci := 3) (v := .int 0) (ty := .int) (C := RX3) (T := TX3) (N := 9) hx hb hts hinX3 tyX3 tyX3_ok nmX3 hown hK.1 hP hD hS 0 rfl rfl 1 (by decide) w18 (fun _ h9 => h9) rfl (by decide +kernel) rfl rfl (Nat.le_of_ble_eq_true rfl) dX3_init_17 (fun H locs hP hD hS => ?_)
  have hP : va_P (dC, dI) vwCl [(h0, .inr (3, [.ref q1, .int 0, .int 0, .int 0, .int 0, .int 0, .int 0, .int 0, .int 0])), (q1, .inr (0, [.int 0, .int 0, .long 0, .int 0]))] H := hP
  have hD : va_D A [(h0, .inr (3, [.ref q1, .int 0, .int 0, .int 0, .int 0, .int 0, .int 0, .int 0, .int 0])), (q1, .inr (0, [.int 0, .int 0, .long 0, .int 0]))] := hD
  refine lv_aload_n hx hb dX3_init_20 rfl (lv_at hl 0 rfl) ?_
  refine lv_iconst (v := 0) hx hb dX3_init_21 (by decide) ?_
  refine va_put (D := (dC, dI)) (ci := 3) (v := .int 0) (ty := .int) (C := RX3) (T := TX3) (N := 9) hx hb hts hinX3 tyX3 tyX3_ok nmX3 hown hK.1 hP hD hS 0 rfl rfl 2 (by decide) w22 (fun _ h9 => h9) rfl (by decide +kernel) rfl rfl (Nat.le_of_ble_eq_true rfl) dX3_init_22 (fun H locs hP hD hS => ?_)
  have hP : va_P (dC, dI) vwCl [(h0, .inr (3, [.ref q1, .int 0, .int 0, .int 0, .int 0, .int 0, .int 0, .int 0, .int 0])), (q1, .inr (0, [.int 0, .int 0, .long 0, .int 0]))] H := hP
  have hD : va_D A [(h0, .inr (3, [.ref q1, .int 0, .int 0, .int 0, .int 0, .int 0, .int 0, .int 0, .int 0])), (q1, .inr (0, [.int 0, .int 0, .long 0, .int 0]))] := hD
  refine lv_aload_n hx hb dX3_init_25 rfl (lv_at hl 0 rfl) ?_
  refine lv_iconst (v := 0) hx hb dX3_init_26 (by decide) ?_
  refine va_put (D := (dC, dI)) (ci := 3) (v := .int 0) (ty := .int) (C := RX3) (T := TX3) (N := 9) hx hb hts hinX3 tyX3 tyX3_ok nmX3 hown hK.1 hP hD hS 0 rfl rfl 3 (by decide) w25 (fun _ h9 => h9) rfl (by decide +kernel) rfl rfl (Nat.le_of_ble_eq_true rfl) dX3_init_27 (fun H locs hP hD hS => ?_)
  have hP : va_P (dC, dI) vwCl [(h0, .inr (3, [.ref q1, .int 0, .int 0, .int 0, .int 0, .int 0, .int 0, .int 0, .int 0])), (q1, .inr (0, [.int 0, .int 0, .long 0, .int 0]))] H := hP
  have hD : va_D A [(h0, .inr (3, [.ref q1, .int 0, .int 0, .int 0, .int 0, .int 0, .int 0, .int 0, .int 0])), (q1, .inr (0, [.int 0, .int 0, .long 0, .int 0]))] := hD
  refine lv_aload_n hx hb dX3_init_30 rfl (lv_at hl 0 rfl) ?_
  refine lv_iconst (v := (-1)) hx hb dX3_init_31 (by decide) ?_
  refine va_put (D := (dC, dI)) (ci := 3) (v := .int (-1)) (ty := .int) (C := RX3) (T := TX3) (N := 9) hx hb hts hinX3 tyX3 tyX3_ok nmX3 hown hK.1 hP hD hS 0 rfl rfl 4 (by decide) w28 (fun _ h9 => h9) rfl (by decide +kernel) rfl rfl (Nat.le_of_ble_eq_true rfl) dX3_init_32 (fun H locs hP hD hS => ?_)
  have hP : va_P (dC, dI) vwCl [(h0, .inr (3, [.ref q1, .int 0, .int 0, .int 0, .int (-1), .int 0, .int 0, .int 0, .int 0])), (q1, .inr (0, [.int 0, .int 0, .long 0, .int 0]))] H := hP
  have hD : va_D A [(h0, .inr (3, [.ref q1, .int 0, .int 0, .int 0, .int (-1), .int 0, .int 0, .int 0, .int 0])), (q1, .inr (0, [.int 0, .int 0, .long 0, .int 0]))] := hD
  refine lv_aload_n hx hb dX3_init_35 rfl (lv_at hl 0 rfl) ?_
  refine lv_iconst (v := 0) hx hb dX3_init_36 (by decide) ?_
  refine va_put (D := (dC, dI)) (ci := 3) (v := .int 0) (ty := .int) (C := RX3) (T := TX3) (N := 9) hx hb hts hinX3 tyX3 tyX3_ok nmX3 hown hK.1 hP hD hS 0 rfl rfl 5 (by decide) w31 (fun _ h9 => h9) rfl (by decide +kernel) rfl rfl (Nat.le_of_ble_eq_true rfl) dX3_init_37 (fun H locs hP hD hS => ?_)
  have hP : va_P (dC, dI) vwCl [(h0, .inr (3, [.ref q1, .int 0, .int 0, .int 0, .int (-1), .int 0, .int 0, .int 0, .int 0])), (q1, .inr (0, [.int 0, .int 0, .long 0, .int 0]))] H := hP
  have hD : va_D A [(h0, .inr (3, [.ref q1, .int 0, .int 0, .int 0, .int (-1), .int 0, .int 0, .int 0, .int 0])), (q1, .inr (0, [.int 0, .int 0, .long 0, .int 0]))] := hD
  refine lv_aload_n hx hb dX3_init_40 rfl (lv_at hl 0 rfl) ?_
  refine lv_iconst (v := 0) hx hb dX3_init_41 (by decide) ?_
  refine va_put (D := (dC, dI)) (ci := 3) (v := .int 0) (ty := .int) (C := RX3) (T := TX3) (N := 9) hx hb hts hinX3 tyX3 tyX3_ok nmX3 hown hK.1 hP hD hS 0 rfl rfl 6 (by decide) w34 (fun _ h9 => h9) rfl (by decide +kernel) rfl rfl (Nat.le_of_ble_eq_true rfl) dX3_init_42 (fun H locs hP hD hS => ?_)
  have hP : va_P (dC, dI) vwCl [(h0, .inr (3, [.ref q1, .int 0, .int 0, .int 0, .int (-1), .int 0, .int 0, .int 0, .int 0])), (q1, .inr (0, [.int 0, .int 0, .long 0, .int 0]))] H := hP
  have hD : va_D A [(h0, .inr (3, [.ref q1, .int 0, .int 0, .int 0, .int (-1), .int 0, .int 0, .int 0, .int 0])), (q1, .inr (0, [.int 0, .int 0, .long 0, .int 0]))] := hD
  refine lv_aload_n hx hb dX3_init_45 rfl (lv_at hl 0 rfl) ?_
  refine lv_bipush (v := 15) hx hb dX3_init_46 (by decide) ?_
  refine va_put (D := (dC, dI)) (ci := 3) (v := .int 15) (ty := .int) (C := RX3) (T := TX3) (N := 9) hx hb hts hinX3 tyX3 tyX3_ok nmX3 hown hK.1 hP hD hS 0 rfl rfl 7 (by decide) w37 (fun _ h9 => h9) rfl (by decide +kernel) rfl rfl (Nat.le_of_ble_eq_true rfl) dX3_init_48 (fun H locs hP hD hS => ?_)
  have hP : va_P (dC, dI) vwCl [(h0, .inr (3, [.ref q1, .int 0, .int 0, .int 0, .int (-1), .int 0, .int 0, .int 15, .int 0])), (q1, .inr (0, [.int 0, .int 0, .long 0, .int 0]))] H := hP
  have hD : va_D A [(h0, .inr (3, [.ref q1, .int 0, .int 0, .int 0, .int (-1), .int 0, .int 0, .int 15, .int 0])), (q1, .inr (0, [.int 0, .int 0, .long 0, .int 0]))] := hD
  refine lv_aload_n hx hb dX3_init_51 rfl (lv_at hl 0 rfl) ?_
  refine lv_bipush (v := 19) hx hb dX3_init_52 (by decide) ?_
  refine va_put (D := (dC, dI)) (ci := 3) (v := .int 19) (ty := .int) (C := RX3) (T := TX3) (N := 9) hx hb hts hinX3 tyX3 tyX3_ok nmX3 hown hK.1 hP hD hS 0 rfl rfl 8 (by decide) w40 (fun _ h9 => h9) rfl (by decide +kernel) rfl rfl (Nat.le_of_ble_eq_true rfl) dX3_init_54 (fun H locs hP hD hS => ?_)
  have hP : va_P (dC, dI) vwCl [(h0, .inr (3, [.ref q1, .int 0, .int 0, .int 0, .int (-1), .int 0, .int 0, .int 15, .int 19])), (q1, .inr (0, [.int 0, .int 0, .long 0, .int 0]))] H := hP
  have hD : va_D A [(h0, .inr (3, [.ref q1, .int 0, .int 0, .int 0, .int (-1), .int 0, .int 0, .int 15, .int 19])), (q1, .inr (0, [.int 0, .int 0, .long 0, .int 0]))] := hD
  have hP : va_P (dC, dI) vwCl (rdW (h0, q1) readerI) H := hP.sub [0, 1] rfl
  have hD : va_D A (rdW (h0, q1) readerI) := hD.sub [0, 1] (by decide) rfl
  exact W.vret hx hb hr (fun t ht hW => ⟨⟨(h0, q1), rfl, rfl, by rw [ht]; exact hP, hD⟩, hS.F ht⟩) hS.2.2 dX3_init_57

set_option maxHeartbeats 4000000 in
set_option maxRecDepth 100000 in
theorem c_X2_init (l : Launch) (dC : Nat → ClassId) (dI : Nat → Nat → Nat) (y : Nat → ClassId) (h0 : Nat) (sz : Nat) : MC l yX2_init wsX2_init { frames := 3, cells := 11, slots := 365, locals := 52 } dC dI y [.ref h0] [(h0, .inr (2, [.null, .null, .null, .null, .int 0, .int 0, .int 0, .int 0, .int 0, .int 0, .int 0, .int 0, .int 0, .int 0, .int 0]))] sz (fun u : NodeA => ndW y u nodeI) (fun u => h0 = u.1) 11 365 := by
  refine Met.ofW (cc := cX2_init) (maxL := 2) (ret := none) (by decide) rfl ?_
  intro p e s m args below meth c s₁ B hml hv
  obtain ⟨rfl, hsz, hP, hK, hO, hD0⟩ := hv
  have hx := B.exec
  have hb := B.bytes
  have hr := B.returns
  have hts := atoms_spec (ws := wsX2_init) B.pre
  have hown : s.vm.findClass RX2 = some m.cls := findClass_of_methodNamed B.named
  have hlocks := B.notSynchronized
  have hin9 : meth.name = "<init>" := (name_of_methodNamed B.named B.method).1
  subst hsz
  have hD := hD0.self (sz := s.heap.size)
  generalize hAe : va_A ([(h0, .inr (2, [.null, .null, .null, .null, .int 0, .int 0, .int 0, .int 0, .int 0, .int 0, .int 0, .int 0, .int 0, .int 0, .int 0]))]) s.heap.size = A at hD ⊢
  have hA : ∀ q : Nat, s.heap.size ≤ q → A q := fun q h => by rw [← hAe]; exact Or.inr h
  have hS : va_S A s.heap s.heap [] := va_S.rf
  clear hAe hD0
  have w11 := hts (Cond.fieldLink RX2 11 "SharedWire$Node" "wanted" "[LSharedWire$Frame;") (List.mem_of_getElem? (i := 5) rfl)
  have w18 := hts (Cond.fieldLink RX2 18 "SharedWire$Node" "lastReceived" "LSharedWire$Frame;") (List.mem_of_getElem? (i := 8) rfl)
  have w22 := hts (Cond.classLink RX2 22 RX1) (List.mem_of_getElem? (i := 9) rfl)
  have w25 := hts (Cond.fieldLink RX2 25 "SharedWire$Node" "line" "LSharedWire$Line;") (List.mem_of_getElem? (i := 12) rfl)
  have w29 := hts (Cond.classLink RX2 29 RX3) (List.mem_of_getElem? (i := 13) rfl)
  have w3 := hts (Cond.methodLink RX2 3 objectInit) (List.mem_of_getElem? (i := 1) rfl)
  have w32 := hts (Cond.fieldLink RX2 32 "SharedWire$Node" "reader" "LSharedWire$Reader;") (List.mem_of_getElem? (i := 16) rfl)
  have w36 := hts (Cond.fieldLink RX2 36 "SharedWire$Node" "on" "Z") (List.mem_of_getElem? (i := 17) rfl)
  have w40 := hts (Cond.fieldLink RX2 40 "SharedWire$Node" "role" "I") (List.mem_of_getElem? (i := 18) rfl)
  have w44 := hts (Cond.fieldLink RX2 44 "SharedWire$Node" "wants" "I") (List.mem_of_getElem? (i := 19) rfl)
  have w47 := hts (Cond.fieldLink RX2 47 "SharedWire$Node" "sendingCount" "I") (List.mem_of_getElem? (i := 20) rfl)
  have w50 := hts (Cond.fieldLink RX2 50 "SharedWire$Node" "receivingCount" "I") (List.mem_of_getElem? (i := 21) rfl)
  have w53 := hts (Cond.fieldLink RX2 53 "SharedWire$Node" "framesSent" "I") (List.mem_of_getElem? (i := 22) rfl)
  have w56 := hts (Cond.fieldLink RX2 56 "SharedWire$Node" "framesReceived" "I") (List.mem_of_getElem? (i := 23) rfl)
  have w59 := hts (Cond.fieldLink RX2 59 "SharedWire$Node" "lastFault" "I") (List.mem_of_getElem? (i := 24) rfl)
  have w62 := hts (Cond.fieldLink RX2 62 "SharedWire$Node" "found" "I") (List.mem_of_getElem? (i := 25) rfl)
  have w65 := hts (Cond.fieldLink RX2 65 "SharedWire$Node" "sending" "I") (List.mem_of_getElem? (i := 26) rfl)
  have w68 := hts (Cond.fieldLink RX2 68 "SharedWire$Node" "next" "I") (List.mem_of_getElem? (i := 27) rfl)
  have w9 := hts (Cond.classLink RX2 9 RX0) (List.mem_of_getElem? (i := 4) rfl)
  have hinX0 : ∀ w ∈ wsX00, w ∈ wsX2_init := fun w h => List.mem_cons_of_mem _ (List.mem_append_left _ (List.mem_append_left _ (List.mem_append_right _ (h))))
  have hinX1 : ∀ w ∈ wsX10, w ∈ wsX2_init := fun w h => List.mem_cons_of_mem _ (List.mem_append_left _ (List.mem_append_right _ (h)))
  have hinX2 : ∀ w ∈ wsX20, w ∈ wsX2_init := fun w h => List.mem_cons_of_mem _ (List.mem_append_left _ (List.mem_append_left _ (List.mem_append_left _ (List.mem_append_right _ (h)))))
  have hinX3 : ∀ w ∈ wsX30, w ∈ wsX2_init := fun w h => List.mem_cons_of_mem _ (List.mem_append_right _ (h))
  have hl := lv_entry ([.ref h0]) (n := 2) (Nat.le_of_ble_eq_true rfl)
  rw [lg_entry_eq]
  generalize (lg_sl ([.ref h0]) ++ List.replicate (2 - (lg_sl ([.ref h0])).length) Slot.unset).toArray = ls at hl ⊢
  have hl : lv_has ls 2 [(0, .ref h0)] := hl
  refine lv_aload_n hx hb dX2_init_0 rfl (lv_at hl 0 rfl) ?_
  refine W.objInit hx hb hown w3 (hts (.instanceMethod objectInit) (List.mem_of_getElem? (i := 2) rfl)) (hts (.code objectInit ⟨#[0xb1]⟩ 1 none) (List.mem_of_getElem? (i := 3) rfl)) rfl (by rw [hml]; exact hl.1) rfl dX2_init_1 (Nat.le_of_ble_eq_true rfl) (Nat.le_of_ble_eq_true rfl) ?_
  refine W.eq (g2 := F0 m 4 ls []) rfl ?_
  refine lv_aload_n hx hb dX2_init_4 rfl (lv_at hl 0 rfl) ?_
  refine lv_iconst (v := 4) hx hb dX2_init_5 (by decide) ?_
  refine nw_q (N' := 4) (t0 := 3) rfl hx hb hown w9 hO.1 hK hP hD hS hA (by decide) (clamp_lit 4 rfl) (Nat.le_of_ble_eq_true rfl) (Nat.le_of_ble_eq_true rfl) (Nat.le_of_ble_eq_true rfl) dX2_init_6 (fun q1 H hP hD hS => ?_)
  have hP : va_P (dC, dI) vwCl [(h0, .inr (2, [.null, .null, .null, .null, .int 0, .int 0, .int 0, .int 0, .int 0, .int 0, .int 0, .int 0, .int 0, .int 0, .int 0])), (q1, .inl (y 3, 4, .inr (.inr (.inr (.inr (fun _ => none))))))] H := hP
  have hD : va_D A [(h0, .inr (2, [.null, .null, .null, .null, .int 0, .int 0, .int 0, .int 0, .int 0, .int 0, .int 0, .int 0, .int 0, .int 0, .int 0])), (q1, .inl (y 3, 4, .inr (.inr (.inr (.inr (fun _ => none))))))] := hD
  refine W.widen (k := 1) (n := 4) (Nat.le_of_ble_eq_true rfl) (Nat.le_of_ble_eq_true rfl) ?_
  refine va_putF (D := (dC, dI)) (ci := 2) (v := .ref q1) (ty := (.array (.object "SharedWire$Frame"))) (C := RX2) (T := TX2) (N := 15) hx hb hts hinX2 tyX2 tyX2_ok nmX2 hown hK.1 hP hD hS 0 rfl rfl 0 (by decide) w11 (fun _ h9 => h9) rfl hin9 rfl (by decide +kernel) rfl rfl (Nat.le_of_ble_eq_true rfl) dX2_init_9 (fun H locs hP hD hS => ?_)
  have hP : va_P (dC, dI) vwCl [(h0, .inr (2, [.ref q1, .null, .null, .null, .int 0, .int 0, .int 0, .int 0, .int 0, .int 0, .int 0, .int 0, .int 0, .int 0, .int 0])), (q1, .inl (y 3, 4, .inr (.inr (.inr (.inr (fun _ => none))))))] H := hP
  have hD : va_D A [(h0, .inr (2, [.ref q1, .null, .null, .null, .int 0, .int 0, .int 0, .int 0, .int 0, .int 0, .int 0, .int 0, .int 0, .int 0, .int 0])), (q1, .inl (y 3, 4, .inr (.inr (.inr (.inr (fun _ => none))))))] := hD
  refine lv_aload_n hx hb dX2_init_12 rfl (lv_at hl 0 rfl) ?_
  refine va_new (ci := 0) (fs := [.int 0, .int 0, .long 0, .int 0]) (C := RX0) (T := TX0) (N := 4) hx hb hts hinX0 tyX0 tyX0_ok hown w9 (hts (.instantiable RX0 4) (List.mem_of_getElem? (i := 6) rfl)) (hts (.initialized RX0) (List.mem_of_getElem? (i := 7) rfl)) hK.1 hP hD hS hA rfl (dfltX0) (Nat.le_of_ble_eq_true rfl) (Nat.le_of_ble_eq_true rfl) dX2_init_13 (fun q2 H hP hD hS => ?_)
  have hP : va_P (dC, dI) vwCl [(h0, .inr (2, [.ref q1, .null, .null, .null, .int 0, .int 0, .int 0, .int 0, .int 0, .int 0, .int 0, .int 0, .int 0, .int 0, .int 0])), (q1, .inl (y 3, 4, .inr (.inr (.inr (.inr (fun _ => none)))))), (q2, .inr (0, [.int 0, .int 0, .long 0, .int 0]))] H := hP
  have hD : va_D A [(h0, .inr (2, [.ref q1, .null, .null, .null, .int 0, .int 0, .int 0, .int 0, .int 0, .int 0, .int 0, .int 0, .int 0, .int 0, .int 0])), (q1, .inl (y 3, 4, .inr (.inr (.inr (.inr (fun _ => none)))))), (q2, .inr (0, [.int 0, .int 0, .long 0, .int 0]))] := hD
  refine W.widen (k := 2) (n := 8) (Nat.le_of_ble_eq_true rfl) (Nat.le_of_ble_eq_true rfl) ?_
  refine lv_dup hx hb dX2_init_16 rfl ?_
  refine kIN (rest := [.ref q2, .ref h0]) (pre := [(h0, .inr (2, [.ref q1, .null, .null, .null, .int 0, .int 0, .int 0, .int 0, .int 0, .int 0, .int 0, .int 0, .int 0, .int 0, .int 0])), (q1, .inl (y 3, 4, .inr (.inr (.inr (.inr (fun _ => none))))))]) (post := []) ⟨hx, hb, hml, hown, hts⟩ (c_X0_init l dC dI y q2 H.size) ⟨va_cnB 0 hts gX2_init_X0_init_n17 rfl rfl rfl hK.2.2.2.2.1 (hts (.initialized RX0) (List.mem_of_getElem? (i := 7) rfl)) (by decide +kernel) ⟨Nat.le_of_ble_eq_true rfl, Nat.le_of_ble_eq_true rfl⟩, rfl, (hts (.instanceMethod yX0_init) (List.mem_of_getElem? (i := 28) rfl))⟩ hK hO hP hD hS hA hl.1 (Nat.le_of_ble_eq_true rfl) dX2_init_17 ⟨Nat.le_of_ble_eq_true rfl, Nat.le_of_ble_eq_true rfl⟩ (fun u2 H locs hw hP2 hD2 hS2 => ?_)
  have hP := hP2
  have hD := hD2
  have hS := hS2
  have hP : va_P (dC, dI) vwCl [(h0, .inr (2, [.ref q1, .null, .null, .null, .int 0, .int 0, .int 0, .int 0, .int 0, .int 0, .int 0, .int 0, .int 0, .int 0, .int 0])), (q1, .inl (y 3, 4, .inr (.inr (.inr (.inr (fun _ => none)))))), (q2, .inr (0, [.int 0, .int 0, .long 0, .int 0]))] H := hP
  have hD : va_D A [(h0, .inr (2, [.ref q1, .null, .null, .null, .int 0, .int 0, .int 0, .int 0, .int 0, .int 0, .int 0, .int 0, .int 0, .int 0, .int 0])), (q1, .inl (y 3, 4, .inr (.inr (.inr (.inr (fun _ => none)))))), (q2, .inr (0, [.int 0, .int 0, .long 0, .int 0]))] := hD
  refine W.widen (k := 2) (n := 8) (Nat.le_of_ble_eq_true rfl) (Nat.le_of_ble_eq_true rfl) ?_
  refine va_putF (D := (dC, dI)) (ci := 2) (v := .ref q2) (ty := (.object "SharedWire$Frame")) (C := RX2) (T := TX2) (N := 15) hx hb hts hinX2 tyX2 tyX2_ok nmX2 hown hK.1 hP hD hS 0 rfl rfl 1 (by decide) w18 (fun _ h9 => h9) rfl hin9 rfl (by decide +kernel) rfl rfl (Nat.le_of_ble_eq_true rfl) dX2_init_20 (fun H locs hP hD hS => ?_)
  have hP : va_P (dC, dI) vwCl [(h0, .inr (2, [.ref q1, .ref q2, .null, .null, .int 0, .int 0, .int 0, .int 0, .int 0, .int 0, .int 0, .int 0, .int 0, .int 0, .int 0])), (q1, .inl (y 3, 4, .inr (.inr (.inr (.inr (fun _ => none)))))), (q2, .inr (0, [.int 0, .int 0, .long 0, .int 0]))] H := hP
  have hD : va_D A [(h0, .inr (2, [.ref q1, .ref q2, .null, .null, .int 0, .int 0, .int 0, .int 0, .int 0, .int 0, .int 0, .int 0, .int 0, .int 0, .int 0])), (q1, .inl (y 3, 4, .inr (.inr (.inr (.inr (fun _ => none)))))), (q2, .inr (0, [.int 0, .int 0, .long 0, .int 0]))] := hD
  refine lv_aload_n hx hb dX2_init_23 rfl (lv_at hl 0 rfl) ?_
  refine va_new (ci := 1) (fs := [.null, .null, .int 0, .int 0, .int 0, .int 0, .int 0, .int 0]) (C := RX1) (T := TX1) (N := 8) hx hb hts hinX1 tyX1 tyX1_ok hown w22 (hts (.instantiable RX1 8) (List.mem_of_getElem? (i := 10) rfl)) (hts (.initialized RX1) (List.mem_of_getElem? (i := 11) rfl)) hK.1 hP hD hS hA rfl (dfltX1) (Nat.le_of_ble_eq_true rfl) (Nat.le_of_ble_eq_true rfl) dX2_init_24 (fun q3 H hP hD hS => ?_)
  have hP : va_P (dC, dI) vwCl [(h0, .inr (2, [.ref q1, .ref q2, .null, .null, .int 0, .int 0, .int 0, .int 0, .int 0, .int 0, .int 0, .int 0, .int 0, .int 0, .int 0])), (q1, .inl (y 3, 4, .inr (.inr (.inr (.inr (fun _ => none)))))), (q2, .inr (0, [.int 0, .int 0, .long 0, .int 0])), (q3, .inr (1, [.null, .null, .int 0, .int 0, .int 0, .int 0, .int 0, .int 0]))] H := hP
  have hD : va_D A [(h0, .inr (2, [.ref q1, .ref q2, .null, .null, .int 0, .int 0, .int 0, .int 0, .int 0, .int 0, .int 0, .int 0, .int 0, .int 0, .int 0])), (q1, .inl (y 3, 4, .inr (.inr (.inr (.inr (fun _ => none)))))), (q2, .inr (0, [.int 0, .int 0, .long 0, .int 0])), (q3, .inr (1, [.null, .null, .int 0, .int 0, .int 0, .int 0, .int 0, .int 0]))] := hD
  refine W.widen (k := 3) (n := 16) (Nat.le_of_ble_eq_true rfl) (Nat.le_of_ble_eq_true rfl) ?_
  refine lv_dup hx hb dX2_init_27 rfl ?_
  refine kIN (rest := [.ref q3, .ref h0]) (pre := [(h0, .inr (2, [.ref q1, .ref q2, .null, .null, .int 0, .int 0, .int 0, .int 0, .int 0, .int 0, .int 0, .int 0, .int 0, .int 0, .int 0])), (q1, .inl (y 3, 4, .inr (.inr (.inr (.inr (fun _ => none)))))), (q2, .inr (0, [.int 0, .int 0, .long 0, .int 0]))]) (post := []) ⟨hx, hb, hml, hown, hts⟩ (c_X1_init l dC dI y q3 H.size) ⟨va_cnB 0 hts gX2_init_X1_init_n24 rfl rfl rfl hK.2.2.2.2.2.1 (hts (.initialized RX1) (List.mem_of_getElem? (i := 11) rfl)) (by decide +kernel) ⟨Nat.le_of_ble_eq_true rfl, Nat.le_of_ble_eq_true rfl⟩, rfl, (hts (.instanceMethod yX1_init) (List.mem_of_getElem? (i := 35) rfl))⟩ hK hO hP hD hS hA hl.1 (Nat.le_of_ble_eq_true rfl) dX2_init_28 ⟨Nat.le_of_ble_eq_true rfl, Nat.le_of_ble_eq_true rfl⟩ (fun u3 H locs hw hP2 hD2 hS2 => ?_)
  subst hw
  have hP := hP2
  have hD := hD2
  have hS := hS2
  have hP : va_P (dC, dI) vwCl [(h0, .inr (2, [.ref q1, .ref q2, .null, .null, .int 0, .int 0, .int 0, .int 0, .int 0, .int 0, .int 0, .int 0, .int 0, .int 0, .int 0])), (q1, .inl (y 3, 4, .inr (.inr (.inr (.inr (fun _ => none)))))), (q2, .inr (0, [.int 0, .int 0, .long 0, .int 0])), (u3.1, .inr (1, [.ref u3.2.1, .ref u3.2.2, .int 0, .int 0, .int 0, .int 0, .int (-1), .int 0])), (u3.2.1, .inl (y 0, 160, .inl (fun _ => 0))), (u3.2.2, .inl (y 0, 160, .inl (fun _ => 0)))] H := hP
  have hD : va_D A [(h0, .inr (2, [.ref q1, .ref q2, .null, .null, .int 0, .int 0, .int 0, .int 0, .int 0, .int 0, .int 0, .int 0, .int 0, .int 0, .int 0])), (q1, .inl (y 3, 4, .inr (.inr (.inr (.inr (fun _ => none)))))), (q2, .inr (0, [.int 0, .int 0, .long 0, .int 0])), (u3.1, .inr (1, [.ref u3.2.1, .ref u3.2.2, .int 0, .int 0, .int 0, .int 0, .int (-1), .int 0])), (u3.2.1, .inl (y 0, 160, .inl (fun _ => 0))), (u3.2.2, .inl (y 0, 160, .inl (fun _ => 0)))] := hD
  refine W.widen (k := 5) (n := 336) (Nat.le_of_ble_eq_true rfl) (Nat.le_of_ble_eq_true rfl) ?_
  refine va_putF (D := (dC, dI)) (ci := 2) (v := .ref u3.1) (ty := (.object "SharedWire$Line")) (C := RX2) (T := TX2) (N := 15) hx hb hts hinX2 tyX2 tyX2_ok nmX2 hown hK.1 hP hD hS 0 rfl rfl 2 (by decide) w25 (fun _ h9 => h9) rfl hin9 rfl (by decide +kernel) rfl rfl (Nat.le_of_ble_eq_true rfl) dX2_init_31 (fun H locs hP hD hS => ?_)
  have hP : va_P (dC, dI) vwCl [(h0, .inr (2, [.ref q1, .ref q2, .ref u3.1, .null, .int 0, .int 0, .int 0, .int 0, .int 0, .int 0, .int 0, .int 0, .int 0, .int 0, .int 0])), (q1, .inl (y 3, 4, .inr (.inr (.inr (.inr (fun _ => none)))))), (q2, .inr (0, [.int 0, .int 0, .long 0, .int 0])), (u3.1, .inr (1, [.ref u3.2.1, .ref u3.2.2, .int 0, .int 0, .int 0, .int 0, .int (-1), .int 0])), (u3.2.1, .inl (y 0, 160, .inl (fun _ => 0))), (u3.2.2, .inl (y 0, 160, .inl (fun _ => 0)))] H := hP
  have hD : va_D A [(h0, .inr (2, [.ref q1, .ref q2, .ref u3.1, .null, .int 0, .int 0, .int 0, .int 0, .int 0, .int 0, .int 0, .int 0, .int 0, .int 0, .int 0])), (q1, .inl (y 3, 4, .inr (.inr (.inr (.inr (fun _ => none)))))), (q2, .inr (0, [.int 0, .int 0, .long 0, .int 0])), (u3.1, .inr (1, [.ref u3.2.1, .ref u3.2.2, .int 0, .int 0, .int 0, .int 0, .int (-1), .int 0])), (u3.2.1, .inl (y 0, 160, .inl (fun _ => 0))), (u3.2.2, .inl (y 0, 160, .inl (fun _ => 0)))] := hD
  refine lv_aload_n hx hb dX2_init_34 rfl (lv_at hl 0 rfl) ?_
  refine va_new (ci := 3) (fs := [.null, .int 0, .int 0, .int 0, .int 0, .int 0, .int 0, .int 0, .int 0]) (C := RX3) (T := TX3) (N := 9) hx hb hts hinX3 tyX3 tyX3_ok hown w29 (hts (.instantiable RX3 9) (List.mem_of_getElem? (i := 14) rfl)) (hts (.initialized RX3) (List.mem_of_getElem? (i := 15) rfl)) hK.1 hP hD hS hA rfl (dfltX3) (Nat.le_of_ble_eq_true rfl) (Nat.le_of_ble_eq_true rfl) dX2_init_35 (fun q4 H hP hD hS => ?_)
  have hP : va_P (dC, dI) vwCl [(h0, .inr (2, [.ref q1, .ref q2, .ref u3.1, .null, .int 0, .int 0, .int 0, .int 0, .int 0, .int 0, .int 0, .int 0, .int 0, .int 0, .int 0])), (q1, .inl (y 3, 4, .inr (.inr (.inr (.inr (fun _ => none)))))), (q2, .inr (0, [.int 0, .int 0, .long 0, .int 0])), (u3.1, .inr (1, [.ref u3.2.1, .ref u3.2.2, .int 0, .int 0, .int 0, .int 0, .int (-1), .int 0])), (u3.2.1, .inl (y 0, 160, .inl (fun _ => 0))), (u3.2.2, .inl (y 0, 160, .inl (fun _ => 0))), (q4, .inr (3, [.null, .int 0, .int 0, .int 0, .int 0, .int 0, .int 0, .int 0, .int 0]))] H := hP
  have hD : va_D A [(h0, .inr (2, [.ref q1, .ref q2, .ref u3.1, .null, .int 0, .int 0, .int 0, .int 0, .int 0, .int 0, .int 0, .int 0, .int 0, .int 0, .int 0])), (q1, .inl (y 3, 4, .inr (.inr (.inr (.inr (fun _ => none)))))), (q2, .inr (0, [.int 0, .int 0, .long 0, .int 0])), (u3.1, .inr (1, [.ref u3.2.1, .ref u3.2.2, .int 0, .int 0, .int 0, .int 0, .int (-1), .int 0])), (u3.2.1, .inl (y 0, 160, .inl (fun _ => 0))), (u3.2.2, .inl (y 0, 160, .inl (fun _ => 0))), (q4, .inr (3, [.null, .int 0, .int 0, .int 0, .int 0, .int 0, .int 0, .int 0, .int 0]))] := hD
  refine W.widen (k := 6) (n := 345) (Nat.le_of_ble_eq_true rfl) (Nat.le_of_ble_eq_true rfl) ?_
  refine lv_dup hx hb dX2_init_38 rfl ?_
  refine kIN (rest := [.ref q4, .ref h0]) (pre := [(h0, .inr (2, [.ref q1, .ref q2, .ref u3.1, .null, .int 0, .int 0, .int 0, .int 0, .int 0, .int 0, .int 0, .int 0, .int 0, .int 0, .int 0])), (q1, .inl (y 3, 4, .inr (.inr (.inr (.inr (fun _ => none)))))), (q2, .inr (0, [.int 0, .int 0, .long 0, .int 0])), (u3.1, .inr (1, [.ref u3.2.1, .ref u3.2.2, .int 0, .int 0, .int 0, .int 0, .int (-1), .int 0])), (u3.2.1, .inl (y 0, 160, .inl (fun _ => 0))), (u3.2.2, .inl (y 0, 160, .inl (fun _ => 0)))]) (post := []) ⟨hx, hb, hml, hown, hts⟩ (c_X3_init l dC dI y q4 H.size) ⟨va_cnB 0 hts gX2_init_X3_init_n31 rfl rfl rfl hK.2.2.2.2.2.2.1 (hts (.initialized RX3) (List.mem_of_getElem? (i := 15) rfl)) (by decide +kernel) ⟨Nat.le_of_ble_eq_true rfl, Nat.le_of_ble_eq_true rfl⟩, rfl, (hts (.instanceMethod yX3_init) (List.mem_of_getElem? (i := 47) rfl))⟩ hK hO hP hD hS hA hl.1 (Nat.le_of_ble_eq_true rfl) dX2_init_39 ⟨Nat.le_of_ble_eq_true rfl, Nat.le_of_ble_eq_true rfl⟩ (fun u4 H locs hw hP2 hD2 hS2 => ?_)
  subst hw
  have hP := hP2
  have hD := hD2
  have hS := hS2
  have hP : va_P (dC, dI) vwCl [(h0, .inr (2, [.ref q1, .ref q2, .ref u3.1, .null, .int 0, .int 0, .int 0, .int 0, .int 0, .int 0, .int 0, .int 0, .int 0, .int 0, .int 0])), (q1, .inl (y 3, 4, .inr (.inr (.inr (.inr (fun _ => none)))))), (q2, .inr (0, [.int 0, .int 0, .long 0, .int 0])), (u3.1, .inr (1, [.ref u3.2.1, .ref u3.2.2, .int 0, .int 0, .int 0, .int 0, .int (-1), .int 0])), (u3.2.1, .inl (y 0, 160, .inl (fun _ => 0))), (u3.2.2, .inl (y 0, 160, .inl (fun _ => 0))), (u4.1, .inr (3, [.ref u4.2, .int 0, .int 0, .int 0, .int (-1), .int 0, .int 0, .int 15, .int 19])), (u4.2, .inr (0, [.int 0, .int 0, .long 0, .int 0]))] H := hP
  have hD : va_D A [(h0, .inr (2, [.ref q1, .ref q2, .ref u3.1, .null, .int 0, .int 0, .int 0, .int 0, .int 0, .int 0, .int 0, .int 0, .int 0, .int 0, .int 0])), (q1, .inl (y 3, 4, .inr (.inr (.inr (.inr (fun _ => none)))))), (q2, .inr (0, [.int 0, .int 0, .long 0, .int 0])), (u3.1, .inr (1, [.ref u3.2.1, .ref u3.2.2, .int 0, .int 0, .int 0, .int 0, .int (-1), .int 0])), (u3.2.1, .inl (y 0, 160, .inl (fun _ => 0))), (u3.2.2, .inl (y 0, 160, .inl (fun _ => 0))), (u4.1, .inr (3, [.ref u4.2, .int 0, .int 0, .int 0, .int (-1), .int 0, .int 0, .int 15, .int 19])), (u4.2, .inr (0, [.int 0, .int 0, .long 0, .int 0]))] := hD
  refine W.widen (k := 7) (n := 349) (Nat.le_of_ble_eq_true rfl) (Nat.le_of_ble_eq_true rfl) ?_
  refine va_putF (D := (dC, dI)) (ci := 2) (v := .ref u4.1) (ty := (.object "SharedWire$Reader")) (C := RX2) (T := TX2) (N := 15) hx hb hts hinX2 tyX2 tyX2_ok nmX2 hown hK.1 hP hD hS 0 rfl rfl 3 (by decide) w32 (fun _ h9 => h9) rfl hin9 rfl (by decide +kernel) rfl rfl (Nat.le_of_ble_eq_true rfl) dX2_init_42 (fun H locs hP hD hS => ?_)
  have hP : va_P (dC, dI) vwCl [(h0, .inr (2, [.ref q1, .ref q2, .ref u3.1, .ref u4.1, .int 0, .int 0, .int 0, .int 0, .int 0, .int 0, .int 0, .int 0, .int 0, .int 0, .int 0])), (q1, .inl (y 3, 4, .inr (.inr (.inr (.inr (fun _ => none)))))), (q2, .inr (0, [.int 0, .int 0, .long 0, .int 0])), (u3.1, .inr (1, [.ref u3.2.1, .ref u3.2.2, .int 0, .int 0, .int 0, .int 0, .int (-1), .int 0])), (u3.2.1, .inl (y 0, 160, .inl (fun _ => 0))), (u3.2.2, .inl (y 0, 160, .inl (fun _ => 0))), (u4.1, .inr (3, [.ref u4.2, .int 0, .int 0, .int 0, .int (-1), .int 0, .int 0, .int 15, .int 19])), (u4.2, .inr (0, [.int 0, .int 0, .long 0, .int 0]))] H := hP
  have hD : va_D A [(h0, .inr (2, [.ref q1, .ref q2, .ref u3.1, .ref u4.1, .int 0, .int 0, .int 0, .int 0, .int 0, .int 0, .int 0, .int 0, .int 0, .int 0, .int 0])), (q1, .inl (y 3, 4, .inr (.inr (.inr (.inr (fun _ => none)))))), (q2, .inr (0, [.int 0, .int 0, .long 0, .int 0])), (u3.1, .inr (1, [.ref u3.2.1, .ref u3.2.2, .int 0, .int 0, .int 0, .int 0, .int (-1), .int 0])), (u3.2.1, .inl (y 0, 160, .inl (fun _ => 0))), (u3.2.2, .inl (y 0, 160, .inl (fun _ => 0))), (u4.1, .inr (3, [.ref u4.2, .int 0, .int 0, .int 0, .int (-1), .int 0, .int 0, .int 15, .int 19])), (u4.2, .inr (0, [.int 0, .int 0, .long 0, .int 0]))] := hD
  refine lv_aload_n hx hb dX2_init_45 rfl (lv_at hl 0 rfl) ?_
  refine lv_iconst (v := 1) hx hb dX2_init_46 (by decide) ?_
  refine va_put (D := (dC, dI)) (ci := 2) (v := .int 1) (ty := .boolean) (C := RX2) (T := TX2) (N := 15) hx hb hts hinX2 tyX2 tyX2_ok nmX2 hown hK.1 hP hD hS 0 rfl rfl 4 (by decide) w36 (fun _ h9 => h9) rfl (by decide +kernel) rfl rfl (Nat.le_of_ble_eq_true rfl) dX2_init_47 (fun H locs hP hD hS => ?_)
  have hP : va_P (dC, dI) vwCl [(h0, .inr (2, [.ref q1, .ref q2, .ref u3.1, .ref u4.1, .int 1, .int 0, .int 0, .int 0, .int 0, .int 0, .int 0, .int 0, .int 0, .int 0, .int 0])), (q1, .inl (y 3, 4, .inr (.inr (.inr (.inr (fun _ => none)))))), (q2, .inr (0, [.int 0, .int 0, .long 0, .int 0])), (u3.1, .inr (1, [.ref u3.2.1, .ref u3.2.2, .int 0, .int 0, .int 0, .int 0, .int (-1), .int 0])), (u3.2.1, .inl (y 0, 160, .inl (fun _ => 0))), (u3.2.2, .inl (y 0, 160, .inl (fun _ => 0))), (u4.1, .inr (3, [.ref u4.2, .int 0, .int 0, .int 0, .int (-1), .int 0, .int 0, .int 15, .int 19])), (u4.2, .inr (0, [.int 0, .int 0, .long 0, .int 0]))] H := hP
  have hD : va_D A [(h0, .inr (2, [.ref q1, .ref q2, .ref u3.1, .ref u4.1, .int 1, .int 0, .int 0, .int 0, .int 0, .int 0, .int 0, .int 0, .int 0, .int 0, .int 0])), (q1, .inl (y 3, 4, .inr (.inr (.inr (.inr (fun _ => none)))))), (q2, .inr (0, [.int 0, .int 0, .long 0, .int 0])), (u3.1, .inr (1, [.ref u3.2.1, .ref u3.2.2, .int 0, .int 0, .int 0, .int 0, .int (-1), .int 0])), (u3.2.1, .inl (y 0, 160, .inl (fun _ => 0))), (u3.2.2, .inl (y 0, 160, .inl (fun _ => 0))), (u4.1, .inr (3, [.ref u4.2, .int 0, .int 0, .int 0, .int (-1), .int 0, .int 0, .int 15, .int 19])), (u4.2, .inr (0, [.int 0, .int 0, .long 0, .int 0]))] := hD
  refine lv_aload_n hx hb dX2_init_50 rfl (lv_at hl 0 rfl) ?_
  refine lv_iconst (v := 1) hx hb dX2_init_51 (by decide) ?_
  refine va_put (D := (dC, dI)) (ci := 2) (v := .int 1) (ty := .int) (C := RX2) (T := TX2) (N := 15) hx hb hts hinX2 tyX2 tyX2_ok nmX2 hown hK.1 hP hD hS 0 rfl rfl 5 (by decide) w40 (fun _ h9 => h9) rfl (by decide +kernel) rfl rfl (Nat.le_of_ble_eq_true rfl) dX2_init_52 (fun H locs hP hD hS => ?_)
  have hP : va_P (dC, dI) vwCl [(h0, .inr (2, [.ref q1, .ref q2, .ref u3.1, .ref u4.1, .int 1, .int 1, .int 0, .int 0, .int 0, .int 0, .int 0, .int 0, .int 0, .int 0, .int 0])), (q1, .inl (y 3, 4, .inr (.inr (.inr (.inr (fun _ => none)))))), (q2, .inr (0, [.int 0, .int 0, .long 0, .int 0])), (u3.1, .inr (1, [.ref u3.2.1, .ref u3.2.2, .int 0, .int 0, .int 0, .int 0, .int (-1), .int 0])), (u3.2.1, .inl (y 0, 160, .inl (fun _ => 0))), (u3.2.2, .inl (y 0, 160, .inl (fun _ => 0))), (u4.1, .inr (3, [.ref u4.2, .int 0, .int 0, .int 0, .int (-1), .int 0, .int 0, .int 15, .int 19])), (u4.2, .inr (0, [.int 0, .int 0, .long 0, .int 0]))] H := hP
  have hD : va_D A [(h0, .inr (2, [.ref q1, .ref q2, .ref u3.1, .ref u4.1, .int 1, .int 1, .int 0, .int 0, .int 0, .int 0, .int 0, .int 0, .int 0, .int 0, .int 0])), (q1, .inl (y 3, 4, .inr (.inr (.inr (.inr (fun _ => none)))))), (q2, .inr (0, [.int 0, .int 0, .long 0, .int 0])), (u3.1, .inr (1, [.ref u3.2.1, .ref u3.2.2, .int 0, .int 0, .int 0, .int 0, .int (-1), .int 0])), (u3.2.1, .inl (y 0, 160, .inl (fun _ => 0))), (u3.2.2, .inl (y 0, 160, .inl (fun _ => 0))), (u4.1, .inr (3, [.ref u4.2, .int 0, .int 0, .int 0, .int (-1), .int 0, .int 0, .int 15, .int 19])), (u4.2, .inr (0, [.int 0, .int 0, .long 0, .int 0]))] := hD
  refine lv_aload_n hx hb dX2_init_55 rfl (lv_at hl 0 rfl) ?_
  refine lv_iconst (v := 0) hx hb dX2_init_56 (by decide) ?_
  refine va_put (D := (dC, dI)) (ci := 2) (v := .int 0) (ty := .int) (C := RX2) (T := TX2) (N := 15) hx hb hts hinX2 tyX2 tyX2_ok nmX2 hown hK.1 hP hD hS 0 rfl rfl 6 (by decide) w44 (fun _ h9 => h9) rfl (by decide +kernel) rfl rfl (Nat.le_of_ble_eq_true rfl) dX2_init_57 (fun H locs hP hD hS => ?_)
  have hP : va_P (dC, dI) vwCl [(h0, .inr (2, [.ref q1, .ref q2, .ref u3.1, .ref u4.1, .int 1, .int 1, .int 0, .int 0, .int 0, .int 0, .int 0, .int 0, .int 0, .int 0, .int 0])), (q1, .inl (y 3, 4, .inr (.inr (.inr (.inr (fun _ => none)))))), (q2, .inr (0, [.int 0, .int 0, .long 0, .int 0])), (u3.1, .inr (1, [.ref u3.2.1, .ref u3.2.2, .int 0, .int 0, .int 0, .int 0, .int (-1), .int 0])), (u3.2.1, .inl (y 0, 160, .inl (fun _ => 0))), (u3.2.2, .inl (y 0, 160, .inl (fun _ => 0))), (u4.1, .inr (3, [.ref u4.2, .int 0, .int 0, .int 0, .int (-1), .int 0, .int 0, .int 15, .int 19])), (u4.2, .inr (0, [.int 0, .int 0, .long 0, .int 0]))] H := hP
  have hD : va_D A [(h0, .inr (2, [.ref q1, .ref q2, .ref u3.1, .ref u4.1, .int 1, .int 1, .int 0, .int 0, .int 0, .int 0, .int 0, .int 0, .int 0, .int 0, .int 0])), (q1, .inl (y 3, 4, .inr (.inr (.inr (.inr (fun _ => none)))))), (q2, .inr (0, [.int 0, .int 0, .long 0, .int 0])), (u3.1, .inr (1, [.ref u3.2.1, .ref u3.2.2, .int 0, .int 0, .int 0, .int 0, .int (-1), .int 0])), (u3.2.1, .inl (y 0, 160, .inl (fun _ => 0))), (u3.2.2, .inl (y 0, 160, .inl (fun _ => 0))), (u4.1, .inr (3, [.ref u4.2, .int 0, .int 0, .int 0, .int (-1), .int 0, .int 0, .int 15, .int 19])), (u4.2, .inr (0, [.int 0, .int 0, .long 0, .int 0]))] := hD
  refine lv_aload_n hx hb dX2_init_60 rfl (lv_at hl 0 rfl) ?_
  refine lv_iconst (v := 0) hx hb dX2_init_61 (by decide) ?_
  refine va_put (D := (dC, dI)) (ci := 2) (v := .int 0) (ty := .int) (C := RX2) (T := TX2) (N := 15) hx hb hts hinX2 tyX2 tyX2_ok nmX2 hown hK.1 hP hD hS 0 rfl rfl 7 (by decide) w47 (fun _ h9 => h9) rfl (by decide +kernel) rfl rfl (Nat.le_of_ble_eq_true rfl) dX2_init_62 (fun H locs hP hD hS => ?_)
  have hP : va_P (dC, dI) vwCl [(h0, .inr (2, [.ref q1, .ref q2, .ref u3.1, .ref u4.1, .int 1, .int 1, .int 0, .int 0, .int 0, .int 0, .int 0, .int 0, .int 0, .int 0, .int 0])), (q1, .inl (y 3, 4, .inr (.inr (.inr (.inr (fun _ => none)))))), (q2, .inr (0, [.int 0, .int 0, .long 0, .int 0])), (u3.1, .inr (1, [.ref u3.2.1, .ref u3.2.2, .int 0, .int 0, .int 0, .int 0, .int (-1), .int 0])), (u3.2.1, .inl (y 0, 160, .inl (fun _ => 0))), (u3.2.2, .inl (y 0, 160, .inl (fun _ => 0))), (u4.1, .inr (3, [.ref u4.2, .int 0, .int 0, .int 0, .int (-1), .int 0, .int 0, .int 15, .int 19])), (u4.2, .inr (0, [.int 0, .int 0, .long 0, .int 0]))] H := hP
  have hD : va_D A [(h0, .inr (2, [.ref q1, .ref q2, .ref u3.1, .ref u4.1, .int 1, .int 1, .int 0, .int 0, .int 0, .int 0, .int 0, .int 0, .int 0, .int 0, .int 0])), (q1, .inl (y 3, 4, .inr (.inr (.inr (.inr (fun _ => none)))))), (q2, .inr (0, [.int 0, .int 0, .long 0, .int 0])), (u3.1, .inr (1, [.ref u3.2.1, .ref u3.2.2, .int 0, .int 0, .int 0, .int 0, .int (-1), .int 0])), (u3.2.1, .inl (y 0, 160, .inl (fun _ => 0))), (u3.2.2, .inl (y 0, 160, .inl (fun _ => 0))), (u4.1, .inr (3, [.ref u4.2, .int 0, .int 0, .int 0, .int (-1), .int 0, .int 0, .int 15, .int 19])), (u4.2, .inr (0, [.int 0, .int 0, .long 0, .int 0]))] := hD
  refine lv_aload_n hx hb dX2_init_65 rfl (lv_at hl 0 rfl) ?_
  refine lv_iconst (v := 0) hx hb dX2_init_66 (by decide) ?_
  refine va_put (D := (dC, dI)) (ci := 2) (v := .int 0) (ty := .int) (C := RX2) (T := TX2) (N := 15) hx hb hts hinX2 tyX2 tyX2_ok nmX2 hown hK.1 hP hD hS 0 rfl rfl 8 (by decide) w50 (fun _ h9 => h9) rfl (by decide +kernel) rfl rfl (Nat.le_of_ble_eq_true rfl) dX2_init_67 (fun H locs hP hD hS => ?_)
  have hP : va_P (dC, dI) vwCl [(h0, .inr (2, [.ref q1, .ref q2, .ref u3.1, .ref u4.1, .int 1, .int 1, .int 0, .int 0, .int 0, .int 0, .int 0, .int 0, .int 0, .int 0, .int 0])), (q1, .inl (y 3, 4, .inr (.inr (.inr (.inr (fun _ => none)))))), (q2, .inr (0, [.int 0, .int 0, .long 0, .int 0])), (u3.1, .inr (1, [.ref u3.2.1, .ref u3.2.2, .int 0, .int 0, .int 0, .int 0, .int (-1), .int 0])), (u3.2.1, .inl (y 0, 160, .inl (fun _ => 0))), (u3.2.2, .inl (y 0, 160, .inl (fun _ => 0))), (u4.1, .inr (3, [.ref u4.2, .int 0, .int 0, .int 0, .int (-1), .int 0, .int 0, .int 15, .int 19])), (u4.2, .inr (0, [.int 0, .int 0, .long 0, .int 0]))] H := hP
  have hD : va_D A [(h0, .inr (2, [.ref q1, .ref q2, .ref u3.1, .ref u4.1, .int 1, .int 1, .int 0, .int 0, .int 0, .int 0, .int 0, .int 0, .int 0, .int 0, .int 0])), (q1, .inl (y 3, 4, .inr (.inr (.inr (.inr (fun _ => none)))))), (q2, .inr (0, [.int 0, .int 0, .long 0, .int 0])), (u3.1, .inr (1, [.ref u3.2.1, .ref u3.2.2, .int 0, .int 0, .int 0, .int 0, .int (-1), .int 0])), (u3.2.1, .inl (y 0, 160, .inl (fun _ => 0))), (u3.2.2, .inl (y 0, 160, .inl (fun _ => 0))), (u4.1, .inr (3, [.ref u4.2, .int 0, .int 0, .int 0, .int (-1), .int 0, .int 0, .int 15, .int 19])), (u4.2, .inr (0, [.int 0, .int 0, .long 0, .int 0]))] := hD
  refine lv_aload_n hx hb dX2_init_70 rfl (lv_at hl 0 rfl) ?_
  refine lv_iconst (v := 0) hx hb dX2_init_71 (by decide) ?_
  refine va_put (D := (dC, dI)) (ci := 2) (v := .int 0) (ty := .int) (C := RX2) (T := TX2) (N := 15) hx hb hts hinX2 tyX2 tyX2_ok nmX2 hown hK.1 hP hD hS 0 rfl rfl 9 (by decide) w53 (fun _ h9 => h9) rfl (by decide +kernel) rfl rfl (Nat.le_of_ble_eq_true rfl) dX2_init_72 (fun H locs hP hD hS => ?_)
  have hP : va_P (dC, dI) vwCl [(h0, .inr (2, [.ref q1, .ref q2, .ref u3.1, .ref u4.1, .int 1, .int 1, .int 0, .int 0, .int 0, .int 0, .int 0, .int 0, .int 0, .int 0, .int 0])), (q1, .inl (y 3, 4, .inr (.inr (.inr (.inr (fun _ => none)))))), (q2, .inr (0, [.int 0, .int 0, .long 0, .int 0])), (u3.1, .inr (1, [.ref u3.2.1, .ref u3.2.2, .int 0, .int 0, .int 0, .int 0, .int (-1), .int 0])), (u3.2.1, .inl (y 0, 160, .inl (fun _ => 0))), (u3.2.2, .inl (y 0, 160, .inl (fun _ => 0))), (u4.1, .inr (3, [.ref u4.2, .int 0, .int 0, .int 0, .int (-1), .int 0, .int 0, .int 15, .int 19])), (u4.2, .inr (0, [.int 0, .int 0, .long 0, .int 0]))] H := hP
  have hD : va_D A [(h0, .inr (2, [.ref q1, .ref q2, .ref u3.1, .ref u4.1, .int 1, .int 1, .int 0, .int 0, .int 0, .int 0, .int 0, .int 0, .int 0, .int 0, .int 0])), (q1, .inl (y 3, 4, .inr (.inr (.inr (.inr (fun _ => none)))))), (q2, .inr (0, [.int 0, .int 0, .long 0, .int 0])), (u3.1, .inr (1, [.ref u3.2.1, .ref u3.2.2, .int 0, .int 0, .int 0, .int 0, .int (-1), .int 0])), (u3.2.1, .inl (y 0, 160, .inl (fun _ => 0))), (u3.2.2, .inl (y 0, 160, .inl (fun _ => 0))), (u4.1, .inr (3, [.ref u4.2, .int 0, .int 0, .int 0, .int (-1), .int 0, .int 0, .int 15, .int 19])), (u4.2, .inr (0, [.int 0, .int 0, .long 0, .int 0]))] := hD
  refine lv_aload_n hx hb dX2_init_75 rfl (lv_at hl 0 rfl) ?_
  refine lv_iconst (v := 0) hx hb dX2_init_76 (by decide) ?_
  refine va_put (D := (dC, dI)) (ci := 2) (v := .int 0) (ty := .int) (C := RX2) (T := TX2) (N := 15) hx hb hts hinX2 tyX2 tyX2_ok nmX2 hown hK.1 hP hD hS 0 rfl rfl 10 (by decide) w56 (fun _ h9 => h9) rfl (by decide +kernel) rfl rfl (Nat.le_of_ble_eq_true rfl) dX2_init_77 (fun H locs hP hD hS => ?_)
  have hP : va_P (dC, dI) vwCl [(h0, .inr (2, [.ref q1, .ref q2, .ref u3.1, .ref u4.1, .int 1, .int 1, .int 0, .int 0, .int 0, .int 0, .int 0, .int 0, .int 0, .int 0, .int 0])), (q1, .inl (y 3, 4, .inr (.inr (.inr (.inr (fun _ => none)))))), (q2, .inr (0, [.int 0, .int 0, .long 0, .int 0])), (u3.1, .inr (1, [.ref u3.2.1, .ref u3.2.2, .int 0, .int 0, .int 0, .int 0, .int (-1), .int 0])), (u3.2.1, .inl (y 0, 160, .inl (fun _ => 0))), (u3.2.2, .inl (y 0, 160, .inl (fun _ => 0))), (u4.1, .inr (3, [.ref u4.2, .int 0, .int 0, .int 0, .int (-1), .int 0, .int 0, .int 15, .int 19])), (u4.2, .inr (0, [.int 0, .int 0, .long 0, .int 0]))] H := hP
  have hD : va_D A [(h0, .inr (2, [.ref q1, .ref q2, .ref u3.1, .ref u4.1, .int 1, .int 1, .int 0, .int 0, .int 0, .int 0, .int 0, .int 0, .int 0, .int 0, .int 0])), (q1, .inl (y 3, 4, .inr (.inr (.inr (.inr (fun _ => none)))))), (q2, .inr (0, [.int 0, .int 0, .long 0, .int 0])), (u3.1, .inr (1, [.ref u3.2.1, .ref u3.2.2, .int 0, .int 0, .int 0, .int 0, .int (-1), .int 0])), (u3.2.1, .inl (y 0, 160, .inl (fun _ => 0))), (u3.2.2, .inl (y 0, 160, .inl (fun _ => 0))), (u4.1, .inr (3, [.ref u4.2, .int 0, .int 0, .int 0, .int (-1), .int 0, .int 0, .int 15, .int 19])), (u4.2, .inr (0, [.int 0, .int 0, .long 0, .int 0]))] := hD
  refine lv_aload_n hx hb dX2_init_80 rfl (lv_at hl 0 rfl) ?_
  refine lv_iconst (v := 0) hx hb dX2_init_81 (by decide) ?_
  refine va_put (D := (dC, dI)) (ci := 2) (v := .int 0) (ty := .int) (C := RX2) (T := TX2) (N := 15) hx hb hts hinX2 tyX2 tyX2_ok nmX2 hown hK.1 hP hD hS 0 rfl rfl 11 (by decide) w59 (fun _ h9 => h9) rfl (by decide +kernel) rfl rfl (Nat.le_of_ble_eq_true rfl) dX2_init_82 (fun H locs hP hD hS => ?_)
  have hP : va_P (dC, dI) vwCl [(h0, .inr (2, [.ref q1, .ref q2, .ref u3.1, .ref u4.1, .int 1, .int 1, .int 0, .int 0, .int 0, .int 0, .int 0, .int 0, .int 0, .int 0, .int 0])), (q1, .inl (y 3, 4, .inr (.inr (.inr (.inr (fun _ => none)))))), (q2, .inr (0, [.int 0, .int 0, .long 0, .int 0])), (u3.1, .inr (1, [.ref u3.2.1, .ref u3.2.2, .int 0, .int 0, .int 0, .int 0, .int (-1), .int 0])), (u3.2.1, .inl (y 0, 160, .inl (fun _ => 0))), (u3.2.2, .inl (y 0, 160, .inl (fun _ => 0))), (u4.1, .inr (3, [.ref u4.2, .int 0, .int 0, .int 0, .int (-1), .int 0, .int 0, .int 15, .int 19])), (u4.2, .inr (0, [.int 0, .int 0, .long 0, .int 0]))] H := hP
  have hD : va_D A [(h0, .inr (2, [.ref q1, .ref q2, .ref u3.1, .ref u4.1, .int 1, .int 1, .int 0, .int 0, .int 0, .int 0, .int 0, .int 0, .int 0, .int 0, .int 0])), (q1, .inl (y 3, 4, .inr (.inr (.inr (.inr (fun _ => none)))))), (q2, .inr (0, [.int 0, .int 0, .long 0, .int 0])), (u3.1, .inr (1, [.ref u3.2.1, .ref u3.2.2, .int 0, .int 0, .int 0, .int 0, .int (-1), .int 0])), (u3.2.1, .inl (y 0, 160, .inl (fun _ => 0))), (u3.2.2, .inl (y 0, 160, .inl (fun _ => 0))), (u4.1, .inr (3, [.ref u4.2, .int 0, .int 0, .int 0, .int (-1), .int 0, .int 0, .int 15, .int 19])), (u4.2, .inr (0, [.int 0, .int 0, .long 0, .int 0]))] := hD
  refine lv_aload_n hx hb dX2_init_85 rfl (lv_at hl 0 rfl) ?_
  refine lv_iconst (v := 0) hx hb dX2_init_86 (by decide) ?_
  refine va_put (D := (dC, dI)) (ci := 2) (v := .int 0) (ty := .int) (C := RX2) (T := TX2) (N := 15) hx hb hts hinX2 tyX2 tyX2_ok nmX2 hown hK.1 hP hD hS 0 rfl rfl 12 (by decide) w62 (fun _ h9 => h9) rfl (by decide +kernel) rfl rfl (Nat.le_of_ble_eq_true rfl) dX2_init_87 (fun H locs hP hD hS => ?_)
  have hP : va_P (dC, dI) vwCl [(h0, .inr (2, [.ref q1, .ref q2, .ref u3.1, .ref u4.1, .int 1, .int 1, .int 0, .int 0, .int 0, .int 0, .int 0, .int 0, .int 0, .int 0, .int 0])), (q1, .inl (y 3, 4, .inr (.inr (.inr (.inr (fun _ => none)))))), (q2, .inr (0, [.int 0, .int 0, .long 0, .int 0])), (u3.1, .inr (1, [.ref u3.2.1, .ref u3.2.2, .int 0, .int 0, .int 0, .int 0, .int (-1), .int 0])), (u3.2.1, .inl (y 0, 160, .inl (fun _ => 0))), (u3.2.2, .inl (y 0, 160, .inl (fun _ => 0))), (u4.1, .inr (3, [.ref u4.2, .int 0, .int 0, .int 0, .int (-1), .int 0, .int 0, .int 15, .int 19])), (u4.2, .inr (0, [.int 0, .int 0, .long 0, .int 0]))] H := hP
  have hD : va_D A [(h0, .inr (2, [.ref q1, .ref q2, .ref u3.1, .ref u4.1, .int 1, .int 1, .int 0, .int 0, .int 0, .int 0, .int 0, .int 0, .int 0, .int 0, .int 0])), (q1, .inl (y 3, 4, .inr (.inr (.inr (.inr (fun _ => none)))))), (q2, .inr (0, [.int 0, .int 0, .long 0, .int 0])), (u3.1, .inr (1, [.ref u3.2.1, .ref u3.2.2, .int 0, .int 0, .int 0, .int 0, .int (-1), .int 0])), (u3.2.1, .inl (y 0, 160, .inl (fun _ => 0))), (u3.2.2, .inl (y 0, 160, .inl (fun _ => 0))), (u4.1, .inr (3, [.ref u4.2, .int 0, .int 0, .int 0, .int (-1), .int 0, .int 0, .int 15, .int 19])), (u4.2, .inr (0, [.int 0, .int 0, .long 0, .int 0]))] := hD
  refine lv_aload_n hx hb dX2_init_90 rfl (lv_at hl 0 rfl) ?_
  refine lv_iconst (v := 0) hx hb dX2_init_91 (by decide) ?_
  refine va_put (D := (dC, dI)) (ci := 2) (v := .int 0) (ty := .int) (C := RX2) (T := TX2) (N := 15) hx hb hts hinX2 tyX2 tyX2_ok nmX2 hown hK.1 hP hD hS 0 rfl rfl 13 (by decide) w65 (fun _ h9 => h9) rfl (by decide +kernel) rfl rfl (Nat.le_of_ble_eq_true rfl) dX2_init_92 (fun H locs hP hD hS => ?_)
  have hP : va_P (dC, dI) vwCl [(h0, .inr (2, [.ref q1, .ref q2, .ref u3.1, .ref u4.1, .int 1, .int 1, .int 0, .int 0, .int 0, .int 0, .int 0, .int 0, .int 0, .int 0, .int 0])), (q1, .inl (y 3, 4, .inr (.inr (.inr (.inr (fun _ => none)))))), (q2, .inr (0, [.int 0, .int 0, .long 0, .int 0])), (u3.1, .inr (1, [.ref u3.2.1, .ref u3.2.2, .int 0, .int 0, .int 0, .int 0, .int (-1), .int 0])), (u3.2.1, .inl (y 0, 160, .inl (fun _ => 0))), (u3.2.2, .inl (y 0, 160, .inl (fun _ => 0))), (u4.1, .inr (3, [.ref u4.2, .int 0, .int 0, .int 0, .int (-1), .int 0, .int 0, .int 15, .int 19])), (u4.2, .inr (0, [.int 0, .int 0, .long 0, .int 0]))] H := hP
  have hD : va_D A [(h0, .inr (2, [.ref q1, .ref q2, .ref u3.1, .ref u4.1, .int 1, .int 1, .int 0, .int 0, .int 0, .int 0, .int 0, .int 0, .int 0, .int 0, .int 0])), (q1, .inl (y 3, 4, .inr (.inr (.inr (.inr (fun _ => none)))))), (q2, .inr (0, [.int 0, .int 0, .long 0, .int 0])), (u3.1, .inr (1, [.ref u3.2.1, .ref u3.2.2, .int 0, .int 0, .int 0, .int 0, .int (-1), .int 0])), (u3.2.1, .inl (y 0, 160, .inl (fun _ => 0))), (u3.2.2, .inl (y 0, 160, .inl (fun _ => 0))), (u4.1, .inr (3, [.ref u4.2, .int 0, .int 0, .int 0, .int (-1), .int 0, .int 0, .int 15, .int 19])), (u4.2, .inr (0, [.int 0, .int 0, .long 0, .int 0]))] := hD
  refine lv_aload_n hx hb dX2_init_95 rfl (lv_at hl 0 rfl) ?_
  refine lv_iconst (v := 0) hx hb dX2_init_96 (by decide) ?_
  refine va_put (D := (dC, dI)) (ci := 2) (v := .int 0) (ty := .int) (C := RX2) (T := TX2) (N := 15) hx hb hts hinX2 tyX2 tyX2_ok nmX2 hown hK.1 hP hD hS 0 rfl rfl 14 (by decide) w68 (fun _ h9 => h9) rfl (by decide +kernel) rfl rfl (Nat.le_of_ble_eq_true rfl) dX2_init_97 (fun H locs hP hD hS => ?_)
  have hP : va_P (dC, dI) vwCl [(h0, .inr (2, [.ref q1, .ref q2, .ref u3.1, .ref u4.1, .int 1, .int 1, .int 0, .int 0, .int 0, .int 0, .int 0, .int 0, .int 0, .int 0, .int 0])), (q1, .inl (y 3, 4, .inr (.inr (.inr (.inr (fun _ => none)))))), (q2, .inr (0, [.int 0, .int 0, .long 0, .int 0])), (u3.1, .inr (1, [.ref u3.2.1, .ref u3.2.2, .int 0, .int 0, .int 0, .int 0, .int (-1), .int 0])), (u3.2.1, .inl (y 0, 160, .inl (fun _ => 0))), (u3.2.2, .inl (y 0, 160, .inl (fun _ => 0))), (u4.1, .inr (3, [.ref u4.2, .int 0, .int 0, .int 0, .int (-1), .int 0, .int 0, .int 15, .int 19])), (u4.2, .inr (0, [.int 0, .int 0, .long 0, .int 0]))] H := hP
  have hD : va_D A [(h0, .inr (2, [.ref q1, .ref q2, .ref u3.1, .ref u4.1, .int 1, .int 1, .int 0, .int 0, .int 0, .int 0, .int 0, .int 0, .int 0, .int 0, .int 0])), (q1, .inl (y 3, 4, .inr (.inr (.inr (.inr (fun _ => none)))))), (q2, .inr (0, [.int 0, .int 0, .long 0, .int 0])), (u3.1, .inr (1, [.ref u3.2.1, .ref u3.2.2, .int 0, .int 0, .int 0, .int 0, .int (-1), .int 0])), (u3.2.1, .inl (y 0, 160, .inl (fun _ => 0))), (u3.2.2, .inl (y 0, 160, .inl (fun _ => 0))), (u4.1, .inr (3, [.ref u4.2, .int 0, .int 0, .int 0, .int (-1), .int 0, .int 0, .int 15, .int 19])), (u4.2, .inr (0, [.int 0, .int 0, .long 0, .int 0]))] := hD
  refine lv_iconst (v := 0) hx hb dX2_init_100 (by decide) ?_
  refine lv_istore_n (lv' := [(1, .int 0), (0, .ref h0)]) hx hb dX2_init_101 rfl hl (by decide) rfl (fun ls hl => ?_)
  refine lv_iload_n hx hb dX2_init_102 rfl (lv_at hl 0 rfl) ?_
  refine lv_iconst (v := 4) hx hb dX2_init_103 (by decide) ?_
  refine lv_icmp_ge (tgt := 126) hx hb dX2_init_104 (by decide) (fun c9 => absurd c9 (by decide)) (fun _ => ?_)
  refine lv_aload_n hx hb dX2_init_107 rfl (lv_at hl 1 rfl) ?_
  refine va_get (D := (dC, dI)) (ci := 2) (v := .ref q1) (C := RX2) (T := TX2) (N := 15) hx hb hts hinX2 hown hK.1 hP 0 rfl rfl 0 (by decide) w11 (fun _ h9 => h9) rfl dX2_init_108 ?_
  refine lv_iload_n hx hb dX2_init_111 rfl (lv_at hl 0 rfl) ?_
  refine va_new (ci := 0) (fs := [.int 0, .int 0, .long 0, .int 0]) (C := RX0) (T := TX0) (N := 4) hx hb hts hinX0 tyX0 tyX0_ok hown w9 (hts (.instantiable RX0 4) (List.mem_of_getElem? (i := 6) rfl)) (hts (.initialized RX0) (List.mem_of_getElem? (i := 7) rfl)) hK.1 hP hD hS hA rfl (dfltX0) (Nat.le_of_ble_eq_true rfl) (Nat.le_of_ble_eq_true rfl) dX2_init_112 (fun q5 H hP hD hS => ?_)
  have hP : va_P (dC, dI) vwCl [(h0, .inr (2, [.ref q1, .ref q2, .ref u3.1, .ref u4.1, .int 1, .int 1, .int 0, .int 0, .int 0, .int 0, .int 0, .int 0, .int 0, .int 0, .int 0])), (q1, .inl (y 3, 4, .inr (.inr (.inr (.inr (fun _ => none)))))), (q2, .inr (0, [.int 0, .int 0, .long 0, .int 0])), (u3.1, .inr (1, [.ref u3.2.1, .ref u3.2.2, .int 0, .int 0, .int 0, .int 0, .int (-1), .int 0])), (u3.2.1, .inl (y 0, 160, .inl (fun _ => 0))), (u3.2.2, .inl (y 0, 160, .inl (fun _ => 0))), (u4.1, .inr (3, [.ref u4.2, .int 0, .int 0, .int 0, .int (-1), .int 0, .int 0, .int 15, .int 19])), (u4.2, .inr (0, [.int 0, .int 0, .long 0, .int 0])), (q5, .inr (0, [.int 0, .int 0, .long 0, .int 0]))] H := hP
  have hD : va_D A [(h0, .inr (2, [.ref q1, .ref q2, .ref u3.1, .ref u4.1, .int 1, .int 1, .int 0, .int 0, .int 0, .int 0, .int 0, .int 0, .int 0, .int 0, .int 0])), (q1, .inl (y 3, 4, .inr (.inr (.inr (.inr (fun _ => none)))))), (q2, .inr (0, [.int 0, .int 0, .long 0, .int 0])), (u3.1, .inr (1, [.ref u3.2.1, .ref u3.2.2, .int 0, .int 0, .int 0, .int 0, .int (-1), .int 0])), (u3.2.1, .inl (y 0, 160, .inl (fun _ => 0))), (u3.2.2, .inl (y 0, 160, .inl (fun _ => 0))), (u4.1, .inr (3, [.ref u4.2, .int 0, .int 0, .int 0, .int (-1), .int 0, .int 0, .int 15, .int 19])), (u4.2, .inr (0, [.int 0, .int 0, .long 0, .int 0])), (q5, .inr (0, [.int 0, .int 0, .long 0, .int 0]))] := hD
  refine W.widen (k := 8) (n := 353) (Nat.le_of_ble_eq_true rfl) (Nat.le_of_ble_eq_true rfl) ?_
  refine lv_dup hx hb dX2_init_115 rfl ?_
  refine kIN (rest := [.ref q5, .int 0, .ref q1]) (pre := [(h0, .inr (2, [.ref q1, .ref q2, .ref u3.1, .ref u4.1, .int 1, .int 1, .int 0, .int 0, .int 0, .int 0, .int 0, .int 0, .int 0, .int 0, .int 0])), (q1, .inl (y 3, 4, .inr (.inr (.inr (.inr (fun _ => none)))))), (q2, .inr (0, [.int 0, .int 0, .long 0, .int 0])), (u3.1, .inr (1, [.ref u3.2.1, .ref u3.2.2, .int 0, .int 0, .int 0, .int 0, .int (-1), .int 0])), (u3.2.1, .inl (y 0, 160, .inl (fun _ => 0))), (u3.2.2, .inl (y 0, 160, .inl (fun _ => 0))), (u4.1, .inr (3, [.ref u4.2, .int 0, .int 0, .int 0, .int (-1), .int 0, .int 0, .int 15, .int 19])), (u4.2, .inr (0, [.int 0, .int 0, .long 0, .int 0]))]) (post := []) ⟨hx, hb, hml, hown, hts⟩ (c_X0_init l dC dI y q5 H.size) ⟨va_cnB 0 hts gX2_init_X0_init_n17 rfl rfl rfl hK.2.2.2.2.1 (hts (.initialized RX0) (List.mem_of_getElem? (i := 7) rfl)) (by decide +kernel) ⟨Nat.le_of_ble_eq_true rfl, Nat.le_of_ble_eq_true rfl⟩, rfl, (hts (.instanceMethod yX0_init) (List.mem_of_getElem? (i := 28) rfl))⟩ hK hO hP hD hS hA hl.1 (Nat.le_of_ble_eq_true rfl) dX2_init_116 ⟨Nat.le_of_ble_eq_true rfl, Nat.le_of_ble_eq_true rfl⟩ (fun u5 H locs hw hP2 hD2 hS2 => ?_)
  have hP := hP2
  have hD := hD2
  have hS := hS2
  have hP : va_P (dC, dI) vwCl [(h0, .inr (2, [.ref q1, .ref q2, .ref u3.1, .ref u4.1, .int 1, .int 1, .int 0, .int 0, .int 0, .int 0, .int 0, .int 0, .int 0, .int 0, .int 0])), (q1, .inl (y 3, 4, .inr (.inr (.inr (.inr (fun _ => none)))))), (q2, .inr (0, [.int 0, .int 0, .long 0, .int 0])), (u3.1, .inr (1, [.ref u3.2.1, .ref u3.2.2, .int 0, .int 0, .int 0, .int 0, .int (-1), .int 0])), (u3.2.1, .inl (y 0, 160, .inl (fun _ => 0))), (u3.2.2, .inl (y 0, 160, .inl (fun _ => 0))), (u4.1, .inr (3, [.ref u4.2, .int 0, .int 0, .int 0, .int (-1), .int 0, .int 0, .int 15, .int 19])), (u4.2, .inr (0, [.int 0, .int 0, .long 0, .int 0])), (q5, .inr (0, [.int 0, .int 0, .long 0, .int 0]))] H := hP
  have hD : va_D A [(h0, .inr (2, [.ref q1, .ref q2, .ref u3.1, .ref u4.1, .int 1, .int 1, .int 0, .int 0, .int 0, .int 0, .int 0, .int 0, .int 0, .int 0, .int 0])), (q1, .inl (y 3, 4, .inr (.inr (.inr (.inr (fun _ => none)))))), (q2, .inr (0, [.int 0, .int 0, .long 0, .int 0])), (u3.1, .inr (1, [.ref u3.2.1, .ref u3.2.2, .int 0, .int 0, .int 0, .int 0, .int (-1), .int 0])), (u3.2.1, .inl (y 0, 160, .inl (fun _ => 0))), (u3.2.2, .inl (y 0, 160, .inl (fun _ => 0))), (u4.1, .inr (3, [.ref u4.2, .int 0, .int 0, .int 0, .int (-1), .int 0, .int 0, .int 15, .int 19])), (u4.2, .inr (0, [.int 0, .int 0, .long 0, .int 0])), (q5, .inr (0, [.int 0, .int 0, .long 0, .int 0]))] := hD
  refine W.widen (k := 8) (n := 353) (Nat.le_of_ble_eq_true rfl) (Nat.le_of_ble_eq_true rfl) ?_
  refine va_astq hx hb hK.1 hP hD hS 1 3 8 0 rfl rfl rfl rfl (vin_lit 0 4 rfl rfl) dX2_init_119 (fun H locs hP hD hS => ?_)
  have hP : va_P (dC, dI) vwCl [(h0, .inr (2, [.ref q1, .ref q2, .ref u3.1, .ref u4.1, .int 1, .int 1, .int 0, .int 0, .int 0, .int 0, .int 0, .int 0, .int 0, .int 0, .int 0])), (q1, .inl (y 3, 4, .inr (.inr (.inr (.inr (va_up (fun _ => none) 0 (some q5))))))), (q2, .inr (0, [.int 0, .int 0, .long 0, .int 0])), (u3.1, .inr (1, [.ref u3.2.1, .ref u3.2.2, .int 0, .int 0, .int 0, .int 0, .int (-1), .int 0])), (u3.2.1, .inl (y 0, 160, .inl (fun _ => 0))), (u3.2.2, .inl (y 0, 160, .inl (fun _ => 0))), (u4.1, .inr (3, [.ref u4.2, .int 0, .int 0, .int 0, .int (-1), .int 0, .int 0, .int 15, .int 19])), (u4.2, .inr (0, [.int 0, .int 0, .long 0, .int 0])), (q5, .inr (0, [.int 0, .int 0, .long 0, .int 0]))] H := hP
  have hD : va_D A [(h0, .inr (2, [.ref q1, .ref q2, .ref u3.1, .ref u4.1, .int 1, .int 1, .int 0, .int 0, .int 0, .int 0, .int 0, .int 0, .int 0, .int 0, .int 0])), (q1, .inl (y 3, 4, .inr (.inr (.inr (.inr (va_up (fun _ => none) 0 (some q5))))))), (q2, .inr (0, [.int 0, .int 0, .long 0, .int 0])), (u3.1, .inr (1, [.ref u3.2.1, .ref u3.2.2, .int 0, .int 0, .int 0, .int 0, .int (-1), .int 0])), (u3.2.1, .inl (y 0, 160, .inl (fun _ => 0))), (u3.2.2, .inl (y 0, 160, .inl (fun _ => 0))), (u4.1, .inr (3, [.ref u4.2, .int 0, .int 0, .int 0, .int (-1), .int 0, .int 0, .int 15, .int 19])), (u4.2, .inr (0, [.int 0, .int 0, .long 0, .int 0])), (q5, .inr (0, [.int 0, .int 0, .long 0, .int 0]))] := hD
  refine lv_iinc (v := 1) (lv' := [(1, .int 1), (0, .ref h0)]) hx hb dX2_init_120 hl (k := 0) rfl (by decide) (by decide) rfl (fun ls hl => ?_)
  refine lv_goto (tgt := 102) hx hb dX2_init_123 (by decide) ?_
  refine lv_iload_n hx hb dX2_init_102 rfl (lv_at hl 0 rfl) ?_
  refine lv_iconst (v := 4) hx hb dX2_init_103 (by decide) ?_
  refine lv_icmp_ge (tgt := 126) hx hb dX2_init_104 (by decide) (fun c9 => absurd c9 (by decide)) (fun _ => ?_)
  refine lv_aload_n hx hb dX2_init_107 rfl (lv_at hl 1 rfl) ?_
  refine va_get (D := (dC, dI)) (ci := 2) (v := .ref q1) (C := RX2) (T := TX2) (N := 15) hx hb hts hinX2 hown hK.1 hP 0 rfl rfl 0 (by decide) w11 (fun _ h9 => h9) rfl dX2_init_108 ?_
  refine lv_iload_n hx hb dX2_init_111 rfl (lv_at hl 0 rfl) ?_
  refine va_new (ci := 0) (fs := [.int 0, .int 0, .long 0, .int 0]) (C := RX0) (T := TX0) (N := 4) hx hb hts hinX0 tyX0 tyX0_ok hown w9 (hts (.instantiable RX0 4) (List.mem_of_getElem? (i := 6) rfl)) (hts (.initialized RX0) (List.mem_of_getElem? (i := 7) rfl)) hK.1 hP hD hS hA rfl (dfltX0) (Nat.le_of_ble_eq_true rfl) (Nat.le_of_ble_eq_true rfl) dX2_init_112 (fun q6 H hP hD hS => ?_)
  have hP : va_P (dC, dI) vwCl [(h0, .inr (2, [.ref q1, .ref q2, .ref u3.1, .ref u4.1, .int 1, .int 1, .int 0, .int 0, .int 0, .int 0, .int 0, .int 0, .int 0, .int 0, .int 0])), (q1, .inl (y 3, 4, .inr (.inr (.inr (.inr (va_up (fun _ => none) 0 (some q5))))))), (q2, .inr (0, [.int 0, .int 0, .long 0, .int 0])), (u3.1, .inr (1, [.ref u3.2.1, .ref u3.2.2, .int 0, .int 0, .int 0, .int 0, .int (-1), .int 0])), (u3.2.1, .inl (y 0, 160, .inl (fun _ => 0))), (u3.2.2, .inl (y 0, 160, .inl (fun _ => 0))), (u4.1, .inr (3, [.ref u4.2, .int 0, .int 0, .int 0, .int (-1), .int 0, .int 0, .int 15, .int 19])), (u4.2, .inr (0, [.int 0, .int 0, .long 0, .int 0])), (q5, .inr (0, [.int 0, .int 0, .long 0, .int 0])), (q6, .inr (0, [.int 0, .int 0, .long 0, .int 0]))] H := hP
  have hD : va_D A [(h0, .inr (2, [.ref q1, .ref q2, .ref u3.1, .ref u4.1, .int 1, .int 1, .int 0, .int 0, .int 0, .int 0, .int 0, .int 0, .int 0, .int 0, .int 0])), (q1, .inl (y 3, 4, .inr (.inr (.inr (.inr (va_up (fun _ => none) 0 (some q5))))))), (q2, .inr (0, [.int 0, .int 0, .long 0, .int 0])), (u3.1, .inr (1, [.ref u3.2.1, .ref u3.2.2, .int 0, .int 0, .int 0, .int 0, .int (-1), .int 0])), (u3.2.1, .inl (y 0, 160, .inl (fun _ => 0))), (u3.2.2, .inl (y 0, 160, .inl (fun _ => 0))), (u4.1, .inr (3, [.ref u4.2, .int 0, .int 0, .int 0, .int (-1), .int 0, .int 0, .int 15, .int 19])), (u4.2, .inr (0, [.int 0, .int 0, .long 0, .int 0])), (q5, .inr (0, [.int 0, .int 0, .long 0, .int 0])), (q6, .inr (0, [.int 0, .int 0, .long 0, .int 0]))] := hD
  refine W.widen (k := 9) (n := 357) (Nat.le_of_ble_eq_true rfl) (Nat.le_of_ble_eq_true rfl) ?_
  refine lv_dup hx hb dX2_init_115 rfl ?_
  refine kIN (rest := [.ref q6, .int 1, .ref q1]) (pre := [(h0, .inr (2, [.ref q1, .ref q2, .ref u3.1, .ref u4.1, .int 1, .int 1, .int 0, .int 0, .int 0, .int 0, .int 0, .int 0, .int 0, .int 0, .int 0])), (q1, .inl (y 3, 4, .inr (.inr (.inr (.inr (va_up (fun _ => none) 0 (some q5))))))), (q2, .inr (0, [.int 0, .int 0, .long 0, .int 0])), (u3.1, .inr (1, [.ref u3.2.1, .ref u3.2.2, .int 0, .int 0, .int 0, .int 0, .int (-1), .int 0])), (u3.2.1, .inl (y 0, 160, .inl (fun _ => 0))), (u3.2.2, .inl (y 0, 160, .inl (fun _ => 0))), (u4.1, .inr (3, [.ref u4.2, .int 0, .int 0, .int 0, .int (-1), .int 0, .int 0, .int 15, .int 19])), (u4.2, .inr (0, [.int 0, .int 0, .long 0, .int 0])), (q5, .inr (0, [.int 0, .int 0, .long 0, .int 0]))]) (post := []) ⟨hx, hb, hml, hown, hts⟩ (c_X0_init l dC dI y q6 H.size) ⟨va_cnB 0 hts gX2_init_X0_init_n17 rfl rfl rfl hK.2.2.2.2.1 (hts (.initialized RX0) (List.mem_of_getElem? (i := 7) rfl)) (by decide +kernel) ⟨Nat.le_of_ble_eq_true rfl, Nat.le_of_ble_eq_true rfl⟩, rfl, (hts (.instanceMethod yX0_init) (List.mem_of_getElem? (i := 28) rfl))⟩ hK hO hP hD hS hA hl.1 (Nat.le_of_ble_eq_true rfl) dX2_init_116 ⟨Nat.le_of_ble_eq_true rfl, Nat.le_of_ble_eq_true rfl⟩ (fun u6 H locs hw hP2 hD2 hS2 => ?_)
  have hP := hP2
  have hD := hD2
  have hS := hS2
  have hP : va_P (dC, dI) vwCl [(h0, .inr (2, [.ref q1, .ref q2, .ref u3.1, .ref u4.1, .int 1, .int 1, .int 0, .int 0, .int 0, .int 0, .int 0, .int 0, .int 0, .int 0, .int 0])), (q1, .inl (y 3, 4, .inr (.inr (.inr (.inr (va_up (fun _ => none) 0 (some q5))))))), (q2, .inr (0, [.int 0, .int 0, .long 0, .int 0])), (u3.1, .inr (1, [.ref u3.2.1, .ref u3.2.2, .int 0, .int 0, .int 0, .int 0, .int (-1), .int 0])), (u3.2.1, .inl (y 0, 160, .inl (fun _ => 0))), (u3.2.2, .inl (y 0, 160, .inl (fun _ => 0))), (u4.1, .inr (3, [.ref u4.2, .int 0, .int 0, .int 0, .int (-1), .int 0, .int 0, .int 15, .int 19])), (u4.2, .inr (0, [.int 0, .int 0, .long 0, .int 0])), (q5, .inr (0, [.int 0, .int 0, .long 0, .int 0])), (q6, .inr (0, [.int 0, .int 0, .long 0, .int 0]))] H := hP
  have hD : va_D A [(h0, .inr (2, [.ref q1, .ref q2, .ref u3.1, .ref u4.1, .int 1, .int 1, .int 0, .int 0, .int 0, .int 0, .int 0, .int 0, .int 0, .int 0, .int 0])), (q1, .inl (y 3, 4, .inr (.inr (.inr (.inr (va_up (fun _ => none) 0 (some q5))))))), (q2, .inr (0, [.int 0, .int 0, .long 0, .int 0])), (u3.1, .inr (1, [.ref u3.2.1, .ref u3.2.2, .int 0, .int 0, .int 0, .int 0, .int (-1), .int 0])), (u3.2.1, .inl (y 0, 160, .inl (fun _ => 0))), (u3.2.2, .inl (y 0, 160, .inl (fun _ => 0))), (u4.1, .inr (3, [.ref u4.2, .int 0, .int 0, .int 0, .int (-1), .int 0, .int 0, .int 15, .int 19])), (u4.2, .inr (0, [.int 0, .int 0, .long 0, .int 0])), (q5, .inr (0, [.int 0, .int 0, .long 0, .int 0])), (q6, .inr (0, [.int 0, .int 0, .long 0, .int 0]))] := hD
  refine W.widen (k := 9) (n := 357) (Nat.le_of_ble_eq_true rfl) (Nat.le_of_ble_eq_true rfl) ?_
  refine va_astq hx hb hK.1 hP hD hS 1 3 9 0 rfl rfl rfl rfl (vin_lit 1 4 rfl rfl) dX2_init_119 (fun H locs hP hD hS => ?_)
  have hP : va_P (dC, dI) vwCl [(h0, .inr (2, [.ref q1, .ref q2, .ref u3.1, .ref u4.1, .int 1, .int 1, .int 0, .int 0, .int 0, .int 0, .int 0, .int 0, .int 0, .int 0, .int 0])), (q1, .inl (y 3, 4, .inr (.inr (.inr (.inr (va_up (va_up (fun _ => none) 0 (some q5)) 1 (some q6))))))), (q2, .inr (0, [.int 0, .int 0, .long 0, .int 0])), (u3.1, .inr (1, [.ref u3.2.1, .ref u3.2.2, .int 0, .int 0, .int 0, .int 0, .int (-1), .int 0])), (u3.2.1, .inl (y 0, 160, .inl (fun _ => 0))), (u3.2.2, .inl (y 0, 160, .inl (fun _ => 0))), (u4.1, .inr (3, [.ref u4.2, .int 0, .int 0, .int 0, .int (-1), .int 0, .int 0, .int 15, .int 19])), (u4.2, .inr (0, [.int 0, .int 0, .long 0, .int 0])), (q5, .inr (0, [.int 0, .int 0, .long 0, .int 0])), (q6, .inr (0, [.int 0, .int 0, .long 0, .int 0]))] H := hP
  have hD : va_D A [(h0, .inr (2, [.ref q1, .ref q2, .ref u3.1, .ref u4.1, .int 1, .int 1, .int 0, .int 0, .int 0, .int 0, .int 0, .int 0, .int 0, .int 0, .int 0])), (q1, .inl (y 3, 4, .inr (.inr (.inr (.inr (va_up (va_up (fun _ => none) 0 (some q5)) 1 (some q6))))))), (q2, .inr (0, [.int 0, .int 0, .long 0, .int 0])), (u3.1, .inr (1, [.ref u3.2.1, .ref u3.2.2, .int 0, .int 0, .int 0, .int 0, .int (-1), .int 0])), (u3.2.1, .inl (y 0, 160, .inl (fun _ => 0))), (u3.2.2, .inl (y 0, 160, .inl (fun _ => 0))), (u4.1, .inr (3, [.ref u4.2, .int 0, .int 0, .int 0, .int (-1), .int 0, .int 0, .int 15, .int 19])), (u4.2, .inr (0, [.int 0, .int 0, .long 0, .int 0])), (q5, .inr (0, [.int 0, .int 0, .long 0, .int 0])), (q6, .inr (0, [.int 0, .int 0, .long 0, .int 0]))] := hD
  refine lv_iinc (v := 2) (lv' := [(1, .int 2), (0, .ref h0)]) hx hb dX2_init_120 hl (k := 0) rfl (by decide) (by decide) rfl (fun ls hl => ?_)
  refine lv_goto (tgt := 102) hx hb dX2_init_123 (by decide) ?_
  refine lv_iload_n hx hb dX2_init_102 rfl (lv_at hl 0 rfl) ?_
  refine lv_iconst (v := 4) hx hb dX2_init_103 (by decide) ?_
  refine lv_icmp_ge (tgt := 126) hx hb dX2_init_104 (by decide) (fun c9 => absurd c9 (by decide)) (fun _ => ?_)
  refine lv_aload_n hx hb dX2_init_107 rfl (lv_at hl 1 rfl) ?_
  refine va_get (D := (dC, dI)) (ci := 2) (v := .ref q1) (C := RX2) (T := TX2) (N := 15) hx hb hts hinX2 hown hK.1 hP 0 rfl rfl 0 (by decide) w11 (fun _ h9 => h9) rfl dX2_init_108 ?_
  refine lv_iload_n hx hb dX2_init_111 rfl (lv_at hl 0 rfl) ?_
  refine va_new (ci := 0) (fs := [.int 0, .int 0, .long 0, .int 0]) (C := RX0) (T := TX0) (N := 4) hx hb hts hinX0 tyX0 tyX0_ok hown w9 (hts (.instantiable RX0 4) (List.mem_of_getElem? (i := 6) rfl)) (hts (.initialized RX0) (List.mem_of_getElem? (i := 7) rfl)) hK.1 hP hD hS hA rfl (dfltX0) (Nat.le_of_ble_eq_true rfl) (Nat.le_of_ble_eq_true rfl) dX2_init_112 (fun q7 H hP hD hS => ?_)
  have hP : va_P (dC, dI) vwCl [(h0, .inr (2, [.ref q1, .ref q2, .ref u3.1, .ref u4.1, .int 1, .int 1, .int 0, .int 0, .int 0, .int 0, .int 0, .int 0, .int 0, .int 0, .int 0])), (q1, .inl (y 3, 4, .inr (.inr (.inr (.inr (va_up (va_up (fun _ => none) 0 (some q5)) 1 (some q6))))))), (q2, .inr (0, [.int 0, .int 0, .long 0, .int 0])), (u3.1, .inr (1, [.ref u3.2.1, .ref u3.2.2, .int 0, .int 0, .int 0, .int 0, .int (-1), .int 0])), (u3.2.1, .inl (y 0, 160, .inl (fun _ => 0))), (u3.2.2, .inl (y 0, 160, .inl (fun _ => 0))), (u4.1, .inr (3, [.ref u4.2, .int 0, .int 0, .int 0, .int (-1), .int 0, .int 0, .int 15, .int 19])), (u4.2, .inr (0, [.int 0, .int 0, .long 0, .int 0])), (q5, .inr (0, [.int 0, .int 0, .long 0, .int 0])), (q6, .inr (0, [.int 0, .int 0, .long 0, .int 0])), (q7, .inr (0, [.int 0, .int 0, .long 0, .int 0]))] H := hP
  have hD : va_D A [(h0, .inr (2, [.ref q1, .ref q2, .ref u3.1, .ref u4.1, .int 1, .int 1, .int 0, .int 0, .int 0, .int 0, .int 0, .int 0, .int 0, .int 0, .int 0])), (q1, .inl (y 3, 4, .inr (.inr (.inr (.inr (va_up (va_up (fun _ => none) 0 (some q5)) 1 (some q6))))))), (q2, .inr (0, [.int 0, .int 0, .long 0, .int 0])), (u3.1, .inr (1, [.ref u3.2.1, .ref u3.2.2, .int 0, .int 0, .int 0, .int 0, .int (-1), .int 0])), (u3.2.1, .inl (y 0, 160, .inl (fun _ => 0))), (u3.2.2, .inl (y 0, 160, .inl (fun _ => 0))), (u4.1, .inr (3, [.ref u4.2, .int 0, .int 0, .int 0, .int (-1), .int 0, .int 0, .int 15, .int 19])), (u4.2, .inr (0, [.int 0, .int 0, .long 0, .int 0])), (q5, .inr (0, [.int 0, .int 0, .long 0, .int 0])), (q6, .inr (0, [.int 0, .int 0, .long 0, .int 0])), (q7, .inr (0, [.int 0, .int 0, .long 0, .int 0]))] := hD
  refine W.widen (k := 10) (n := 361) (Nat.le_of_ble_eq_true rfl) (Nat.le_of_ble_eq_true rfl) ?_
  refine lv_dup hx hb dX2_init_115 rfl ?_
  refine kIN (rest := [.ref q7, .int 2, .ref q1]) (pre := [(h0, .inr (2, [.ref q1, .ref q2, .ref u3.1, .ref u4.1, .int 1, .int 1, .int 0, .int 0, .int 0, .int 0, .int 0, .int 0, .int 0, .int 0, .int 0])), (q1, .inl (y 3, 4, .inr (.inr (.inr (.inr (va_up (va_up (fun _ => none) 0 (some q5)) 1 (some q6))))))), (q2, .inr (0, [.int 0, .int 0, .long 0, .int 0])), (u3.1, .inr (1, [.ref u3.2.1, .ref u3.2.2, .int 0, .int 0, .int 0, .int 0, .int (-1), .int 0])), (u3.2.1, .inl (y 0, 160, .inl (fun _ => 0))), (u3.2.2, .inl (y 0, 160, .inl (fun _ => 0))), (u4.1, .inr (3, [.ref u4.2, .int 0, .int 0, .int 0, .int (-1), .int 0, .int 0, .int 15, .int 19])), (u4.2, .inr (0, [.int 0, .int 0, .long 0, .int 0])), (q5, .inr (0, [.int 0, .int 0, .long 0, .int 0])), (q6, .inr (0, [.int 0, .int 0, .long 0, .int 0]))]) (post := []) ⟨hx, hb, hml, hown, hts⟩ (c_X0_init l dC dI y q7 H.size) ⟨va_cnB 0 hts gX2_init_X0_init_n17 rfl rfl rfl hK.2.2.2.2.1 (hts (.initialized RX0) (List.mem_of_getElem? (i := 7) rfl)) (by decide +kernel) ⟨Nat.le_of_ble_eq_true rfl, Nat.le_of_ble_eq_true rfl⟩, rfl, (hts (.instanceMethod yX0_init) (List.mem_of_getElem? (i := 28) rfl))⟩ hK hO hP hD hS hA hl.1 (Nat.le_of_ble_eq_true rfl) dX2_init_116 ⟨Nat.le_of_ble_eq_true rfl, Nat.le_of_ble_eq_true rfl⟩ (fun u7 H locs hw hP2 hD2 hS2 => ?_)
  have hP := hP2
  have hD := hD2
  have hS := hS2
  have hP : va_P (dC, dI) vwCl [(h0, .inr (2, [.ref q1, .ref q2, .ref u3.1, .ref u4.1, .int 1, .int 1, .int 0, .int 0, .int 0, .int 0, .int 0, .int 0, .int 0, .int 0, .int 0])), (q1, .inl (y 3, 4, .inr (.inr (.inr (.inr (va_up (va_up (fun _ => none) 0 (some q5)) 1 (some q6))))))), (q2, .inr (0, [.int 0, .int 0, .long 0, .int 0])), (u3.1, .inr (1, [.ref u3.2.1, .ref u3.2.2, .int 0, .int 0, .int 0, .int 0, .int (-1), .int 0])), (u3.2.1, .inl (y 0, 160, .inl (fun _ => 0))), (u3.2.2, .inl (y 0, 160, .inl (fun _ => 0))), (u4.1, .inr (3, [.ref u4.2, .int 0, .int 0, .int 0, .int (-1), .int 0, .int 0, .int 15, .int 19])), (u4.2, .inr (0, [.int 0, .int 0, .long 0, .int 0])), (q5, .inr (0, [.int 0, .int 0, .long 0, .int 0])), (q6, .inr (0, [.int 0, .int 0, .long 0, .int 0])), (q7, .inr (0, [.int 0, .int 0, .long 0, .int 0]))] H := hP
  have hD : va_D A [(h0, .inr (2, [.ref q1, .ref q2, .ref u3.1, .ref u4.1, .int 1, .int 1, .int 0, .int 0, .int 0, .int 0, .int 0, .int 0, .int 0, .int 0, .int 0])), (q1, .inl (y 3, 4, .inr (.inr (.inr (.inr (va_up (va_up (fun _ => none) 0 (some q5)) 1 (some q6))))))), (q2, .inr (0, [.int 0, .int 0, .long 0, .int 0])), (u3.1, .inr (1, [.ref u3.2.1, .ref u3.2.2, .int 0, .int 0, .int 0, .int 0, .int (-1), .int 0])), (u3.2.1, .inl (y 0, 160, .inl (fun _ => 0))), (u3.2.2, .inl (y 0, 160, .inl (fun _ => 0))), (u4.1, .inr (3, [.ref u4.2, .int 0, .int 0, .int 0, .int (-1), .int 0, .int 0, .int 15, .int 19])), (u4.2, .inr (0, [.int 0, .int 0, .long 0, .int 0])), (q5, .inr (0, [.int 0, .int 0, .long 0, .int 0])), (q6, .inr (0, [.int 0, .int 0, .long 0, .int 0])), (q7, .inr (0, [.int 0, .int 0, .long 0, .int 0]))] := hD
  refine W.widen (k := 10) (n := 361) (Nat.le_of_ble_eq_true rfl) (Nat.le_of_ble_eq_true rfl) ?_
  refine va_astq hx hb hK.1 hP hD hS 1 3 10 0 rfl rfl rfl rfl (vin_lit 2 4 rfl rfl) dX2_init_119 (fun H locs hP hD hS => ?_)
  have hP : va_P (dC, dI) vwCl [(h0, .inr (2, [.ref q1, .ref q2, .ref u3.1, .ref u4.1, .int 1, .int 1, .int 0, .int 0, .int 0, .int 0, .int 0, .int 0, .int 0, .int 0, .int 0])), (q1, .inl (y 3, 4, .inr (.inr (.inr (.inr (va_up (va_up (va_up (fun _ => none) 0 (some q5)) 1 (some q6)) 2 (some q7))))))), (q2, .inr (0, [.int 0, .int 0, .long 0, .int 0])), (u3.1, .inr (1, [.ref u3.2.1, .ref u3.2.2, .int 0, .int 0, .int 0, .int 0, .int (-1), .int 0])), (u3.2.1, .inl (y 0, 160, .inl (fun _ => 0))), (u3.2.2, .inl (y 0, 160, .inl (fun _ => 0))), (u4.1, .inr (3, [.ref u4.2, .int 0, .int 0, .int 0, .int (-1), .int 0, .int 0, .int 15, .int 19])), (u4.2, .inr (0, [.int 0, .int 0, .long 0, .int 0])), (q5, .inr (0, [.int 0, .int 0, .long 0, .int 0])), (q6, .inr (0, [.int 0, .int 0, .long 0, .int 0])), (q7, .inr (0, [.int 0, .int 0, .long 0, .int 0]))] H := hP
  have hD : va_D A [(h0, .inr (2, [.ref q1, .ref q2, .ref u3.1, .ref u4.1, .int 1, .int 1, .int 0, .int 0, .int 0, .int 0, .int 0, .int 0, .int 0, .int 0, .int 0])), (q1, .inl (y 3, 4, .inr (.inr (.inr (.inr (va_up (va_up (va_up (fun _ => none) 0 (some q5)) 1 (some q6)) 2 (some q7))))))), (q2, .inr (0, [.int 0, .int 0, .long 0, .int 0])), (u3.1, .inr (1, [.ref u3.2.1, .ref u3.2.2, .int 0, .int 0, .int 0, .int 0, .int (-1), .int 0])), (u3.2.1, .inl (y 0, 160, .inl (fun _ => 0))), (u3.2.2, .inl (y 0, 160, .inl (fun _ => 0))), (u4.1, .inr (3, [.ref u4.2, .int 0, .int 0, .int 0, .int (-1), .int 0, .int 0, .int 15, .int 19])), (u4.2, .inr (0, [.int 0, .int 0, .long 0, .int 0])), (q5, .inr (0, [.int 0, .int 0, .long 0, .int 0])), (q6, .inr (0, [.int 0, .int 0, .long 0, .int 0])), (q7, .inr (0, [.int 0, .int 0, .long 0, .int 0]))] := hD
  refine lv_iinc (v := 3) (lv' := [(1, .int 3), (0, .ref h0)]) hx hb dX2_init_120 hl (k := 0) rfl (by decide) (by decide) rfl (fun ls hl => ?_)
  refine lv_goto (tgt := 102) hx hb dX2_init_123 (by decide) ?_
  refine lv_iload_n hx hb dX2_init_102 rfl (lv_at hl 0 rfl) ?_
  refine lv_iconst (v := 4) hx hb dX2_init_103 (by decide) ?_
  refine lv_icmp_ge (tgt := 126) hx hb dX2_init_104 (by decide) (fun c9 => absurd c9 (by decide)) (fun _ => ?_)
  refine lv_aload_n hx hb dX2_init_107 rfl (lv_at hl 1 rfl) ?_
  refine va_get (D := (dC, dI)) (ci := 2) (v := .ref q1) (C := RX2) (T := TX2) (N := 15) hx hb hts hinX2 hown hK.1 hP 0 rfl rfl 0 (by decide) w11 (fun _ h9 => h9) rfl dX2_init_108 ?_
  refine lv_iload_n hx hb dX2_init_111 rfl (lv_at hl 0 rfl) ?_
  refine va_new (ci := 0) (fs := [.int 0, .int 0, .long 0, .int 0]) (C := RX0) (T := TX0) (N := 4) hx hb hts hinX0 tyX0 tyX0_ok hown w9 (hts (.instantiable RX0 4) (List.mem_of_getElem? (i := 6) rfl)) (hts (.initialized RX0) (List.mem_of_getElem? (i := 7) rfl)) hK.1 hP hD hS hA rfl (dfltX0) (Nat.le_of_ble_eq_true rfl) (Nat.le_of_ble_eq_true rfl) dX2_init_112 (fun q8 H hP hD hS => ?_)
  have hP : va_P (dC, dI) vwCl [(h0, .inr (2, [.ref q1, .ref q2, .ref u3.1, .ref u4.1, .int 1, .int 1, .int 0, .int 0, .int 0, .int 0, .int 0, .int 0, .int 0, .int 0, .int 0])), (q1, .inl (y 3, 4, .inr (.inr (.inr (.inr (va_up (va_up (va_up (fun _ => none) 0 (some q5)) 1 (some q6)) 2 (some q7))))))), (q2, .inr (0, [.int 0, .int 0, .long 0, .int 0])), (u3.1, .inr (1, [.ref u3.2.1, .ref u3.2.2, .int 0, .int 0, .int 0, .int 0, .int (-1), .int 0])), (u3.2.1, .inl (y 0, 160, .inl (fun _ => 0))), (u3.2.2, .inl (y 0, 160, .inl (fun _ => 0))), (u4.1, .inr (3, [.ref u4.2, .int 0, .int 0, .int 0, .int (-1), .int 0, .int 0, .int 15, .int 19])), (u4.2, .inr (0, [.int 0, .int 0, .long 0, .int 0])), (q5, .inr (0, [.int 0, .int 0, .long 0, .int 0])), (q6, .inr (0, [.int 0, .int 0, .long 0, .int 0])), (q7, .inr (0, [.int 0, .int 0, .long 0, .int 0])), (q8, .inr (0, [.int 0, .int 0, .long 0, .int 0]))] H := hP
  have hD : va_D A [(h0, .inr (2, [.ref q1, .ref q2, .ref u3.1, .ref u4.1, .int 1, .int 1, .int 0, .int 0, .int 0, .int 0, .int 0, .int 0, .int 0, .int 0, .int 0])), (q1, .inl (y 3, 4, .inr (.inr (.inr (.inr (va_up (va_up (va_up (fun _ => none) 0 (some q5)) 1 (some q6)) 2 (some q7))))))), (q2, .inr (0, [.int 0, .int 0, .long 0, .int 0])), (u3.1, .inr (1, [.ref u3.2.1, .ref u3.2.2, .int 0, .int 0, .int 0, .int 0, .int (-1), .int 0])), (u3.2.1, .inl (y 0, 160, .inl (fun _ => 0))), (u3.2.2, .inl (y 0, 160, .inl (fun _ => 0))), (u4.1, .inr (3, [.ref u4.2, .int 0, .int 0, .int 0, .int (-1), .int 0, .int 0, .int 15, .int 19])), (u4.2, .inr (0, [.int 0, .int 0, .long 0, .int 0])), (q5, .inr (0, [.int 0, .int 0, .long 0, .int 0])), (q6, .inr (0, [.int 0, .int 0, .long 0, .int 0])), (q7, .inr (0, [.int 0, .int 0, .long 0, .int 0])), (q8, .inr (0, [.int 0, .int 0, .long 0, .int 0]))] := hD
  refine W.widen (k := 11) (n := 365) (Nat.le_of_ble_eq_true rfl) (Nat.le_of_ble_eq_true rfl) ?_
  refine lv_dup hx hb dX2_init_115 rfl ?_
  refine kIN (rest := [.ref q8, .int 3, .ref q1]) (pre := [(h0, .inr (2, [.ref q1, .ref q2, .ref u3.1, .ref u4.1, .int 1, .int 1, .int 0, .int 0, .int 0, .int 0, .int 0, .int 0, .int 0, .int 0, .int 0])), (q1, .inl (y 3, 4, .inr (.inr (.inr (.inr (va_up (va_up (va_up (fun _ => none) 0 (some q5)) 1 (some q6)) 2 (some q7))))))), (q2, .inr (0, [.int 0, .int 0, .long 0, .int 0])), (u3.1, .inr (1, [.ref u3.2.1, .ref u3.2.2, .int 0, .int 0, .int 0, .int 0, .int (-1), .int 0])), (u3.2.1, .inl (y 0, 160, .inl (fun _ => 0))), (u3.2.2, .inl (y 0, 160, .inl (fun _ => 0))), (u4.1, .inr (3, [.ref u4.2, .int 0, .int 0, .int 0, .int (-1), .int 0, .int 0, .int 15, .int 19])), (u4.2, .inr (0, [.int 0, .int 0, .long 0, .int 0])), (q5, .inr (0, [.int 0, .int 0, .long 0, .int 0])), (q6, .inr (0, [.int 0, .int 0, .long 0, .int 0])), (q7, .inr (0, [.int 0, .int 0, .long 0, .int 0]))]) (post := []) ⟨hx, hb, hml, hown, hts⟩ (c_X0_init l dC dI y q8 H.size) ⟨va_cnB 0 hts gX2_init_X0_init_n17 rfl rfl rfl hK.2.2.2.2.1 (hts (.initialized RX0) (List.mem_of_getElem? (i := 7) rfl)) (by decide +kernel) ⟨Nat.le_of_ble_eq_true rfl, Nat.le_of_ble_eq_true rfl⟩, rfl, (hts (.instanceMethod yX0_init) (List.mem_of_getElem? (i := 28) rfl))⟩ hK hO hP hD hS hA hl.1 (Nat.le_of_ble_eq_true rfl) dX2_init_116 ⟨Nat.le_of_ble_eq_true rfl, Nat.le_of_ble_eq_true rfl⟩ (fun u8 H locs hw hP2 hD2 hS2 => ?_)
  have hP := hP2
  have hD := hD2
  have hS := hS2
  have hP : va_P (dC, dI) vwCl [(h0, .inr (2, [.ref q1, .ref q2, .ref u3.1, .ref u4.1, .int 1, .int 1, .int 0, .int 0, .int 0, .int 0, .int 0, .int 0, .int 0, .int 0, .int 0])), (q1, .inl (y 3, 4, .inr (.inr (.inr (.inr (va_up (va_up (va_up (fun _ => none) 0 (some q5)) 1 (some q6)) 2 (some q7))))))), (q2, .inr (0, [.int 0, .int 0, .long 0, .int 0])), (u3.1, .inr (1, [.ref u3.2.1, .ref u3.2.2, .int 0, .int 0, .int 0, .int 0, .int (-1), .int 0])), (u3.2.1, .inl (y 0, 160, .inl (fun _ => 0))), (u3.2.2, .inl (y 0, 160, .inl (fun _ => 0))), (u4.1, .inr (3, [.ref u4.2, .int 0, .int 0, .int 0, .int (-1), .int 0, .int 0, .int 15, .int 19])), (u4.2, .inr (0, [.int 0, .int 0, .long 0, .int 0])), (q5, .inr (0, [.int 0, .int 0, .long 0, .int 0])), (q6, .inr (0, [.int 0, .int 0, .long 0, .int 0])), (q7, .inr (0, [.int 0, .int 0, .long 0, .int 0])), (q8, .inr (0, [.int 0, .int 0, .long 0, .int 0]))] H := hP
  have hD : va_D A [(h0, .inr (2, [.ref q1, .ref q2, .ref u3.1, .ref u4.1, .int 1, .int 1, .int 0, .int 0, .int 0, .int 0, .int 0, .int 0, .int 0, .int 0, .int 0])), (q1, .inl (y 3, 4, .inr (.inr (.inr (.inr (va_up (va_up (va_up (fun _ => none) 0 (some q5)) 1 (some q6)) 2 (some q7))))))), (q2, .inr (0, [.int 0, .int 0, .long 0, .int 0])), (u3.1, .inr (1, [.ref u3.2.1, .ref u3.2.2, .int 0, .int 0, .int 0, .int 0, .int (-1), .int 0])), (u3.2.1, .inl (y 0, 160, .inl (fun _ => 0))), (u3.2.2, .inl (y 0, 160, .inl (fun _ => 0))), (u4.1, .inr (3, [.ref u4.2, .int 0, .int 0, .int 0, .int (-1), .int 0, .int 0, .int 15, .int 19])), (u4.2, .inr (0, [.int 0, .int 0, .long 0, .int 0])), (q5, .inr (0, [.int 0, .int 0, .long 0, .int 0])), (q6, .inr (0, [.int 0, .int 0, .long 0, .int 0])), (q7, .inr (0, [.int 0, .int 0, .long 0, .int 0])), (q8, .inr (0, [.int 0, .int 0, .long 0, .int 0]))] := hD
  refine W.widen (k := 11) (n := 365) (Nat.le_of_ble_eq_true rfl) (Nat.le_of_ble_eq_true rfl) ?_
  refine va_astq hx hb hK.1 hP hD hS 1 3 11 0 rfl rfl rfl rfl (vin_lit 3 4 rfl rfl) dX2_init_119 (fun H locs hP hD hS => ?_)
  have hP : va_P (dC, dI) vwCl [(h0, .inr (2, [.ref q1, .ref q2, .ref u3.1, .ref u4.1, .int 1, .int 1, .int 0, .int 0, .int 0, .int 0, .int 0, .int 0, .int 0, .int 0, .int 0])), (q1, .inl (y 3, 4, .inr (.inr (.inr (.inr (va_up (va_up (va_up (va_up (fun _ => none) 0 (some q5)) 1 (some q6)) 2 (some q7)) 3 (some q8))))))), (q2, .inr (0, [.int 0, .int 0, .long 0, .int 0])), (u3.1, .inr (1, [.ref u3.2.1, .ref u3.2.2, .int 0, .int 0, .int 0, .int 0, .int (-1), .int 0])), (u3.2.1, .inl (y 0, 160, .inl (fun _ => 0))), (u3.2.2, .inl (y 0, 160, .inl (fun _ => 0))), (u4.1, .inr (3, [.ref u4.2, .int 0, .int 0, .int 0, .int (-1), .int 0, .int 0, .int 15, .int 19])), (u4.2, .inr (0, [.int 0, .int 0, .long 0, .int 0])), (q5, .inr (0, [.int 0, .int 0, .long 0, .int 0])), (q6, .inr (0, [.int 0, .int 0, .long 0, .int 0])), (q7, .inr (0, [.int 0, .int 0, .long 0, .int 0])), (q8, .inr (0, [.int 0, .int 0, .long 0, .int 0]))] H := hP
  have hD : va_D A [(h0, .inr (2, [.ref q1, .ref q2, .ref u3.1, .ref u4.1, .int 1, .int 1, .int 0, .int 0, .int 0, .int 0, .int 0, .int 0, .int 0, .int 0, .int 0])), (q1, .inl (y 3, 4, .inr (.inr (.inr (.inr (va_up (va_up (va_up (va_up (fun _ => none) 0 (some q5)) 1 (some q6)) 2 (some q7)) 3 (some q8))))))), (q2, .inr (0, [.int 0, .int 0, .long 0, .int 0])), (u3.1, .inr (1, [.ref u3.2.1, .ref u3.2.2, .int 0, .int 0, .int 0, .int 0, .int (-1), .int 0])), (u3.2.1, .inl (y 0, 160, .inl (fun _ => 0))), (u3.2.2, .inl (y 0, 160, .inl (fun _ => 0))), (u4.1, .inr (3, [.ref u4.2, .int 0, .int 0, .int 0, .int (-1), .int 0, .int 0, .int 15, .int 19])), (u4.2, .inr (0, [.int 0, .int 0, .long 0, .int 0])), (q5, .inr (0, [.int 0, .int 0, .long 0, .int 0])), (q6, .inr (0, [.int 0, .int 0, .long 0, .int 0])), (q7, .inr (0, [.int 0, .int 0, .long 0, .int 0])), (q8, .inr (0, [.int 0, .int 0, .long 0, .int 0]))] := hD
  refine lv_iinc (v := 4) (lv' := [(1, .int 4), (0, .ref h0)]) hx hb dX2_init_120 hl (k := 0) rfl (by decide) (by decide) rfl (fun ls hl => ?_)
  refine lv_goto (tgt := 102) hx hb dX2_init_123 (by decide) ?_
  refine lv_iload_n hx hb dX2_init_102 rfl (lv_at hl 0 rfl) ?_
  refine lv_iconst (v := 4) hx hb dX2_init_103 (by decide) ?_
  refine lv_icmp_ge (tgt := 126) hx hb dX2_init_104 (by decide) (fun _ => ?_) (fun c9 => absurd (by decide) c9)
  have hP := va_P.rowq (w1 := [(h0, .inr (2, [.ref q1, .ref q2, .ref u3.1, .ref u4.1, .int 1, .int 1, .int 0, .int 0, .int 0, .int 0, .int 0, .int 0, .int 0, .int 0, .int 0]))]) (w2 := [(q2, .inr (0, [.int 0, .int 0, .long 0, .int 0])), (u3.1, .inr (1, [.ref u3.2.1, .ref u3.2.2, .int 0, .int 0, .int 0, .int 0, .int (-1), .int 0])), (u3.2.1, .inl (y 0, 160, .inl (fun _ => 0))), (u3.2.2, .inl (y 0, 160, .inl (fun _ => 0))), (u4.1, .inr (3, [.ref u4.2, .int 0, .int 0, .int 0, .int (-1), .int 0, .int 0, .int 15, .int 19])), (u4.2, .inr (0, [.int 0, .int 0, .long 0, .int 0])), (q5, .inr (0, [.int 0, .int 0, .long 0, .int 0])), (q6, .inr (0, [.int 0, .int 0, .long 0, .int 0])), (q7, .inr (0, [.int 0, .int 0, .long 0, .int 0])), (q8, .inr (0, [.int 0, .int 0, .long 0, .int 0]))]) (g := fun j => some ((va_up (va_up (va_up (va_up (fun _ => 0) 0 q5) 1 q6) 2 q7) 3 q8) j)) hP (fun j hj => by rcases (show j = 0 ∨ j = 1 ∨ j = 2 ∨ j = 3 by omega) with rfl | rfl | rfl | rfl <;> rfl)
  have hD := va_D.rowq (w1 := [(h0, .inr (2, [.ref q1, .ref q2, .ref u3.1, .ref u4.1, .int 1, .int 1, .int 0, .int 0, .int 0, .int 0, .int 0, .int 0, .int 0, .int 0, .int 0]))]) (w2 := [(q2, .inr (0, [.int 0, .int 0, .long 0, .int 0])), (u3.1, .inr (1, [.ref u3.2.1, .ref u3.2.2, .int 0, .int 0, .int 0, .int 0, .int (-1), .int 0])), (u3.2.1, .inl (y 0, 160, .inl (fun _ => 0))), (u3.2.2, .inl (y 0, 160, .inl (fun _ => 0))), (u4.1, .inr (3, [.ref u4.2, .int 0, .int 0, .int 0, .int (-1), .int 0, .int 0, .int 15, .int 19])), (u4.2, .inr (0, [.int 0, .int 0, .long 0, .int 0])), (q5, .inr (0, [.int 0, .int 0, .long 0, .int 0])), (q6, .inr (0, [.int 0, .int 0, .long 0, .int 0])), (q7, .inr (0, [.int 0, .int 0, .long 0, .int 0])), (q8, .inr (0, [.int 0, .int 0, .long 0, .int 0]))]) (e1 := .inl (y 3, 4, .inr (.inr (.inr (.inr (fun j => some ((va_up (va_up (va_up (va_up (fun _ => 0) 0 q5) 1 q6) 2 q7) 3 q8) j))))))) hD
  have hP : va_P (dC, dI) vwCl [(h0, .inr (2, [.ref q1, .ref q2, .ref u3.1, .ref u4.1, .int 1, .int 1, .int 0, .int 0, .int 0, .int 0, .int 0, .int 0, .int 0, .int 0, .int 0])), (q1, .inl (y 3, 4, .inr (.inr (.inr (.inr (fun j => some ((va_up (va_up (va_up (va_up (fun _ => 0) 0 q5) 1 q6) 2 q7) 3 q8) j))))))), (q2, .inr (0, [.int 0, .int 0, .long 0, .int 0])), (u3.1, .inr (1, [.ref u3.2.1, .ref u3.2.2, .int 0, .int 0, .int 0, .int 0, .int (-1), .int 0])), (u3.2.1, .inl (y 0, 160, .inl (fun _ => 0))), (u3.2.2, .inl (y 0, 160, .inl (fun _ => 0))), (u4.1, .inr (3, [.ref u4.2, .int 0, .int 0, .int 0, .int (-1), .int 0, .int 0, .int 15, .int 19])), (u4.2, .inr (0, [.int 0, .int 0, .long 0, .int 0])), (q5, .inr (0, [.int 0, .int 0, .long 0, .int 0])), (q6, .inr (0, [.int 0, .int 0, .long 0, .int 0])), (q7, .inr (0, [.int 0, .int 0, .long 0, .int 0])), (q8, .inr (0, [.int 0, .int 0, .long 0, .int 0]))] H := hP
  have hD : va_D A [(h0, .inr (2, [.ref q1, .ref q2, .ref u3.1, .ref u4.1, .int 1, .int 1, .int 0, .int 0, .int 0, .int 0, .int 0, .int 0, .int 0, .int 0, .int 0])), (q1, .inl (y 3, 4, .inr (.inr (.inr (.inr (fun j => some ((va_up (va_up (va_up (va_up (fun _ => 0) 0 q5) 1 q6) 2 q7) 3 q8) j))))))), (q2, .inr (0, [.int 0, .int 0, .long 0, .int 0])), (u3.1, .inr (1, [.ref u3.2.1, .ref u3.2.2, .int 0, .int 0, .int 0, .int 0, .int (-1), .int 0])), (u3.2.1, .inl (y 0, 160, .inl (fun _ => 0))), (u3.2.2, .inl (y 0, 160, .inl (fun _ => 0))), (u4.1, .inr (3, [.ref u4.2, .int 0, .int 0, .int 0, .int (-1), .int 0, .int 0, .int 15, .int 19])), (u4.2, .inr (0, [.int 0, .int 0, .long 0, .int 0])), (q5, .inr (0, [.int 0, .int 0, .long 0, .int 0])), (q6, .inr (0, [.int 0, .int 0, .long 0, .int 0])), (q7, .inr (0, [.int 0, .int 0, .long 0, .int 0])), (q8, .inr (0, [.int 0, .int 0, .long 0, .int 0]))] := hD
  have hP : va_P (dC, dI) vwCl (ndW y (h0, q1, va_up (va_up (va_up (va_up (fun _ => 0) 0 q5) 1 q6) 2 q7) 3 q8, q2, u3, u4) nodeI) H := hP.sub [0, 1, 8, 9, 10, 11, 2, 3, 4, 5, 6, 7] rfl
  have hD : va_D A (ndW y (h0, q1, va_up (va_up (va_up (va_up (fun _ => 0) 0 q5) 1 q6) 2 q7) 3 q8, q2, u3, u4) nodeI) := hD.sub [0, 1, 8, 9, 10, 11, 2, 3, 4, 5, 6, 7] (by decide) rfl
  exact W.vret hx hb hr (fun t ht hW => ⟨⟨(h0, q1, va_up (va_up (va_up (va_up (fun _ => 0) 0 q5) 1 q6) 2 q7) 3 q8, q2, u3, u4), rfl, rfl, by rw [ht]; exact hP, hD⟩, hS.F ht⟩) hS.2.2 dX2_init_126
