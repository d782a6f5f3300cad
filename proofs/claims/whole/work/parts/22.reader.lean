def wp_X3_begin : ReaderS → (ReaderS → Prop) → Prop := fun (taken, tail, alike, last, check, chkTaken, sizePl, chkPl, fr) K => wp_X0_set fr 0 0 0 0 (fun u1 => K (0, 0, 0, (-1), 0, 0, 15, 19, u1))
set_option maxHeartbeats 4000000 in
set_option maxRecDepth 100000 in
theorem c_X3_begin (l : Launch) (dC : Nat → ClassId) (dI : Nat → Nat → Nat) (y : Nat → ClassId) (a : ReaderA) (sz : Nat) (S : ReaderS) (K : ReaderS → Prop) (hf : wp_X3_begin S K) : MV l yX3_begin wsX3_begin { frames := 1, cells := 0, slots := 0, locals := 25 } dC dI y [.ref a.1] (rdW a S) sz (fun u => rdW a u) K := by
  refine Met.ofW (cc := cX3_begin) (maxL := 1) (ret := none) (by decide) rfl ?_
  intro p e s m args below meth c s₁ B hml hv
  obtain ⟨rfl, hsz, hP, hK, hD0⟩ := hv
  have hx := B.exec
  have hb := B.bytes
  have hr := B.returns
  have hts := atoms_spec (ws := wsX3_begin) B.pre
  have hown : s.vm.findClass RX3 = some m.cls := findClass_of_methodNamed B.named
  have hlocks := B.notSynchronized
  subst hsz
  have hD := hD0.self (sz := s.heap.size)
  generalize hAe : va_A (rdW a S) s.heap.size = A at hD ⊢
  have hA : ∀ q : Nat, s.heap.size ≤ q → A q := fun q h => by rw [← hAe]; exact Or.inr h
  have hS : va_S A s.heap s.heap [] := va_S.rf
  have C0 : Cx p s m [.ref a.1].toArray meth c cX3_begin 1 none wsX3_begin RX3 A dC dI y := ⟨hx, hb, hr, hml, hown, hts, hlocks, hA, hK⟩
  have w12 := hts (.fieldLink RX3 12 "SharedWire$Reader" "frame" "LSharedWire$Frame;") (List.mem_of_getElem? (i := 1) rfl)
  have w18 := hts (.fieldLink RX3 18 "SharedWire$Reader" "taken" "I") (List.mem_of_getElem? (i := 2) rfl)
  have w22 := hts (.fieldLink RX3 22 "SharedWire$Reader" "tail" "I") (List.mem_of_getElem? (i := 3) rfl)
  have w25 := hts (.fieldLink RX3 25 "SharedWire$Reader" "alike" "I") (List.mem_of_getElem? (i := 4) rfl)
  have w28 := hts (.fieldLink RX3 28 "SharedWire$Reader" "last" "I") (List.mem_of_getElem? (i := 5) rfl)
  have w31 := hts (.fieldLink RX3 31 "SharedWire$Reader" "check" "I") (List.mem_of_getElem? (i := 6) rfl)
  have w34 := hts (.fieldLink RX3 34 "SharedWire$Reader" "checkTaken" "I") (List.mem_of_getElem? (i := 7) rfl)
  have w37 := hts (.fieldLink RX3 37 "SharedWire$Reader" "sizePlace" "I") (List.mem_of_getElem? (i := 8) rfl)
  have w40 := hts (.fieldLink RX3 40 "SharedWire$Reader" "checkPlace" "I") (List.mem_of_getElem? (i := 9) rfl)
  have hinX3 : ∀ w ∈ wsX30, w ∈ wsX3_begin := fun w h => List.mem_cons_of_mem _ (List.mem_append_left _ (List.mem_append_right _ (h)))
  have hl := lv_entry ([.ref a.1]) (n := 1) (Nat.le_of_ble_eq_true rfl)
  rw [lg_entry_eq]
  generalize (lg_sl ([.ref a.1]) ++ List.replicate (1 - (lg_sl ([.ref a.1])).length) Slot.unset).toArray = ls at hl ⊢
  have hl : lv_has ls 1 [(0, .ref a.1)] := hl
  obtain ⟨taken, tail, alike, last, check, chkTaken, sizePl, chkPl, fr⟩ := S
  clear hAe hD0
  generalize hL0 : ([] : List Loc) = locs at hS ⊢
  unfold wp_X3_begin at hf
  refine lv_aload_n hx hb dX3_begin_0 rfl (lv_at hl 0 rfl) ?_
  refine va_get (D := (dC, dI)) (ci := 3) (v := .ref a.2) (C := RX3) (T := TX3) (N := 9) hx hb hts hinX3 hown hK.1 hP 0 rfl rfl 0 (by decide) w12 (fun _ h9 => h9) rfl dX3_begin_1 ?_
  refine lv_iconst (v := 0) hx hb dX3_begin_4 (by decide) ?_
  refine lv_iconst (v := 0) hx hb dX3_begin_5 (by decide) ?_
  refine lv_lconst (v := 0) hx hb dX3_begin_6 (by decide) ?_
  refine lv_iconst (v := 0) hx hb dX3_begin_7 (by decide) ?_
  refine kVv (As := [.int 0, .int 0, .long 0, .int 0]) (rest := []) (pre := (rdW a (taken, tail, alike, last, check, chkTaken, sizePl, chkPl, fr)).take 1) (post := (rdW a (taken, tail, alike, last, check, chkTaken, sizePl, chkPl, fr)).drop 2) ⟨hx, hb, hml, hown, hts⟩ (c_X0_set l dC dI y a.2 s.heap.size fr 0 0 0 0 _ hf) (cwV 4 hts gX3_begin_X0_set rfl rfl rfl (by decide +kernel) ⟨Nat.le_of_ble_eq_true rfl, Nat.le_of_ble_eq_true rfl⟩) hK hP hD (va_recv hK.1 hP (ci := 0) (q0 := 1) rfl rfl) hS hA rfl hl.1 rfl (Nat.le_of_ble_eq_true rfl) dX3_begin_8 ⟨Nat.zero_le _, Nat.zero_le _⟩ (fun u1 H locs hf hP hD hS => ?_)
  have hP : va_P (dC, dI) vwCl (rdW a (taken, tail, alike, last, check, chkTaken, sizePl, chkPl, u1)) H := hP
  have hD : va_D A (rdW a (taken, tail, alike, last, check, chkTaken, sizePl, chkPl, u1)) := hD
  refine lv_aload_n hx hb dX3_begin_11 rfl (lv_at hl 0 rfl) ?_
  refine lv_iconst (v := 0) hx hb dX3_begin_12 (by decide) ?_
  refine va_put (D := (dC, dI)) (ci := 3) (v := .int 0) (ty := .int) (C := RX3) (T := TX3) (N := 9) hx hb hts hinX3 tyX3 tyX3_ok nmX3 hown hK.1 hP hD hS 0 rfl rfl 1 (by decide) w18 (fun _ h9 => h9) rfl (by decide +kernel) rfl rfl (Nat.le_of_ble_eq_true rfl) dX3_begin_13 (fun H locs hP hD hS => ?_)
  have hP : va_P (dC, dI) vwCl (rdW a (0, tail, alike, last, check, chkTaken, sizePl, chkPl, u1)) H := hP
  have hD : va_D A (rdW a (0, tail, alike, last, check, chkTaken, sizePl, chkPl, u1)) := hD
  refine lv_aload_n hx hb dX3_begin_16 rfl (lv_at hl 0 rfl) ?_
  refine lv_iconst (v := 0) hx hb dX3_begin_17 (by decide) ?_
  refine va_put (D := (dC, dI)) (ci := 3) (v := .int 0) (ty := .int) (C := RX3) (T := TX3) (N := 9) hx hb hts hinX3 tyX3 tyX3_ok nmX3 hown hK.1 hP hD hS 0 rfl rfl 2 (by decide) w22 (fun _ h9 => h9) rfl (by decide +kernel) rfl rfl (Nat.le_of_ble_eq_true rfl) dX3_begin_18 (fun H locs hP hD hS => ?_)
  have hP : va_P (dC, dI) vwCl (rdW a (0, 0, alike, last, check, chkTaken, sizePl, chkPl, u1)) H := hP
  have hD : va_D A (rdW a (0, 0, alike, last, check, chkTaken, sizePl, chkPl, u1)) := hD
  refine lv_aload_n hx hb dX3_begin_21 rfl (lv_at hl 0 rfl) ?_
  refine lv_iconst (v := 0) hx hb dX3_begin_22 (by decide) ?_
  refine va_put (D := (dC, dI)) (ci := 3) (v := .int 0) (ty := .int) (C := RX3) (T := TX3) (N := 9) hx hb hts hinX3 tyX3 tyX3_ok nmX3 hown hK.1 hP hD hS 0 rfl rfl 3 (by decide) w25 (fun _ h9 => h9) rfl (by decide +kernel) rfl rfl (Nat.le_of_ble_eq_true rfl) dX3_begin_23 (fun H locs hP hD hS => ?_)
  have hP : va_P (dC, dI) vwCl (rdW a (0, 0, 0, last, check, chkTaken, sizePl, chkPl, u1)) H := hP
  have hD : va_D A (rdW a (0, 0, 0, last, check, chkTaken, sizePl, chkPl, u1)) := hD
  refine lv_aload_n hx hb dX3_begin_26 rfl (lv_at hl 0 rfl) ?_
  refine lv_iconst (v := (-1)) hx hb dX3_begin_27 (by decide) ?_
  refine va_put (D := (dC, dI)) (ci := 3) (v := .int (-1)) (ty := .int) (C := RX3) (T := TX3) (N := 9) hx hb hts hinX3 tyX3 tyX3_ok nmX3 hown hK.1 hP hD hS 0 rfl rfl 4 (by decide) w28 (fun _ h9 => h9) rfl (by decide +kernel) rfl rfl (Nat.le_of_ble_eq_true rfl) dX3_begin_28 (fun H locs hP hD hS => ?_)
  have hP : va_P (dC, dI) vwCl (rdW a (0, 0, 0, (-1), check, chkTaken, sizePl, chkPl, u1)) H := hP
  have hD : va_D A (rdW a (0, 0, 0, (-1), check, chkTaken, sizePl, chkPl, u1)) := hD
  refine lv_aload_n hx hb dX3_begin_31 rfl (lv_at hl 0 rfl) ?_
  refine lv_iconst (v := 0) hx hb dX3_begin_32 (by decide) ?_
  refine va_put (D := (dC, dI)) (ci := 3) (v := .int 0) (ty := .int) (C := RX3) (T := TX3) (N := 9) hx hb hts hinX3 tyX3 tyX3_ok nmX3 hown hK.1 hP hD hS 0 rfl rfl 5 (by decide) w31 (fun _ h9 => h9) rfl (by decide +kernel) rfl rfl (Nat.le_of_ble_eq_true rfl) dX3_begin_33 (fun H locs hP hD hS => ?_)
  have hP : va_P (dC, dI) vwCl (rdW a (0, 0, 0, (-1), 0, chkTaken, sizePl, chkPl, u1)) H := hP
  have hD : va_D A (rdW a (0, 0, 0, (-1), 0, chkTaken, sizePl, chkPl, u1)) := hD
  refine lv_aload_n hx hb dX3_begin_36 rfl (lv_at hl 0 rfl) ?_
  refine lv_iconst (v := 0) hx hb dX3_begin_37 (by decide) ?_
  refine va_put (D := (dC, dI)) (ci := 3) (v := .int 0) (ty := .int) (C := RX3) (T := TX3) (N := 9) hx hb hts hinX3 tyX3 tyX3_ok nmX3 hown hK.1 hP hD hS 0 rfl rfl 6 (by decide) w34 (fun _ h9 => h9) rfl (by decide +kernel) rfl rfl (Nat.le_of_ble_eq_true rfl) dX3_begin_38 (fun H locs hP hD hS => ?_)
  have hP : va_P (dC, dI) vwCl (rdW a (0, 0, 0, (-1), 0, 0, sizePl, chkPl, u1)) H := hP
  have hD : va_D A (rdW a (0, 0, 0, (-1), 0, 0, sizePl, chkPl, u1)) := hD
  refine lv_aload_n hx hb dX3_begin_41 rfl (lv_at hl 0 rfl) ?_
  refine lv_bipush (v := 15) hx hb dX3_begin_42 (by decide) ?_
  refine va_put (D := (dC, dI)) (ci := 3) (v := .int 15) (ty := .int) (C := RX3) (T := TX3) (N := 9) hx hb hts hinX3 tyX3 tyX3_ok nmX3 hown hK.1 hP hD hS 0 rfl rfl 7 (by decide) w37 (fun _ h9 => h9) rfl (by decide +kernel) rfl rfl (Nat.le_of_ble_eq_true rfl) dX3_begin_44 (fun H locs hP hD hS => ?_)
  have hP : va_P (dC, dI) vwCl (rdW a (0, 0, 0, (-1), 0, 0, 15, chkPl, u1)) H := hP
  have hD : va_D A (rdW a (0, 0, 0, (-1), 0, 0, 15, chkPl, u1)) := hD
  refine lv_aload_n hx hb dX3_begin_47 rfl (lv_at hl 0 rfl) ?_
  refine lv_bipush (v := 19) hx hb dX3_begin_48 (by decide) ?_
  refine va_put (D := (dC, dI)) (ci := 3) (v := .int 19) (ty := .int) (C := RX3) (T := TX3) (N := 9) hx hb hts hinX3 tyX3 tyX3_ok nmX3 hown hK.1 hP hD hS 0 rfl rfl 8 (by decide) w40 (fun _ h9 => h9) rfl (by decide +kernel) rfl rfl (Nat.le_of_ble_eq_true rfl) dX3_begin_50 (fun H locs hP hD hS => ?_)
  have hP : va_P (dC, dI) vwCl (rdW a (0, 0, 0, (-1), 0, 0, 15, 19, u1)) H := hP
  have hD : va_D A (rdW a (0, 0, 0, (-1), 0, 0, 15, 19, u1)) := hD
  exact W.vret hx hb hr (fun t ht hW => ⟨⟨(0, 0, 0, (-1), 0, 0, 15, 19, u1), rfl, hf, by rw [ht]; exact hP, hD⟩, hS.F ht⟩) hS.2.2 dX3_begin_53

def wp_X3_isFinished : ReaderS → (Int32 → Prop) → Prop := fun (taken, tail, alike, last, check, chkTaken, sizePl, chkPl, fr) K => ((¬ tail = 10 → K 0) ∧ (tail = 10 → K 1))
set_option maxHeartbeats 4000000 in
set_option maxRecDepth 100000 in
theorem c_X3_isFinished (l : Launch) (dC : Nat → ClassId) (dI : Nat → Nat → Nat) (y : Nat → ClassId) (a : ReaderA) (sz : Nat) (S : ReaderS) (K : Int32 → Prop) (hf : wp_X3_isFinished S K) : MI l yX3_isFinished wsX3_isFinished { frames := 0, cells := 0, slots := 0, locals := 0 } dC dI y [.ref a.1] (rdW a S) sz (fun u => rdW a u) (fun r u => K r ∧ u = S) := by
  refine Met.ofW (cc := cX3_isFinished) (maxL := 1) (ret := (some .boolean)) (by decide) rfl ?_
  intro p e s m args below meth c s₁ B hml hv
  obtain ⟨rfl, hsz, hP, hK, hD0⟩ := hv
  have hx := B.exec
  have hb := B.bytes
  have hr := B.returns
  have hts := atoms_spec (ws := wsX3_isFinished) B.pre
  have hown : s.vm.findClass RX3 = some m.cls := findClass_of_methodNamed B.named
  have hlocks := B.notSynchronized
  subst hsz
  have hD := hD0.self (sz := s.heap.size)
  generalize hAe : va_A (rdW a S) s.heap.size = A at hD ⊢
  have hA : ∀ q : Nat, s.heap.size ≤ q → A q := fun q h => by rw [← hAe]; exact Or.inr h
  have hS : va_S A s.heap s.heap [] := va_S.rf
  have C0 : Cx p s m [.ref a.1].toArray meth c cX3_isFinished 1 (some .boolean) wsX3_isFinished RX3 A dC dI y := ⟨hx, hb, hr, hml, hown, hts, hlocks, hA, hK⟩
  have w22 := hts (.fieldLink RX3 22 "SharedWire$Reader" "tail" "I") (List.mem_of_getElem? (i := 1) rfl)
  have hinX3 : ∀ w ∈ wsX30, w ∈ wsX3_isFinished := fun w h => List.mem_cons_of_mem _ (List.mem_append_right _ (h))
  have hl := lv_entry ([.ref a.1]) (n := 1) (Nat.le_of_ble_eq_true rfl)
  rw [lg_entry_eq]
  generalize (lg_sl ([.ref a.1]) ++ List.replicate (1 - (lg_sl ([.ref a.1])).length) Slot.unset).toArray = ls at hl ⊢
  have hl : lv_has ls 1 [(0, .ref a.1)] := hl
  obtain ⟨taken, tail, alike, last, check, chkTaken, sizePl, chkPl, fr⟩ := S
  have hSS : (taken, tail, alike, last, check, chkTaken, sizePl, chkPl, fr) = (taken, tail, alike, last, check, chkTaken, sizePl, chkPl, fr) := rfl
  clear hAe hD0
  generalize hL0 : ([] : List Loc) = locs at hS ⊢
  unfold wp_X3_isFinished at hf
  refine lv_aload_n hx hb dX3_isFinished_0 rfl (lv_at hl 0 rfl) ?_
  refine va_get (D := (dC, dI)) (ci := 3) (v := .int tail) (C := RX3) (T := TX3) (N := 9) hx hb hts hinX3 hown hK.1 hP 0 rfl rfl 2 (by decide) w22 (fun _ h9 => h9) rfl dX3_isFinished_1 ?_
  refine lv_bipush (v := 10) hx hb dX3_isFinished_4 (by decide) ?_
  refine lv_icmp_ne (tgt := 13) hx hb dX3_isFinished_6 (by decide) (fun c1 => ?_) (fun c1 => ?_)
  · replace hf := hf.1 c1
    refine lv_iconst (v := 0) hx hb dX3_isFinished_13 (by decide) ?_
    exact W.zret (v := 0) (ty := .boolean) hx hb hr rfl (fun t ht hW => ⟨⟨0, (taken, tail, alike, last, check, chkTaken, sizePl, chkPl, fr), rfl, ⟨hf, hSS⟩, by rw [ht]; exact hP, hD⟩, hS.F ht⟩) hS.2.2 dX3_isFinished_14
  · replace hf := hf.2 c1
    refine lv_iconst (v := 1) hx hb dX3_isFinished_9 (by decide) ?_
    refine lv_goto (tgt := 14) hx hb dX3_isFinished_10 (by decide) ?_
    exact W.zret (v := 1) (ty := .boolean) hx hb hr rfl (fun t ht hW => ⟨⟨1, (taken, tail, alike, last, check, chkTaken, sizePl, chkPl, fr), rfl, ⟨hf, hSS⟩, by rw [ht]; exact hP, hD⟩, hS.F ht⟩) hS.2.2 dX3_isFinished_14

def wp_X3_hasWholeFrame : ReaderS → (Int32 → Prop) → Prop := fun (taken, tail, alike, last, check, chkTaken, sizePl, chkPl, fr) K => ((¬ taken = chkPl + 15 → K 0) ∧ (taken = chkPl + 15 → K 1))
set_option maxHeartbeats 4000000 in
set_option maxRecDepth 100000 in
theorem c_X3_hasWholeFrame (l : Launch) (dC : Nat → ClassId) (dI : Nat → Nat → Nat) (y : Nat → ClassId) (a : ReaderA) (sz : Nat) (S : ReaderS) (K : Int32 → Prop) (hf : wp_X3_hasWholeFrame S K) : MI l yX3_hasWholeFrame wsX3_hasWholeFrame { frames := 0, cells := 0, slots := 0, locals := 0 } dC dI y [.ref a.1] (rdW a S) sz (fun u => rdW a u) (fun r u => K r ∧ u = S) := by
  refine Met.ofW (cc := cX3_hasWholeFrame) (maxL := 1) (ret := (some .boolean)) (by decide) rfl ?_
  intro p e s m args below meth c s₁ B hml hv
  obtain ⟨rfl, hsz, hP, hK, hD0⟩ := hv
  have hx := B.exec
  have hb := B.bytes
  have hr := B.returns
  have hts := atoms_spec (ws := wsX3_hasWholeFrame) B.pre
  have hown : s.vm.findClass RX3 = some m.cls := findClass_of_methodNamed B.named
  have hlocks := B.notSynchronized
  subst hsz
  have hD := hD0.self (sz := s.heap.size)
  generalize hAe : va_A (rdW a S) s.heap.size = A at hD ⊢
  have hA : ∀ q : Nat, s.heap.size ≤ q → A q := fun q h => by rw [← hAe]; exact Or.inr h
  have hS : va_S A s.heap s.heap [] := va_S.rf
  have C0 : Cx p s m [.ref a.1].toArray meth c cX3_hasWholeFrame 1 (some .boolean) wsX3_hasWholeFrame RX3 A dC dI y := ⟨hx, hb, hr, hml, hown, hts, hlocks, hA, hK⟩
  have w18 := hts (.fieldLink RX3 18 "SharedWire$Reader" "taken" "I") (List.mem_of_getElem? (i := 1) rfl)
  have w40 := hts (.fieldLink RX3 40 "SharedWire$Reader" "checkPlace" "I") (List.mem_of_getElem? (i := 2) rfl)
  have hinX3 : ∀ w ∈ wsX30, w ∈ wsX3_hasWholeFrame := fun w h => List.mem_cons_of_mem _ (List.mem_append_right _ (h))
  have hl := lv_entry ([.ref a.1]) (n := 1) (Nat.le_of_ble_eq_true rfl)
  rw [lg_entry_eq]
  generalize (lg_sl ([.ref a.1]) ++ List.replicate (1 - (lg_sl ([.ref a.1])).length) Slot.unset).toArray = ls at hl ⊢
  have hl : lv_has ls 1 [(0, .ref a.1)] := hl
  obtain ⟨taken, tail, alike, last, check, chkTaken, sizePl, chkPl, fr⟩ := S
  have hSS : (taken, tail, alike, last, check, chkTaken, sizePl, chkPl, fr) = (taken, tail, alike, last, check, chkTaken, sizePl, chkPl, fr) := rfl
  clear hAe hD0
  generalize hL0 : ([] : List Loc) = locs at hS ⊢
  unfold wp_X3_hasWholeFrame at hf
  refine lv_aload_n hx hb dX3_hasWholeFrame_0 rfl (lv_at hl 0 rfl) ?_
  refine va_get (D := (dC, dI)) (ci := 3) (v := .int taken) (C := RX3) (T := TX3) (N := 9) hx hb hts hinX3 hown hK.1 hP 0 rfl rfl 1 (by decide) w18 (fun _ h9 => h9) rfl dX3_hasWholeFrame_1 ?_
  refine lv_aload_n hx hb dX3_hasWholeFrame_4 rfl (lv_at hl 0 rfl) ?_
  refine va_get (D := (dC, dI)) (ci := 3) (v := .int chkPl) (C := RX3) (T := TX3) (N := 9) hx hb hts hinX3 hown hK.1 hP 0 rfl rfl 8 (by decide) w40 (fun _ h9 => h9) rfl dX3_hasWholeFrame_5 ?_
  refine lv_bipush (v := 15) hx hb dX3_hasWholeFrame_8 (by decide) ?_
  refine lv_iadd hx hb dX3_hasWholeFrame_10 ?_
  refine lv_icmp_ne (tgt := 18) hx hb dX3_hasWholeFrame_11 (by decide) (fun c1 => ?_) (fun c1 => ?_)
  · replace hf := hf.1 c1
    refine lv_iconst (v := 0) hx hb dX3_hasWholeFrame_18 (by decide) ?_
    exact W.zret (v := 0) (ty := .boolean) hx hb hr rfl (fun t ht hW => ⟨⟨0, (taken, tail, alike, last, check, chkTaken, sizePl, chkPl, fr), rfl, ⟨hf, hSS⟩, by rw [ht]; exact hP, hD⟩, hS.F ht⟩) hS.2.2 dX3_hasWholeFrame_19
  · replace hf := hf.2 c1
    refine lv_iconst (v := 1) hx hb dX3_hasWholeFrame_14 (by decide) ?_
    refine lv_goto (tgt := 19) hx hb dX3_hasWholeFrame_15 (by decide) ?_
    exact W.zret (v := 1) (ty := .boolean) hx hb hr rfl (fun t ht hW => ⟨⟨1, (taken, tail, alike, last, check, chkTaken, sizePl, chkPl, fr), rfl, ⟨hf, hSS⟩, by rw [ht]; exact hP, hD⟩, hS.F ht⟩) hS.2.2 dX3_hasWholeFrame_19

def wp_X3_givesAnswer_30 (K : Int32 → Prop) : ReaderS → Prop := fun (taken, tail, alike, last, check, chkTaken, sizePl, chkPl, fr) => K 0
def wp_X3_givesAnswer : ReaderS → (Int32 → Prop) → Prop := fun (taken, tail, alike, last, check, chkTaken, sizePl, chkPl, fr) K => wp_X3_hasWholeFrame (taken, tail, alike, last, check, chkTaken, sizePl, chkPl, fr) (fun r1 => ((r1 = 0 → wp_X3_givesAnswer_30 K (taken, tail, alike, last, check, chkTaken, sizePl, chkPl, fr)) ∧ (¬ r1 = 0 → ((¬ tail = 1 → wp_X3_givesAnswer_30 K (taken, tail, alike, last, check, chkTaken, sizePl, chkPl, fr)) ∧ (tail = 1 → ((¬ check = chkTaken → wp_X3_givesAnswer_30 K (taken, tail, alike, last, check, chkTaken, sizePl, chkPl, fr)) ∧ (check = chkTaken → K 1)))))))
set_option maxHeartbeats 4000000 in
set_option maxRecDepth 100000 in
theorem j_X3_givesAnswer_30 {p : Program} {l : Launch} {e : Env} {s : State} {m : MethodId} {args : Array Value} {below : List Frame} {meth : Method} {c : Code} {dC : Nat → ClassId} {dI : Nat → Nat → Nat} {y : Nat → ClassId} {A : Nat → Prop} (C0 : Cx p s m args meth c cX3_givesAnswer 1 (some .boolean) wsX3_givesAnswer RX3 A dC dI y) (a : ReaderA) (K : Int32 → Prop) (S0 : ReaderS) : ∀ (S : ReaderS) (H : Heap) (locs : List Loc) (ls : Array Slot), va_P (dC, dI) vwCl (rdW a S) H → va_D A (rdW a S) → va_S A s.heap H locs → lv_has ls 1 [] → S = S0 → wp_X3_givesAnswer_30 K S → W p l e ({ frames := 1, cells := 0, slots := 0, locals := 20 } : Room) s m args below meth c H locs 0 0 (MQ below (va_Qi (fun r u => K r ∧ u = S0) (BW dC dI A (fun u => rdW a u)) A) args s 0 0 A) (F0 m 30 ls []) := by
  obtain ⟨hx, hb, hr, hml, hown, hts, hlocks, hA, hK⟩ := id C0
  intro S H locs ls hP hD hS hl hSS hf
  obtain ⟨taken, tail, alike, last, check, chkTaken, sizePl, chkPl, fr⟩ := S
  unfold wp_X3_givesAnswer_30 at hf
  refine lv_iconst (v := 0) hx hb dX3_givesAnswer_30 (by decide) ?_
  exact W.zret (v := 0) (ty := .boolean) hx hb hr rfl (fun t ht hW => ⟨⟨0, (taken, tail, alike, last, check, chkTaken, sizePl, chkPl, fr), rfl, ⟨hf, hSS⟩, by rw [ht]; exact hP, hD⟩, hS.F ht⟩) hS.2.2 dX3_givesAnswer_31
set_option maxHeartbeats 4000000 in
set_option maxRecDepth 100000 in
theorem c_X3_givesAnswer (l : Launch) (dC : Nat → ClassId) (dI : Nat → Nat → Nat) (y : Nat → ClassId) (a : ReaderA) (sz : Nat) (S : ReaderS) (K : Int32 → Prop) (hf : wp_X3_givesAnswer S K) : MI l yX3_givesAnswer wsX3_givesAnswer { frames := 1, cells := 0, slots := 0, locals := 20 } dC dI y [.ref a.1] (rdW a S) sz (fun u => rdW a u) (fun r u => K r ∧ u = S) := by
  refine Met.ofW (cc := cX3_givesAnswer) (maxL := 1) (ret := (some .boolean)) (by decide) rfl ?_
  intro p e s m args below meth c s₁ B hml hv
  obtain ⟨rfl, hsz, hP, hK, hD0⟩ := hv
  have hx := B.exec
  have hb := B.bytes
  have hr := B.returns
  have hts := atoms_spec (ws := wsX3_givesAnswer) B.pre
  have hown : s.vm.findClass RX3 = some m.cls := findClass_of_methodNamed B.named
  have hlocks := B.notSynchronized
  subst hsz
  have hD := hD0.self (sz := s.heap.size)
  generalize hAe : va_A (rdW a S) s.heap.size = A at hD ⊢
  have hA : ∀ q : Nat, s.heap.size ≤ q → A q := fun q h => by rw [← hAe]; exact Or.inr h
  have hS : va_S A s.heap s.heap [] := va_S.rf
  have C0 : Cx p s m [.ref a.1].toArray meth c cX3_givesAnswer 1 (some .boolean) wsX3_givesAnswer RX3 A dC dI y := ⟨hx, hb, hr, hml, hown, hts, hlocks, hA, hK⟩
  have w22 := hts (.fieldLink RX3 22 "SharedWire$Reader" "tail" "I") (List.mem_of_getElem? (i := 1) rfl)
  have w31 := hts (.fieldLink RX3 31 "SharedWire$Reader" "check" "I") (List.mem_of_getElem? (i := 2) rfl)
  have w34 := hts (.fieldLink RX3 34 "SharedWire$Reader" "checkTaken" "I") (List.mem_of_getElem? (i := 3) rfl)
  have hinX3 : ∀ w ∈ wsX30, w ∈ wsX3_givesAnswer := fun w h => List.mem_cons_of_mem _ (List.mem_append_right _ (h))
  have hl := lv_entry ([.ref a.1]) (n := 1) (Nat.le_of_ble_eq_true rfl)
  rw [lg_entry_eq]
  generalize (lg_sl ([.ref a.1]) ++ List.replicate (1 - (lg_sl ([.ref a.1])).length) Slot.unset).toArray = ls at hl ⊢
  have hl : lv_has ls 1 [(0, .ref a.1)] := hl
  obtain ⟨taken, tail, alike, last, check, chkTaken, sizePl, chkPl, fr⟩ := S
  have hSS : (taken, tail, alike, last, check, chkTaken, sizePl, chkPl, fr) = (taken, tail, alike, last, check, chkTaken, sizePl, chkPl, fr) := rfl
  clear hAe hD0
  generalize hL0 : ([] : List Loc) = locs at hS ⊢
  unfold wp_X3_givesAnswer at hf
  refine lv_aload_n hx hb dX3_givesAnswer_0 rfl (lv_at hl 0 rfl) ?_
  refine k0i (As := []) (rest := []) ⟨hx, hb, hml, hown, hts⟩ (c_X3_hasWholeFrame l dC dI y a s.heap.size (taken, tail, alike, last, check, chkTaken, sizePl, chkPl, fr) _ hf) (cwV 0 hts gX3_givesAnswer_X3_hasWholeFrame rfl rfl rfl (by decide +kernel) ⟨Nat.le_of_ble_eq_true rfl, Nat.le_of_ble_eq_true rfl⟩) hK hP hD (va_recv hK.1 hP (ci := 3) (q0 := 0) rfl rfl) hS hA rfl hl.1 rfl (Nat.le_of_ble_eq_true rfl) dX3_givesAnswer_1 ⟨Nat.zero_le _, Nat.zero_le _⟩ (fun r1 u2 H locs hf hP hD hS => ?_)
  obtain ⟨hf, e9⟩ := hf
  have e9 := e9.symm
  subst e9
  have hP : va_P (dC, dI) vwCl (rdW a (taken, tail, alike, last, check, chkTaken, sizePl, chkPl, fr)) H := hP
  have hD : va_D A (rdW a (taken, tail, alike, last, check, chkTaken, sizePl, chkPl, fr)) := hD
  refine lv_if_eq (tgt := 30) hx hb dX3_givesAnswer_4 (by decide) (fun c3 => ?_) (fun c3 => ?_)
  · replace hf := hf.1 c3
    exact j_X3_givesAnswer_30 C0 a K _ (taken, tail, alike, last, check, chkTaken, sizePl, chkPl, fr) H locs ls hP hD hS (lv_sub hl [] rfl) hSS hf
  · replace hf := hf.2 c3
    refine lv_aload_n hx hb dX3_givesAnswer_7 rfl (lv_at hl 0 rfl) ?_
    refine va_get (D := (dC, dI)) (ci := 3) (v := .int tail) (C := RX3) (T := TX3) (N := 9) hx hb hts hinX3 hown hK.1 hP 0 rfl rfl 2 (by decide) w22 (fun _ h9 => h9) rfl dX3_givesAnswer_8 ?_
    refine lv_iconst (v := 1) hx hb dX3_givesAnswer_11 (by decide) ?_
    refine lv_icmp_ne (tgt := 30) hx hb dX3_givesAnswer_12 (by decide) (fun c4 => ?_) (fun c4 => ?_)
    · replace hf := hf.1 c4
      exact j_X3_givesAnswer_30 C0 a K _ (taken, tail, alike, last, check, chkTaken, sizePl, chkPl, fr) H locs ls hP hD hS (lv_sub hl [] rfl) hSS hf
    · replace hf := hf.2 c4
      refine lv_aload_n hx hb dX3_givesAnswer_15 rfl (lv_at hl 0 rfl) ?_
      refine va_get (D := (dC, dI)) (ci := 3) (v := .int check) (C := RX3) (T := TX3) (N := 9) hx hb hts hinX3 hown hK.1 hP 0 rfl rfl 5 (by decide) w31 (fun _ h9 => h9) rfl dX3_givesAnswer_16 ?_
      refine lv_aload_n hx hb dX3_givesAnswer_19 rfl (lv_at hl 0 rfl) ?_
      refine va_get (D := (dC, dI)) (ci := 3) (v := .int chkTaken) (C := RX3) (T := TX3) (N := 9) hx hb hts hinX3 hown hK.1 hP 0 rfl rfl 6 (by decide) w34 (fun _ h9 => h9) rfl dX3_givesAnswer_20 ?_
      refine lv_icmp_ne (tgt := 30) hx hb dX3_givesAnswer_23 (by decide) (fun c5 => ?_) (fun c5 => ?_)
      · replace hf := hf.1 c5
        exact j_X3_givesAnswer_30 C0 a K _ (taken, tail, alike, last, check, chkTaken, sizePl, chkPl, fr) H locs ls hP hD hS (lv_sub hl [] rfl) hSS hf
      · replace hf := hf.2 c5
        refine lv_iconst (v := 1) hx hb dX3_givesAnswer_26 (by decide) ?_
        refine lv_goto (tgt := 31) hx hb dX3_givesAnswer_27 (by decide) ?_
        exact W.zret (v := 1) (ty := .boolean) hx hb hr rfl (fun t ht hW => ⟨⟨1, (taken, tail, alike, last, check, chkTaken, sizePl, chkPl, fr), rfl, ⟨hf, hSS⟩, by rw [ht]; exact hP, hD⟩, hS.F ht⟩) hS.2.2 dX3_givesAnswer_31

def wp_X3_takeTail_36 (K : Int32 → ReaderS → Prop) : ReaderS → Prop := fun (taken, tail, alike, last, check, chkTaken, sizePl, chkPl, fr) => K 0 (taken, tail + 1, alike, last, check, chkTaken, sizePl, chkPl, fr)
def wp_X3_takeTail_21 (K : Int32 → ReaderS → Prop) : ReaderS → Int32 → Prop := fun (taken, tail, alike, last, check, chkTaken, sizePl, chkPl, fr) v1 => ((tail = 1 → wp_X3_takeTail_36 K (taken, tail, alike, last, check, chkTaken, sizePl, chkPl, fr)) ∧ (¬ tail = 1 → ((v1 = 1 → wp_X3_takeTail_36 K (taken, tail, alike, last, check, chkTaken, sizePl, chkPl, fr)) ∧ (¬ v1 = 1 → K 3 (taken, tail, alike, last, check, chkTaken, sizePl, chkPl, fr)))))
def wp_X3_takeTail : ReaderS → Int32 → (Int32 → ReaderS → Prop) → Prop := fun (taken, tail, alike, last, check, chkTaken, sizePl, chkPl, fr) p0 K => ((¬ tail = 2 → wp_X3_takeTail_21 K (taken, tail, alike, last, check, chkTaken, sizePl, chkPl, fr) p0) ∧ (tail = 2 → ((check = chkTaken → wp_X3_takeTail_21 K (taken, tail, alike, last, check, chkTaken, sizePl, chkPl, fr) p0) ∧ (¬ check = chkTaken → K 2 (taken, tail, alike, last, check, chkTaken, sizePl, chkPl, fr)))))
set_option maxHeartbeats 4000000 in
set_option maxRecDepth 100000 in
theorem j_X3_takeTail_36 {p : Program} {l : Launch} {e : Env} {s : State} {m : MethodId} {args : Array Value} {below : List Frame} {meth : Method} {c : Code} {dC : Nat → ClassId} {dI : Nat → Nat → Nat} {y : Nat → ClassId} {A : Nat → Prop} (C0 : Cx p s m args meth c cX3_takeTail 2 (some .int) wsX3_takeTail RX3 A dC dI y) (a : ReaderA) (K : Int32 → ReaderS → Prop) : ∀ (S : ReaderS) (H : Heap) (locs : List Loc) (ls : Array Slot), va_P (dC, dI) vwCl (rdW a S) H → va_D A (rdW a S) → va_S A s.heap H locs → lv_has ls 2 [(0, .ref a.1)] → wp_X3_takeTail_36 K S → W p l e ({ frames := 0, cells := 0, slots := 0, locals := 0 } : Room) s m args below meth c H locs 0 0 (MQ below (va_Qi K (BW dC dI A (fun u => rdW a u)) A) args s 0 0 A) (F0 m 36 ls []) := by
  obtain ⟨hx, hb, hr, hml, hown, hts, hlocks, hA, hK⟩ := id C0
  have w22 := hts (.fieldLink RX3 22 "SharedWire$Reader" "tail" "I") (List.mem_of_getElem? (i := 1) rfl)
  have hinX3 : ∀ w ∈ wsX30, w ∈ wsX3_takeTail := fun w h => List.mem_cons_of_mem _ (List.mem_append_right _ (h))
  intro S H locs ls hP hD hS hl hf
  obtain ⟨taken, tail, alike, last, check, chkTaken, sizePl, chkPl, fr⟩ := S
  unfold wp_X3_takeTail_36 at hf
  refine lv_aload_n hx hb dX3_takeTail_36 rfl (lv_at hl 0 rfl) ?_
  refine lv_dup hx hb dX3_takeTail_37 rfl ?_
  refine va_get (D := (dC, dI)) (ci := 3) (v := .int tail) (C := RX3) (T := TX3) (N := 9) hx hb hts hinX3 hown hK.1 hP 0 rfl rfl 2 (by decide) w22 (fun _ h9 => h9) rfl dX3_takeTail_38 ?_
  refine lv_iconst (v := 1) hx hb dX3_takeTail_41 (by decide) ?_
  refine lv_iadd hx hb dX3_takeTail_42 ?_
  refine va_put (D := (dC, dI)) (ci := 3) (v := .int (tail + 1)) (ty := .int) (C := RX3) (T := TX3) (N := 9) hx hb hts hinX3 tyX3 tyX3_ok nmX3 hown hK.1 hP hD hS 0 rfl rfl 2 (by decide) w22 (fun _ h9 => h9) rfl (by decide +kernel) rfl rfl (Nat.le_of_ble_eq_true rfl) dX3_takeTail_43 (fun H locs hP hD hS => ?_)
  have hP : va_P (dC, dI) vwCl (rdW a (taken, tail + 1, alike, last, check, chkTaken, sizePl, chkPl, fr)) H := hP
  have hD : va_D A (rdW a (taken, tail + 1, alike, last, check, chkTaken, sizePl, chkPl, fr)) := hD
  refine lv_iconst (v := 0) hx hb dX3_takeTail_46 (by decide) ?_
  exact W.iret (v := 0) hx hb hr (fun t ht hW => ⟨⟨0, (taken, tail + 1, alike, last, check, chkTaken, sizePl, chkPl, fr), rfl, hf, by rw [ht]; exact hP, hD⟩, hS.F ht⟩) hS.2.2 dX3_takeTail_47
set_option maxHeartbeats 4000000 in
set_option maxRecDepth 100000 in
theorem j_X3_takeTail_21 {p : Program} {l : Launch} {e : Env} {s : State} {m : MethodId} {args : Array Value} {below : List Frame} {meth : Method} {c : Code} {dC : Nat → ClassId} {dI : Nat → Nat → Nat} {y : Nat → ClassId} {A : Nat → Prop} (C0 : Cx p s m args meth c cX3_takeTail 2 (some .int) wsX3_takeTail RX3 A dC dI y) (a : ReaderA) (K : Int32 → ReaderS → Prop) : ∀ (S : ReaderS) (v1 : Int32) (H : Heap) (locs : List Loc) (ls : Array Slot), va_P (dC, dI) vwCl (rdW a S) H → va_D A (rdW a S) → va_S A s.heap H locs → lv_has ls 2 [(0, .ref a.1), (1, .int v1)] → wp_X3_takeTail_21 K S v1 → W p l e ({ frames := 0, cells := 0, slots := 0, locals := 0 } : Room) s m args below meth c H locs 0 0 (MQ below (va_Qi K (BW dC dI A (fun u => rdW a u)) A) args s 0 0 A) (F0 m 21 ls []) := by
  obtain ⟨hx, hb, hr, hml, hown, hts, hlocks, hA, hK⟩ := id C0
  have w22 := hts (.fieldLink RX3 22 "SharedWire$Reader" "tail" "I") (List.mem_of_getElem? (i := 1) rfl)
  have hinX3 : ∀ w ∈ wsX30, w ∈ wsX3_takeTail := fun w h => List.mem_cons_of_mem _ (List.mem_append_right _ (h))
  intro S v1 H locs ls hP hD hS hl hf
  obtain ⟨taken, tail, alike, last, check, chkTaken, sizePl, chkPl, fr⟩ := S
  unfold wp_X3_takeTail_21 at hf
  refine lv_aload_n hx hb dX3_takeTail_21 rfl (lv_at hl 0 rfl) ?_
  refine va_get (D := (dC, dI)) (ci := 3) (v := .int tail) (C := RX3) (T := TX3) (N := 9) hx hb hts hinX3 hown hK.1 hP 0 rfl rfl 2 (by decide) w22 (fun _ h9 => h9) rfl dX3_takeTail_22 ?_
  refine lv_iconst (v := 1) hx hb dX3_takeTail_25 (by decide) ?_
  refine lv_icmp_eq (tgt := 36) hx hb dX3_takeTail_26 (by decide) (fun c2 => ?_) (fun c2 => ?_)
  · replace hf := hf.1 c2
    exact j_X3_takeTail_36 C0 a K (taken, tail, alike, last, check, chkTaken, sizePl, chkPl, fr) H locs ls hP hD hS (lv_sub hl [0] rfl) hf
  · replace hf := hf.2 c2
    refine lv_iload_n hx hb dX3_takeTail_29 rfl (lv_at hl 1 rfl) ?_
    refine lv_iconst (v := 1) hx hb dX3_takeTail_30 (by decide) ?_
    refine lv_icmp_eq (tgt := 36) hx hb dX3_takeTail_31 (by decide) (fun c3 => ?_) (fun c3 => ?_)
    · replace hf := hf.1 c3
      exact j_X3_takeTail_36 C0 a K (taken, tail, alike, last, check, chkTaken, sizePl, chkPl, fr) H locs ls hP hD hS (lv_sub hl [0] rfl) hf
    · replace hf := hf.2 c3
      refine lv_iconst (v := 3) hx hb dX3_takeTail_34 (by decide) ?_
      exact W.iret (v := 3) hx hb hr (fun t ht hW => ⟨⟨3, (taken, tail, alike, last, check, chkTaken, sizePl, chkPl, fr), rfl, hf, by rw [ht]; exact hP, hD⟩, hS.F ht⟩) hS.2.2 dX3_takeTail_35
set_option maxHeartbeats 4000000 in
set_option maxRecDepth 100000 in
theorem c_X3_takeTail (l : Launch) (dC : Nat → ClassId) (dI : Nat → Nat → Nat) (y : Nat → ClassId) (a : ReaderA) (sz : Nat) (S : ReaderS) (p0 : Int32) (K : Int32 → ReaderS → Prop) (hf : wp_X3_takeTail S p0 K) : MI l yX3_takeTail wsX3_takeTail { frames := 0, cells := 0, slots := 0, locals := 0 } dC dI y [.ref a.1, .int p0] (rdW a S) sz (fun u => rdW a u) K := by
  refine Met.ofW (cc := cX3_takeTail) (maxL := 2) (ret := (some .int)) (by decide) rfl ?_
  intro p e s m args below meth c s₁ B hml hv
  obtain ⟨rfl, hsz, hP, hK, hD0⟩ := hv
  have hx := B.exec
  have hb := B.bytes
  have hr := B.returns
  have hts := atoms_spec (ws := wsX3_takeTail) B.pre
  have hown : s.vm.findClass RX3 = some m.cls := findClass_of_methodNamed B.named
  have hlocks := B.notSynchronized
  subst hsz
  have hD := hD0.self (sz := s.heap.size)
  generalize hAe : va_A (rdW a S) s.heap.size = A at hD ⊢
  have hA : ∀ q : Nat, s.heap.size ≤ q → A q := fun q h => by rw [← hAe]; exact Or.inr h
  have hS : va_S A s.heap s.heap [] := va_S.rf
  have C0 : Cx p s m [.ref a.1, .int p0].toArray meth c cX3_takeTail 2 (some .int) wsX3_takeTail RX3 A dC dI y := ⟨hx, hb, hr, hml, hown, hts, hlocks, hA, hK⟩
  have w22 := hts (.fieldLink RX3 22 "SharedWire$Reader" "tail" "I") (List.mem_of_getElem? (i := 1) rfl)
  have w31 := hts (.fieldLink RX3 31 "SharedWire$Reader" "check" "I") (List.mem_of_getElem? (i := 2) rfl)
  have w34 := hts (.fieldLink RX3 34 "SharedWire$Reader" "checkTaken" "I") (List.mem_of_getElem? (i := 3) rfl)
  have hinX3 : ∀ w ∈ wsX30, w ∈ wsX3_takeTail := fun w h => List.mem_cons_of_mem _ (List.mem_append_right _ (h))
  have hl := lv_entry ([.ref a.1, .int p0]) (n := 2) (Nat.le_of_ble_eq_true rfl)
  rw [lg_entry_eq]
  generalize (lg_sl ([.ref a.1, .int p0]) ++ List.replicate (2 - (lg_sl ([.ref a.1, .int p0])).length) Slot.unset).toArray = ls at hl ⊢
  have hl : lv_has ls 2 [(0, .ref a.1), (1, .int p0)] := hl
  obtain ⟨taken, tail, alike, last, check, chkTaken, sizePl, chkPl, fr⟩ := S
  clear hAe hD0
  generalize hL0 : ([] : List Loc) = locs at hS ⊢
  unfold wp_X3_takeTail at hf
  refine lv_aload_n hx hb dX3_takeTail_0 rfl (lv_at hl 0 rfl) ?_
  refine va_get (D := (dC, dI)) (ci := 3) (v := .int tail) (C := RX3) (T := TX3) (N := 9) hx hb hts hinX3 hown hK.1 hP 0 rfl rfl 2 (by decide) w22 (fun _ h9 => h9) rfl dX3_takeTail_1 ?_
  refine lv_iconst (v := 2) hx hb dX3_takeTail_4 (by decide) ?_
  refine lv_icmp_ne (tgt := 21) hx hb dX3_takeTail_5 (by decide) (fun c1 => ?_) (fun c1 => ?_)
  · replace hf := hf.1 c1
    exact j_X3_takeTail_21 C0 a K (taken, tail, alike, last, check, chkTaken, sizePl, chkPl, fr) p0 s.heap locs ls hP hD hS (lv_sub hl [0, 1] rfl) hf
  · replace hf := hf.2 c1
    refine lv_aload_n hx hb dX3_takeTail_8 rfl (lv_at hl 0 rfl) ?_
    refine va_get (D := (dC, dI)) (ci := 3) (v := .int check) (C := RX3) (T := TX3) (N := 9) hx hb hts hinX3 hown hK.1 hP 0 rfl rfl 5 (by decide) w31 (fun _ h9 => h9) rfl dX3_takeTail_9 ?_
    refine lv_aload_n hx hb dX3_takeTail_12 rfl (lv_at hl 0 rfl) ?_
    refine va_get (D := (dC, dI)) (ci := 3) (v := .int chkTaken) (C := RX3) (T := TX3) (N := 9) hx hb hts hinX3 hown hK.1 hP 0 rfl rfl 6 (by decide) w34 (fun _ h9 => h9) rfl dX3_takeTail_13 ?_
    refine lv_icmp_eq (tgt := 21) hx hb dX3_takeTail_16 (by decide) (fun c4 => ?_) (fun c4 => ?_)
    · replace hf := hf.1 c4
      exact j_X3_takeTail_21 C0 a K (taken, tail, alike, last, check, chkTaken, sizePl, chkPl, fr) p0 s.heap locs ls hP hD hS (lv_sub hl [0, 1] rfl) hf
    · replace hf := hf.2 c4
      refine lv_iconst (v := 2) hx hb dX3_takeTail_19 (by decide) ?_
      exact W.iret (v := 2) hx hb hr (fun t ht hW => ⟨⟨2, (taken, tail, alike, last, check, chkTaken, sizePl, chkPl, fr), rfl, hf, by rw [ht]; exact hP, hD⟩, hS.F ht⟩) hS.2.2 dX3_takeTail_20

def wp_X3_takeHead_55 (K : ReaderS → Prop) : ReaderS → Int32 → Prop := fun (taken, tail, alike, last, check, chkTaken, sizePl, chkPl, fr) v2 => K (taken, tail, alike, last, check, chkTaken, sizePl, chkPl, (fr.1, (fr.2.1 <<< (1 &&& 31)) ||| v2, fr.2.2.1, fr.2.2.2))
def wp_X3_takeHead_76 (K : ReaderS → Prop) : ReaderS → Int32 → Int32 → Prop := fun (taken, tail, alike, last, check, chkTaken, sizePl, chkPl, fr) v1 v2 => ((¬ v1 = 13 → K (taken, tail, alike, last, check, chkTaken, sizePl, chkPl, fr)) ∧ (v1 = 13 → ((¬ v2 = 1 → K (taken, tail, alike, last, check, chkTaken, sizePl, chkPl, fr)) ∧ (v2 = 1 → K (taken, tail, alike, last, check, chkTaken, 35, 39, (1, fr.2.1, fr.2.2.1, fr.2.2.2))))))
def wp_X3_takeHead_34 (K : ReaderS → Prop) : ReaderS → Int32 → Int32 → Int32 → Int32 → Prop := fun (taken, tail, alike, last, check, chkTaken, sizePl, chkPl, fr) v1 v2 v3 k0 => ((¬ v3 = 0 → wp_X3_takeHead_55 K (taken, tail, alike, last, check, chkTaken, sizePl, chkPl, fr) v2) ∧ (v3 = 0 → ((fr.1 = 0 → wp_X3_takeHead_76 K (taken, tail, alike, last, check, chkTaken, sizePl, chkPl, fr) v1 v2) ∧ (¬ fr.1 = 0 → ((k0 = 0 → wp_X3_takeHead_76 K (taken, tail, alike, last, check, chkTaken, sizePl, chkPl, fr) v1 v2) ∧ (¬ k0 = 0 → wp_X3_takeHead_55 K (taken, tail, alike, last, check, chkTaken, sizePl, chkPl, fr) v2))))))
def wp_X3_takeHead_33 (K : ReaderS → Prop) : ReaderS → Int32 → Int32 → Int32 → Prop := fun (taken, tail, alike, last, check, chkTaken, sizePl, chkPl, fr) v1 v2 v3 => wp_X3_takeHead_34 K (taken, tail, alike, last, check, chkTaken, sizePl, chkPl, fr) v1 v2 v3 0
def wp_X3_takeHead_16 (K : ReaderS → Prop) : ReaderS → Int32 → Int32 → Int32 → Prop := fun (taken, tail, alike, last, check, chkTaken, sizePl, chkPl, fr) v1 v2 k0 => ((v1 ≤ 13 → wp_X3_takeHead_33 K (taken, tail, alike, last, check, chkTaken, sizePl, chkPl, fr) v1 v2 k0) ∧ (¬ v1 ≤ 13 → ((31 < v1 → wp_X3_takeHead_33 K (taken, tail, alike, last, check, chkTaken, sizePl, chkPl, fr) v1 v2 k0) ∧ (¬ 31 < v1 → wp_X3_takeHead_34 K (taken, tail, alike, last, check, chkTaken, sizePl, chkPl, fr) v1 v2 k0 1))))
def wp_X3_takeHead_15 (K : ReaderS → Prop) : ReaderS → Int32 → Int32 → Prop := fun (taken, tail, alike, last, check, chkTaken, sizePl, chkPl, fr) v1 v2 => wp_X3_takeHead_16 K (taken, tail, alike, last, check, chkTaken, sizePl, chkPl, fr) v1 v2 0
def wp_X3_takeHead : ReaderS → Int32 → Int32 → (ReaderS → Prop) → Prop := fun (taken, tail, alike, last, check, chkTaken, sizePl, chkPl, fr) p0 p1 K => ((p0 < 1 → wp_X3_takeHead_15 K (taken, tail, alike, last, check, chkTaken, sizePl, chkPl, fr) p0 p1) ∧ (¬ p0 < 1 → ((11 < p0 → wp_X3_takeHead_15 K (taken, tail, alike, last, check, chkTaken, sizePl, chkPl, fr) p0 p1) ∧ (¬ 11 < p0 → wp_X3_takeHead_16 K (taken, tail, alike, last, check, chkTaken, sizePl, chkPl, fr) p0 p1 1))))
set_option maxHeartbeats 4000000 in
set_option maxRecDepth 100000 in
theorem j_X3_takeHead_55 {p : Program} {l : Launch} {e : Env} {s : State} {m : MethodId} {args : Array Value} {below : List Frame} {meth : Method} {c : Code} {dC : Nat → ClassId} {dI : Nat → Nat → Nat} {y : Nat → ClassId} {A : Nat → Prop} (C0 : Cx p s m args meth c cX3_takeHead 5 none wsX3_takeHead RX3 A dC dI y) (a : ReaderA) (K : ReaderS → Prop) : ∀ (S : ReaderS) (v2 : Int32) (H : Heap) (locs : List Loc) (ls : Array Slot), va_P (dC, dI) vwCl (rdW a S) H → va_D A (rdW a S) → va_S A s.heap H locs → lv_has ls 5 [(0, .ref a.1), (2, .int v2)] → wp_X3_takeHead_55 K S v2 → W p l e ({ frames := 0, cells := 0, slots := 0, locals := 0 } : Room) s m args below meth c H locs 0 0 (MQ below (va_Qv K (BW dC dI A (fun u => rdW a u)) A) args s 0 0 A) (F0 m 55 ls []) := by
  obtain ⟨hx, hb, hr, hml, hown, hts, hlocks, hA, hK⟩ := id C0
  have w12 := hts (.fieldLink RX3 12 "SharedWire$Reader" "frame" "LSharedWire$Frame;") (List.mem_of_getElem? (i := 1) rfl)
  have w77 := hts (.fieldLink RX3 77 "SharedWire$Frame" "identifier" "I") (List.mem_of_getElem? (i := 3) rfl)
  have hinX0 : ∀ w ∈ wsX00, w ∈ wsX3_takeHead := fun w h => List.mem_cons_of_mem _ (List.mem_append_right _ (h))
  have hinX3 : ∀ w ∈ wsX30, w ∈ wsX3_takeHead := fun w h => List.mem_cons_of_mem _ (List.mem_append_left _ (List.mem_append_right _ (h)))
  intro S v2 H locs ls hP hD hS hl hf
  obtain ⟨taken, tail, alike, last, check, chkTaken, sizePl, chkPl, fr⟩ := S
  unfold wp_X3_takeHead_55 at hf
  refine lv_aload_n hx hb dX3_takeHead_55 rfl (lv_at hl 0 rfl) ?_
  refine va_get (D := (dC, dI)) (ci := 3) (v := .ref a.2) (C := RX3) (T := TX3) (N := 9) hx hb hts hinX3 hown hK.1 hP 0 rfl rfl 0 (by decide) w12 (fun _ h9 => h9) rfl dX3_takeHead_56 ?_
  refine lv_aload_n hx hb dX3_takeHead_59 rfl (lv_at hl 0 rfl) ?_
  refine va_get (D := (dC, dI)) (ci := 3) (v := .ref a.2) (C := RX3) (T := TX3) (N := 9) hx hb hts hinX3 hown hK.1 hP 0 rfl rfl 0 (by decide) w12 (fun _ h9 => h9) rfl dX3_takeHead_60 ?_
  refine va_get (D := (dC, dI)) (ci := 0) (v := .int fr.2.1) (C := RX0) (T := TX0) (N := 4) hx hb hts hinX0 hown hK.1 hP 1 rfl rfl 1 (by decide) w77 (fun _ h9 => h9) rfl dX3_takeHead_63 ?_
  refine lv_iconst (v := 1) hx hb dX3_takeHead_66 (by decide) ?_
  refine lv_ishl hx hb dX3_takeHead_67 ?_
  refine lv_iload_n hx hb dX3_takeHead_68 rfl (lv_at hl 1 rfl) ?_
  refine lv_ior hx hb dX3_takeHead_69 ?_
  refine va_put (D := (dC, dI)) (ci := 0) (v := .int ((fr.2.1 <<< (1 &&& 31)) ||| v2)) (ty := .int) (C := RX0) (T := TX0) (N := 4) hx hb hts hinX0 tyX0 tyX0_ok nmX0 hown hK.1 hP hD hS 1 rfl rfl 1 (by decide) w77 (fun _ h9 => h9) rfl (by decide +kernel) rfl rfl (Nat.le_of_ble_eq_true rfl) dX3_takeHead_70 (fun H locs hP hD hS => ?_)
  have hP : va_P (dC, dI) vwCl (rdW a (taken, tail, alike, last, check, chkTaken, sizePl, chkPl, (fr.1, (fr.2.1 <<< (1 &&& 31)) ||| v2, fr.2.2.1, fr.2.2.2))) H := hP
  have hD : va_D A (rdW a (taken, tail, alike, last, check, chkTaken, sizePl, chkPl, (fr.1, (fr.2.1 <<< (1 &&& 31)) ||| v2, fr.2.2.1, fr.2.2.2))) := hD
  refine lv_goto (tgt := 107) hx hb dX3_takeHead_73 (by decide) ?_
  exact W.vret hx hb hr (fun t ht hW => ⟨⟨(taken, tail, alike, last, check, chkTaken, sizePl, chkPl, (fr.1, (fr.2.1 <<< (1 &&& 31)) ||| v2, fr.2.2.1, fr.2.2.2)), rfl, hf, by rw [ht]; exact hP, hD⟩, hS.F ht⟩) hS.2.2 dX3_takeHead_107
set_option maxHeartbeats 4000000 in
set_option maxRecDepth 100000 in
theorem j_X3_takeHead_76 {p : Program} {l : Launch} {e : Env} {s : State} {m : MethodId} {args : Array Value} {below : List Frame} {meth : Method} {c : Code} {dC : Nat → ClassId} {dI : Nat → Nat → Nat} {y : Nat → ClassId} {A : Nat → Prop} (C0 : Cx p s m args meth c cX3_takeHead 5 none wsX3_takeHead RX3 A dC dI y) (a : ReaderA) (K : ReaderS → Prop) : ∀ (S : ReaderS) (v1 : Int32) (v2 : Int32) (H : Heap) (locs : List Loc) (ls : Array Slot), va_P (dC, dI) vwCl (rdW a S) H → va_D A (rdW a S) → va_S A s.heap H locs → lv_has ls 5 [(0, .ref a.1), (1, .int v1), (2, .int v2)] → wp_X3_takeHead_76 K S v1 v2 → W p l e ({ frames := 0, cells := 0, slots := 0, locals := 0 } : Room) s m args below meth c H locs 0 0 (MQ below (va_Qv K (BW dC dI A (fun u => rdW a u)) A) args s 0 0 A) (F0 m 76 ls []) := by
  obtain ⟨hx, hb, hr, hml, hown, hts, hlocks, hA, hK⟩ := id C0
  have w12 := hts (.fieldLink RX3 12 "SharedWire$Reader" "frame" "LSharedWire$Frame;") (List.mem_of_getElem? (i := 1) rfl)
  have w37 := hts (.fieldLink RX3 37 "SharedWire$Reader" "sizePlace" "I") (List.mem_of_getElem? (i := 4) rfl)
  have w40 := hts (.fieldLink RX3 40 "SharedWire$Reader" "checkPlace" "I") (List.mem_of_getElem? (i := 5) rfl)
  have w73 := hts (.fieldLink RX3 73 "SharedWire$Frame" "isLong" "Z") (List.mem_of_getElem? (i := 2) rfl)
  have hinX0 : ∀ w ∈ wsX00, w ∈ wsX3_takeHead := fun w h => List.mem_cons_of_mem _ (List.mem_append_right _ (h))
  have hinX3 : ∀ w ∈ wsX30, w ∈ wsX3_takeHead := fun w h => List.mem_cons_of_mem _ (List.mem_append_left _ (List.mem_append_right _ (h)))
  intro S v1 v2 H locs ls hP hD hS hl hf
  obtain ⟨taken, tail, alike, last, check, chkTaken, sizePl, chkPl, fr⟩ := S
  unfold wp_X3_takeHead_76 at hf
  refine lv_iload_n hx hb dX3_takeHead_76 rfl (lv_at hl 1 rfl) ?_
  refine lv_bipush (v := 13) hx hb dX3_takeHead_77 (by decide) ?_
  refine lv_icmp_ne (tgt := 107) hx hb dX3_takeHead_79 (by decide) (fun c5 => ?_) (fun c5 => ?_)
  · replace hf := hf.1 c5
    exact W.vret hx hb hr (fun t ht hW => ⟨⟨(taken, tail, alike, last, check, chkTaken, sizePl, chkPl, fr), rfl, hf, by rw [ht]; exact hP, hD⟩, hS.F ht⟩) hS.2.2 dX3_takeHead_107
  · replace hf := hf.2 c5
    refine lv_iload_n hx hb dX3_takeHead_82 rfl (lv_at hl 2 rfl) ?_
    refine lv_iconst (v := 1) hx hb dX3_takeHead_83 (by decide) ?_
    refine lv_icmp_ne (tgt := 107) hx hb dX3_takeHead_84 (by decide) (fun c6 => ?_) (fun c6 => ?_)
    · replace hf := hf.1 c6
      exact W.vret hx hb hr (fun t ht hW => ⟨⟨(taken, tail, alike, last, check, chkTaken, sizePl, chkPl, fr), rfl, hf, by rw [ht]; exact hP, hD⟩, hS.F ht⟩) hS.2.2 dX3_takeHead_107
    · replace hf := hf.2 c6
      refine lv_aload_n hx hb dX3_takeHead_87 rfl (lv_at hl 0 rfl) ?_
      refine va_get (D := (dC, dI)) (ci := 3) (v := .ref a.2) (C := RX3) (T := TX3) (N := 9) hx hb hts hinX3 hown hK.1 hP 0 rfl rfl 0 (by decide) w12 (fun _ h9 => h9) rfl dX3_takeHead_88 ?_
      refine lv_iconst (v := 1) hx hb dX3_takeHead_91 (by decide) ?_
      refine va_put (D := (dC, dI)) (ci := 0) (v := .int 1) (ty := .boolean) (C := RX0) (T := TX0) (N := 4) hx hb hts hinX0 tyX0 tyX0_ok nmX0 hown hK.1 hP hD hS 1 rfl rfl 0 (by decide) w73 (fun _ h9 => h9) rfl (by decide +kernel) rfl rfl (Nat.le_of_ble_eq_true rfl) dX3_takeHead_92 (fun H locs hP hD hS => ?_)
      have hP : va_P (dC, dI) vwCl (rdW a (taken, tail, alike, last, check, chkTaken, sizePl, chkPl, (1, fr.2.1, fr.2.2.1, fr.2.2.2))) H := hP
      have hD : va_D A (rdW a (taken, tail, alike, last, check, chkTaken, sizePl, chkPl, (1, fr.2.1, fr.2.2.1, fr.2.2.2))) := hD
      refine lv_aload_n hx hb dX3_takeHead_95 rfl (lv_at hl 0 rfl) ?_
      refine lv_bipush (v := 35) hx hb dX3_takeHead_96 (by decide) ?_
      refine va_put (D := (dC, dI)) (ci := 3) (v := .int 35) (ty := .int) (C := RX3) (T := TX3) (N := 9) hx hb hts hinX3 tyX3 tyX3_ok nmX3 hown hK.1 hP hD hS 0 rfl rfl 7 (by decide) w37 (fun _ h9 => h9) rfl (by decide +kernel) rfl rfl (Nat.le_of_ble_eq_true rfl) dX3_takeHead_98 (fun H locs hP hD hS => ?_)
      have hP : va_P (dC, dI) vwCl (rdW a (taken, tail, alike, last, check, chkTaken, 35, chkPl, (1, fr.2.1, fr.2.2.1, fr.2.2.2))) H := hP
      have hD : va_D A (rdW a (taken, tail, alike, last, check, chkTaken, 35, chkPl, (1, fr.2.1, fr.2.2.1, fr.2.2.2))) := hD
      refine lv_aload_n hx hb dX3_takeHead_101 rfl (lv_at hl 0 rfl) ?_
      refine lv_bipush (v := 39) hx hb dX3_takeHead_102 (by decide) ?_
      refine va_put (D := (dC, dI)) (ci := 3) (v := .int 39) (ty := .int) (C := RX3) (T := TX3) (N := 9) hx hb hts hinX3 tyX3 tyX3_ok nmX3 hown hK.1 hP hD hS 0 rfl rfl 8 (by decide) w40 (fun _ h9 => h9) rfl (by decide +kernel) rfl rfl (Nat.le_of_ble_eq_true rfl) dX3_takeHead_104 (fun H locs hP hD hS => ?_)
      have hP : va_P (dC, dI) vwCl (rdW a (taken, tail, alike, last, check, chkTaken, 35, 39, (1, fr.2.1, fr.2.2.1, fr.2.2.2))) H := hP
      have hD : va_D A (rdW a (taken, tail, alike, last, check, chkTaken, 35, 39, (1, fr.2.1, fr.2.2.1, fr.2.2.2))) := hD
      exact W.vret hx hb hr (fun t ht hW => ⟨⟨(taken, tail, alike, last, check, chkTaken, 35, 39, (1, fr.2.1, fr.2.2.1, fr.2.2.2)), rfl, hf, by rw [ht]; exact hP, hD⟩, hS.F ht⟩) hS.2.2 dX3_takeHead_107
set_option maxHeartbeats 4000000 in
set_option maxRecDepth 100000 in
theorem j_X3_takeHead_34 {p : Program} {l : Launch} {e : Env} {s : State} {m : MethodId} {args : Array Value} {below : List Frame} {meth : Method} {c : Code} {dC : Nat → ClassId} {dI : Nat → Nat → Nat} {y : Nat → ClassId} {A : Nat → Prop} (C0 : Cx p s m args meth c cX3_takeHead 5 none wsX3_takeHead RX3 A dC dI y) (a : ReaderA) (K : ReaderS → Prop) : ∀ (S : ReaderS) (v1 : Int32) (v2 : Int32) (v3 : Int32) (k0 : Int32) (H : Heap) (locs : List Loc) (ls : Array Slot), va_P (dC, dI) vwCl (rdW a S) H → va_D A (rdW a S) → va_S A s.heap H locs → lv_has ls 5 [(0, .ref a.1), (1, .int v1), (2, .int v2), (3, .int v3)] → wp_X3_takeHead_34 K S v1 v2 v3 k0 → W p l e ({ frames := 0, cells := 0, slots := 0, locals := 0 } : Room) s m args below meth c H locs 0 0 (MQ below (va_Qv K (BW dC dI A (fun u => rdW a u)) A) args s 0 0 A) (F0 m 34 ls [.int k0]) := by
  obtain ⟨hx, hb, hr, hml, hown, hts, hlocks, hA, hK⟩ := id C0
  have w12 := hts (.fieldLink RX3 12 "SharedWire$Reader" "frame" "LSharedWire$Frame;") (List.mem_of_getElem? (i := 1) rfl)
  have w73 := hts (.fieldLink RX3 73 "SharedWire$Frame" "isLong" "Z") (List.mem_of_getElem? (i := 2) rfl)
  have hinX0 : ∀ w ∈ wsX00, w ∈ wsX3_takeHead := fun w h => List.mem_cons_of_mem _ (List.mem_append_right _ (h))
  have hinX3 : ∀ w ∈ wsX30, w ∈ wsX3_takeHead := fun w h => List.mem_cons_of_mem _ (List.mem_append_left _ (List.mem_append_right _ (h)))
  intro S v1 v2 v3 k0 H locs ls hP hD hS hl hf
  obtain ⟨taken, tail, alike, last, check, chkTaken, sizePl, chkPl, fr⟩ := S
  unfold wp_X3_takeHead_34 at hf
  refine lv_istore (lv' := [(4, .int k0), (0, .ref a.1), (1, .int v1), (2, .int v2), (3, .int v3)]) hx hb dX3_takeHead_34 hl (by decide) rfl (fun ls hl => ?_)
  refine lv_iload_n hx hb dX3_takeHead_36 rfl (lv_at hl 4 rfl) ?_
  refine lv_if_ne (tgt := 55) hx hb dX3_takeHead_37 (by decide) (fun c3 => ?_) (fun c3 => ?_)
  · replace hf := hf.1 c3
    exact j_X3_takeHead_55 C0 a K (taken, tail, alike, last, check, chkTaken, sizePl, chkPl, fr) v2 H locs ls hP hD hS (lv_sub hl [1, 3] rfl) hf
  · replace hf := hf.2 c3
    refine lv_aload_n hx hb dX3_takeHead_40 rfl (lv_at hl 1 rfl) ?_
    refine va_get (D := (dC, dI)) (ci := 3) (v := .ref a.2) (C := RX3) (T := TX3) (N := 9) hx hb hts hinX3 hown hK.1 hP 0 rfl rfl 0 (by decide) w12 (fun _ h9 => h9) rfl dX3_takeHead_41 ?_
    refine va_get (D := (dC, dI)) (ci := 0) (v := .int fr.1) (C := RX0) (T := TX0) (N := 4) hx hb hts hinX0 hown hK.1 hP 1 rfl rfl 0 (by decide) w73 (fun _ h9 => h9) rfl dX3_takeHead_44 ?_
    refine lv_if_eq (tgt := 76) hx hb dX3_takeHead_47 (by decide) (fun c4 => ?_) (fun c4 => ?_)
    · replace hf := hf.1 c4
      exact j_X3_takeHead_76 C0 a K (taken, tail, alike, last, check, chkTaken, sizePl, chkPl, fr) v1 v2 H locs ls hP hD hS (lv_sub hl [1, 2, 3] rfl) hf
    · replace hf := hf.2 c4
      refine lv_iload hx hb dX3_takeHead_50 (lv_at hl 0 rfl) ?_
      refine lv_if_eq (tgt := 76) hx hb dX3_takeHead_52 (by decide) (fun c7 => ?_) (fun c7 => ?_)
      · replace hf := hf.1 c7
        exact j_X3_takeHead_76 C0 a K (taken, tail, alike, last, check, chkTaken, sizePl, chkPl, fr) v1 v2 H locs ls hP hD hS (lv_sub hl [1, 2, 3] rfl) hf
      · replace hf := hf.2 c7
        exact j_X3_takeHead_55 C0 a K (taken, tail, alike, last, check, chkTaken, sizePl, chkPl, fr) v2 H locs ls hP hD hS (lv_sub hl [1, 3] rfl) hf
set_option maxHeartbeats 4000000 in
set_option maxRecDepth 100000 in
theorem j_X3_takeHead_33 {p : Program} {l : Launch} {e : Env} {s : State} {m : MethodId} {args : Array Value} {below : List Frame} {meth : Method} {c : Code} {dC : Nat → ClassId} {dI : Nat → Nat → Nat} {y : Nat → ClassId} {A : Nat → Prop} (C0 : Cx p s m args meth c cX3_takeHead 5 none wsX3_takeHead RX3 A dC dI y) (a : ReaderA) (K : ReaderS → Prop) : ∀ (S : ReaderS) (v1 : Int32) (v2 : Int32) (v3 : Int32) (H : Heap) (locs : List Loc) (ls : Array Slot), va_P (dC, dI) vwCl (rdW a S) H → va_D A (rdW a S) → va_S A s.heap H locs → lv_has ls 5 [(0, .ref a.1), (1, .int v1), (2, .int v2), (3, .int v3)] → wp_X3_takeHead_33 K S v1 v2 v3 → W p l e ({ frames := 0, cells := 0, slots := 0, locals := 0 } : Room) s m args below meth c H locs 0 0 (MQ below (va_Qv K (BW dC dI A (fun u => rdW a u)) A) args s 0 0 A) (F0 m 33 ls []) := by
  obtain ⟨hx, hb, hr, hml, hown, hts, hlocks, hA, hK⟩ := id C0
  intro S v1 v2 v3 H locs ls hP hD hS hl hf
  obtain ⟨taken, tail, alike, last, check, chkTaken, sizePl, chkPl, fr⟩ := S
  unfold wp_X3_takeHead_33 at hf
  refine lv_iconst (v := 0) hx hb dX3_takeHead_33 (by decide) ?_
  exact j_X3_takeHead_34 C0 a K (taken, tail, alike, last, check, chkTaken, sizePl, chkPl, fr) v1 v2 v3 0 H locs ls hP hD hS (lv_sub hl [0, 1, 2, 3] rfl) hf
set_option maxHeartbeats 4000000 in
set_option maxRecDepth 100000 in
theorem j_X3_takeHead_16 {p : Program} {l : Launch} {e : Env} {s : State} {m : MethodId} {args : Array Value} {below : List Frame} {meth : Method} {c : Code} {dC : Nat → ClassId} {dI : Nat → Nat → Nat} {y : Nat → ClassId} {A : Nat → Prop} (C0 : Cx p s m args meth c cX3_takeHead 5 none wsX3_takeHead RX3 A dC dI y) (a : ReaderA) (K : ReaderS → Prop) : ∀ (S : ReaderS) (v1 : Int32) (v2 : Int32) (k0 : Int32) (H : Heap) (locs : List Loc) (ls : Array Slot), va_P (dC, dI) vwCl (rdW a S) H → va_D A (rdW a S) → va_S A s.heap H locs → lv_has ls 5 [(0, .ref a.1), (1, .int v1), (2, .int v2)] → wp_X3_takeHead_16 K S v1 v2 k0 → W p l e ({ frames := 0, cells := 0, slots := 0, locals := 0 } : Room) s m args below meth c H locs 0 0 (MQ below (va_Qv K (BW dC dI A (fun u => rdW a u)) A) args s 0 0 A) (F0 m 16 ls [.int k0]) := by
  obtain ⟨hx, hb, hr, hml, hown, hts, hlocks, hA, hK⟩ := id C0
  intro S v1 v2 k0 H locs ls hP hD hS hl hf
  obtain ⟨taken, tail, alike, last, check, chkTaken, sizePl, chkPl, fr⟩ := S
  unfold wp_X3_takeHead_16 at hf
  refine lv_istore_n (lv' := [(3, .int k0), (0, .ref a.1), (1, .int v1), (2, .int v2)]) hx hb dX3_takeHead_16 rfl hl (by decide) rfl (fun ls hl => ?_)
  refine lv_iload_n hx hb dX3_takeHead_17 rfl (lv_at hl 2 rfl) ?_
  refine lv_bipush (v := 13) hx hb dX3_takeHead_18 (by decide) ?_
  refine lv_icmp_le (tgt := 33) hx hb dX3_takeHead_20 (by decide) (fun c2 => ?_) (fun c2 => ?_)
  · replace hf := hf.1 c2
    exact j_X3_takeHead_33 C0 a K (taken, tail, alike, last, check, chkTaken, sizePl, chkPl, fr) v1 v2 k0 H locs ls hP hD hS (lv_sub hl [1, 2, 3, 0] rfl) hf
  · replace hf := hf.2 c2
    refine lv_iload_n hx hb dX3_takeHead_23 rfl (lv_at hl 2 rfl) ?_
    refine lv_bipush (v := 31) hx hb dX3_takeHead_24 (by decide) ?_
    refine lv_icmp_gt (tgt := 33) hx hb dX3_takeHead_26 (by decide) (fun c8 => ?_) (fun c8 => ?_)
    · replace hf := hf.1 c8
      exact j_X3_takeHead_33 C0 a K (taken, tail, alike, last, check, chkTaken, sizePl, chkPl, fr) v1 v2 k0 H locs ls hP hD hS (lv_sub hl [1, 2, 3, 0] rfl) hf
    · replace hf := hf.2 c8
      refine lv_iconst (v := 1) hx hb dX3_takeHead_29 (by decide) ?_
      refine lv_goto (tgt := 34) hx hb dX3_takeHead_30 (by decide) ?_
      exact j_X3_takeHead_34 C0 a K (taken, tail, alike, last, check, chkTaken, sizePl, chkPl, fr) v1 v2 k0 1 H locs ls hP hD hS (lv_sub hl [1, 2, 3, 0] rfl) hf
set_option maxHeartbeats 4000000 in
set_option maxRecDepth 100000 in
theorem j_X3_takeHead_15 {p : Program} {l : Launch} {e : Env} {s : State} {m : MethodId} {args : Array Value} {below : List Frame} {meth : Method} {c : Code} {dC : Nat → ClassId} {dI : Nat → Nat → Nat} {y : Nat → ClassId} {A : Nat → Prop} (C0 : Cx p s m args meth c cX3_takeHead 5 none wsX3_takeHead RX3 A dC dI y) (a : ReaderA) (K : ReaderS → Prop) : ∀ (S : ReaderS) (v1 : Int32) (v2 : Int32) (H : Heap) (locs : List Loc) (ls : Array Slot), va_P (dC, dI) vwCl (rdW a S) H → va_D A (rdW a S) → va_S A s.heap H locs → lv_has ls 5 [(0, .ref a.1), (1, .int v1), (2, .int v2)] → wp_X3_takeHead_15 K S v1 v2 → W p l e ({ frames := 0, cells := 0, slots := 0, locals := 0 } : Room) s m args below meth c H locs 0 0 (MQ below (va_Qv K (BW dC dI A (fun u => rdW a u)) A) args s 0 0 A) (F0 m 15 ls []) := by
  obtain ⟨hx, hb, hr, hml, hown, hts, hlocks, hA, hK⟩ := id C0
  intro S v1 v2 H locs ls hP hD hS hl hf
  obtain ⟨taken, tail, alike, last, check, chkTaken, sizePl, chkPl, fr⟩ := S
  unfold wp_X3_takeHead_15 at hf
  refine lv_iconst (v := 0) hx hb dX3_takeHead_15 (by decide) ?_
  exact j_X3_takeHead_16 C0 a K (taken, tail, alike, last, check, chkTaken, sizePl, chkPl, fr) v1 v2 0 H locs ls hP hD hS (lv_sub hl [0, 1, 2] rfl) hf
set_option maxHeartbeats 4000000 in
set_option maxRecDepth 100000 in
theorem c_X3_takeHead (l : Launch) (dC : Nat → ClassId) (dI : Nat → Nat → Nat) (y : Nat → ClassId) (a : ReaderA) (sz : Nat) (S : ReaderS) (p0 : Int32) (p1 : Int32) (K : ReaderS → Prop) (hf : wp_X3_takeHead S p0 p1 K) : MV l yX3_takeHead wsX3_takeHead { frames := 0, cells := 0, slots := 0, locals := 0 } dC dI y [.ref a.1, .int p0, .int p1] (rdW a S) sz (fun u => rdW a u) K := by
  refine Met.ofW (cc := cX3_takeHead) (maxL := 5) (ret := none) (by decide) rfl ?_
  intro p e s m args below meth c s₁ B hml hv
  obtain ⟨rfl, hsz, hP, hK, hD0⟩ := hv
  have hx := B.exec
  have hb := B.bytes
  have hr := B.returns
  have hts := atoms_spec (ws := wsX3_takeHead) B.pre
  have hown : s.vm.findClass RX3 = some m.cls := findClass_of_methodNamed B.named
  have hlocks := B.notSynchronized
  subst hsz
  have hD := hD0.self (sz := s.heap.size)
  generalize hAe : va_A (rdW a S) s.heap.size = A at hD ⊢
  have hA : ∀ q : Nat, s.heap.size ≤ q → A q := fun q h => by rw [← hAe]; exact Or.inr h
  have hS : va_S A s.heap s.heap [] := va_S.rf
  have C0 : Cx p s m [.ref a.1, .int p0, .int p1].toArray meth c cX3_takeHead 5 none wsX3_takeHead RX3 A dC dI y := ⟨hx, hb, hr, hml, hown, hts, hlocks, hA, hK⟩
  have hl := lv_entry ([.ref a.1, .int p0, .int p1]) (n := 5) (Nat.le_of_ble_eq_true rfl)
  rw [lg_entry_eq]
  generalize (lg_sl ([.ref a.1, .int p0, .int p1]) ++ List.replicate (5 - (lg_sl ([.ref a.1, .int p0, .int p1])).length) Slot.unset).toArray = ls at hl ⊢
  have hl : lv_has ls 5 [(0, .ref a.1), (1, .int p0), (2, .int p1)] := hl
  obtain ⟨taken, tail, alike, last, check, chkTaken, sizePl, chkPl, fr⟩ := S
  clear hAe hD0
  generalize hL0 : ([] : List Loc) = locs at hS ⊢
  unfold wp_X3_takeHead at hf
  refine lv_iload_n hx hb dX3_takeHead_0 rfl (lv_at hl 1 rfl) ?_
  refine lv_iconst (v := 1) hx hb dX3_takeHead_1 (by decide) ?_
  refine lv_icmp_lt (tgt := 15) hx hb dX3_takeHead_2 (by decide) (fun c1 => ?_) (fun c1 => ?_)
  · replace hf := hf.1 c1
    exact j_X3_takeHead_15 C0 a K (taken, tail, alike, last, check, chkTaken, sizePl, chkPl, fr) p0 p1 s.heap locs ls hP hD hS (lv_sub hl [0, 1, 2] rfl) hf
  · replace hf := hf.2 c1
    refine lv_iload_n hx hb dX3_takeHead_5 rfl (lv_at hl 1 rfl) ?_
    refine lv_bipush (v := 11) hx hb dX3_takeHead_6 (by decide) ?_
    refine lv_icmp_gt (tgt := 15) hx hb dX3_takeHead_8 (by decide) (fun c9 => ?_) (fun c9 => ?_)
    · replace hf := hf.1 c9
      exact j_X3_takeHead_15 C0 a K (taken, tail, alike, last, check, chkTaken, sizePl, chkPl, fr) p0 p1 s.heap locs ls hP hD hS (lv_sub hl [0, 1, 2] rfl) hf
    · replace hf := hf.2 c9
      refine lv_iconst (v := 1) hx hb dX3_takeHead_11 (by decide) ?_
      refine lv_goto (tgt := 16) hx hb dX3_takeHead_12 (by decide) ?_
      exact j_X3_takeHead_16 C0 a K (taken, tail, alike, last, check, chkTaken, sizePl, chkPl, fr) p0 p1 1 s.heap locs ls hP hD hS (lv_sub hl [0, 1, 2] rfl) hf

def wp_X3_takeSize : ReaderS → Int32 → Int32 → (ReaderS → Prop) → Prop := fun (taken, tail, alike, last, check, chkTaken, sizePl, chkPl, fr) p0 p1 K => ((¬ p0 = (sizePl + 4) - 1 → K (taken, tail, alike, last, check, chkTaken, sizePl, chkPl, (fr.1, fr.2.1, fr.2.2.1, (fr.2.2.2 <<< (1 &&& 31)) ||| p1))) ∧ (p0 = (sizePl + 4) - 1 → (∀ n2 : Int32, n2 = (if (8 : Int32) < (fr.2.2.2 <<< (1 &&& 31)) ||| p1 then (8 : Int32) else (fr.2.2.2 <<< (1 &&& 31)) ||| p1) → K (taken, tail, alike, last, check, chkTaken, sizePl, (sizePl + 4) + (8 * n2), (fr.1, fr.2.1, fr.2.2.1, n2)))))
set_option maxHeartbeats 4000000 in
set_option maxRecDepth 100000 in
theorem c_X3_takeSize (l : Launch) (dC : Nat → ClassId) (dI : Nat → Nat → Nat) (y : Nat → ClassId) (a : ReaderA) (sz : Nat) (S : ReaderS) (p0 : Int32) (p1 : Int32) (K : ReaderS → Prop) (hf : wp_X3_takeSize S p0 p1 K) : MV l yX3_takeSize wsX3_takeSize { frames := 1, cells := 0, slots := 0, locals := 21 } dC dI y [.ref a.1, .int p0, .int p1] (rdW a S) sz (fun u => rdW a u) K := by
  refine Met.ofW (cc := cX3_takeSize) (maxL := 3) (ret := none) (by decide) rfl ?_
  intro p e s m args below meth c s₁ B hml hv
  obtain ⟨rfl, hsz, hP, hK, hD0⟩ := hv
  have hx := B.exec
  have hb := B.bytes
  have hr := B.returns
  have hts := atoms_spec (ws := wsX3_takeSize) B.pre
  have hown : s.vm.findClass RX3 = some m.cls := findClass_of_methodNamed B.named
  have hlocks := B.notSynchronized
  subst hsz
  have hD := hD0.self (sz := s.heap.size)
  generalize hAe : va_A (rdW a S) s.heap.size = A at hD ⊢
  have hA : ∀ q : Nat, s.heap.size ≤ q → A q := fun q h => by rw [← hAe]; exact Or.inr h
  have hS : va_S A s.heap s.heap [] := va_S.rf
  have C0 : Cx p s m [.ref a.1, .int p0, .int p1].toArray meth c cX3_takeSize 3 none wsX3_takeSize RX3 A dC dI y := ⟨hx, hb, hr, hml, hown, hts, hlocks, hA, hK⟩
  have w12 := hts (.fieldLink RX3 12 "SharedWire$Reader" "frame" "LSharedWire$Frame;") (List.mem_of_getElem? (i := 1) rfl)
  have w37 := hts (.fieldLink RX3 37 "SharedWire$Reader" "sizePlace" "I") (List.mem_of_getElem? (i := 3) rfl)
  have w40 := hts (.fieldLink RX3 40 "SharedWire$Reader" "checkPlace" "I") (List.mem_of_getElem? (i := 8) rfl)
  have w80 := hts (.fieldLink RX3 80 "SharedWire$Frame" "size" "I") (List.mem_of_getElem? (i := 2) rfl)
  have w83 := hts (.methodLink RX3 83 Lib.Math.min.name) (List.mem_of_getElem? (i := 4) rfl)
  have hinX0 : ∀ w ∈ wsX00, w ∈ wsX3_takeSize := fun w h => List.mem_cons_of_mem _ (List.mem_append_right _ (h))
  have hinX3 : ∀ w ∈ wsX30, w ∈ wsX3_takeSize := fun w h => List.mem_cons_of_mem _ (List.mem_append_left _ (List.mem_append_right _ (h)))
  have hl := lv_entry ([.ref a.1, .int p0, .int p1]) (n := 3) (Nat.le_of_ble_eq_true rfl)
  rw [lg_entry_eq]
  generalize (lg_sl ([.ref a.1, .int p0, .int p1]) ++ List.replicate (3 - (lg_sl ([.ref a.1, .int p0, .int p1])).length) Slot.unset).toArray = ls at hl ⊢
  have hl : lv_has ls 3 [(0, .ref a.1), (1, .int p0), (2, .int p1)] := hl
  obtain ⟨taken, tail, alike, last, check, chkTaken, sizePl, chkPl, fr⟩ := S
  clear hAe hD0
  generalize hL0 : ([] : List Loc) = locs at hS ⊢
  unfold wp_X3_takeSize at hf
  refine lv_aload_n hx hb dX3_takeSize_0 rfl (lv_at hl 0 rfl) ?_
  refine va_get (D := (dC, dI)) (ci := 3) (v := .ref a.2) (C := RX3) (T := TX3) (N := 9) hx hb hts hinX3 hown hK.1 hP 0 rfl rfl 0 (by decide) w12 (fun _ h9 => h9) rfl dX3_takeSize_1 ?_
  refine lv_aload_n hx hb dX3_takeSize_4 rfl (lv_at hl 0 rfl) ?_
  refine va_get (D := (dC, dI)) (ci := 3) (v := .ref a.2) (C := RX3) (T := TX3) (N := 9) hx hb hts hinX3 hown hK.1 hP 0 rfl rfl 0 (by decide) w12 (fun _ h9 => h9) rfl dX3_takeSize_5 ?_
  refine va_get (D := (dC, dI)) (ci := 0) (v := .int fr.2.2.2) (C := RX0) (T := TX0) (N := 4) hx hb hts hinX0 hown hK.1 hP 1 rfl rfl 3 (by decide) w80 (fun _ h9 => h9) rfl dX3_takeSize_8 ?_
  refine lv_iconst (v := 1) hx hb dX3_takeSize_11 (by decide) ?_
  refine lv_ishl hx hb dX3_takeSize_12 ?_
  refine lv_iload_n hx hb dX3_takeSize_13 rfl (lv_at hl 2 rfl) ?_
  refine lv_ior hx hb dX3_takeSize_14 ?_
  refine va_put (D := (dC, dI)) (ci := 0) (v := .int ((fr.2.2.2 <<< (1 &&& 31)) ||| p1)) (ty := .int) (C := RX0) (T := TX0) (N := 4) hx hb hts hinX0 tyX0 tyX0_ok nmX0 hown hK.1 hP hD hS 1 rfl rfl 3 (by decide) w80 (fun _ h9 => h9) rfl (by decide +kernel) rfl rfl (Nat.le_of_ble_eq_true rfl) dX3_takeSize_15 (fun H locs hP hD hS => ?_)
  have hP : va_P (dC, dI) vwCl (rdW a (taken, tail, alike, last, check, chkTaken, sizePl, chkPl, (fr.1, fr.2.1, fr.2.2.1, (fr.2.2.2 <<< (1 &&& 31)) ||| p1))) H := hP
  have hD : va_D A (rdW a (taken, tail, alike, last, check, chkTaken, sizePl, chkPl, (fr.1, fr.2.1, fr.2.2.1, (fr.2.2.2 <<< (1 &&& 31)) ||| p1))) := hD
  refine lv_iload_n hx hb dX3_takeSize_18 rfl (lv_at hl 1 rfl) ?_
  refine lv_aload_n hx hb dX3_takeSize_19 rfl (lv_at hl 0 rfl) ?_
  refine va_get (D := (dC, dI)) (ci := 3) (v := .int sizePl) (C := RX3) (T := TX3) (N := 9) hx hb hts hinX3 hown hK.1 hP 0 rfl rfl 7 (by decide) w37 (fun _ h9 => h9) rfl dX3_takeSize_20 ?_
  refine lv_iconst (v := 4) hx hb dX3_takeSize_23 (by decide) ?_
  refine lv_iadd hx hb dX3_takeSize_24 ?_
  refine lv_iconst (v := 1) hx hb dX3_takeSize_25 (by decide) ?_
  refine lv_isub hx hb dX3_takeSize_26 ?_
  refine lv_icmp_ne (tgt := 70) hx hb dX3_takeSize_27 (by decide) (fun c1 => ?_) (fun c1 => ?_)
  · replace hf := hf.1 c1
    exact W.vret hx hb hr (fun t ht hW => ⟨⟨(taken, tail, alike, last, check, chkTaken, sizePl, chkPl, (fr.1, fr.2.1, fr.2.2.1, (fr.2.2.2 <<< (1 &&& 31)) ||| p1)), rfl, hf, by rw [ht]; exact hP, hD⟩, hS.F ht⟩) hS.2.2 dX3_takeSize_70
  · replace hf := hf.2 c1
    refine lv_aload_n hx hb dX3_takeSize_30 rfl (lv_at hl 0 rfl) ?_
    refine va_get (D := (dC, dI)) (ci := 3) (v := .ref a.2) (C := RX3) (T := TX3) (N := 9) hx hb hts hinX3 hown hK.1 hP 0 rfl rfl 0 (by decide) w12 (fun _ h9 => h9) rfl dX3_takeSize_31 ?_
    refine lv_aload_n hx hb dX3_takeSize_34 rfl (lv_at hl 0 rfl) ?_
    refine va_get (D := (dC, dI)) (ci := 3) (v := .ref a.2) (C := RX3) (T := TX3) (N := 9) hx hb hts hinX3 hown hK.1 hP 0 rfl rfl 0 (by decide) w12 (fun _ h9 => h9) rfl dX3_takeSize_35 ?_
    refine va_get (D := (dC, dI)) (ci := 0) (v := .int ((fr.2.2.2 <<< (1 &&& 31)) ||| p1)) (C := RX0) (T := TX0) (N := 4) hx hb hts hinX0 hown hK.1 hP 1 rfl rfl 3 (by decide) w80 (fun _ h9 => h9) rfl dX3_takeSize_38 ?_
    refine lv_bipush (v := 8) hx hb dX3_takeSize_41 (by decide) ?_
    refine va_mmin hx hb (hml.trans hl.1.symm) hown w83 (hts (.static Lib.Math.min.name) (List.mem_of_getElem? (i := 5) rfl)) (hts (.initialized "java/lang/Math") (List.mem_of_getElem? (i := 6) rfl)) (hts (.code Lib.Math.min.name Lib.Math.min.code 2 (some .int)) (List.mem_of_getElem? (i := 7) rfl)) (Nat.le_of_ble_eq_true rfl) (Nat.le_of_ble_eq_true rfl) (Nat.zero_le _) (Nat.zero_le _) dX3_takeSize_43 ?_
    refine lv_topi (fun n2 en2 => ?_)
    replace hf := hf n2 en2
    refine va_put (D := (dC, dI)) (ci := 0) (v := .int n2) (ty := .int) (C := RX0) (T := TX0) (N := 4) hx hb hts hinX0 tyX0 tyX0_ok nmX0 hown hK.1 hP hD hS 1 rfl rfl 3 (by decide) w80 (fun _ h9 => h9) rfl (by decide +kernel) rfl rfl (Nat.le_of_ble_eq_true rfl) dX3_takeSize_46 (fun H locs hP hD hS => ?_)
    have hP : va_P (dC, dI) vwCl (rdW a (taken, tail, alike, last, check, chkTaken, sizePl, chkPl, (fr.1, fr.2.1, fr.2.2.1, n2))) H := hP
    have hD : va_D A (rdW a (taken, tail, alike, last, check, chkTaken, sizePl, chkPl, (fr.1, fr.2.1, fr.2.2.1, n2))) := hD
    refine lv_aload_n hx hb dX3_takeSize_49 rfl (lv_at hl 0 rfl) ?_
    refine lv_aload_n hx hb dX3_takeSize_50 rfl (lv_at hl 0 rfl) ?_
    refine va_get (D := (dC, dI)) (ci := 3) (v := .int sizePl) (C := RX3) (T := TX3) (N := 9) hx hb hts hinX3 hown hK.1 hP 0 rfl rfl 7 (by decide) w37 (fun _ h9 => h9) rfl dX3_takeSize_51 ?_
    refine lv_iconst (v := 4) hx hb dX3_takeSize_54 (by decide) ?_
    refine lv_iadd hx hb dX3_takeSize_55 ?_
    refine lv_bipush (v := 8) hx hb dX3_takeSize_56 (by decide) ?_
    refine lv_aload_n hx hb dX3_takeSize_58 rfl (lv_at hl 0 rfl) ?_
    refine va_get (D := (dC, dI)) (ci := 3) (v := .ref a.2) (C := RX3) (T := TX3) (N := 9) hx hb hts hinX3 hown hK.1 hP 0 rfl rfl 0 (by decide) w12 (fun _ h9 => h9) rfl dX3_takeSize_59 ?_
    refine va_get (D := (dC, dI)) (ci := 0) (v := .int n2) (C := RX0) (T := TX0) (N := 4) hx hb hts hinX0 hown hK.1 hP 1 rfl rfl 3 (by decide) w80 (fun _ h9 => h9) rfl dX3_takeSize_62 ?_
    refine lv_imul hx hb dX3_takeSize_65 ?_
    refine lv_iadd hx hb dX3_takeSize_66 ?_
    refine va_put (D := (dC, dI)) (ci := 3) (v := .int ((sizePl + 4) + (8 * n2))) (ty := .int) (C := RX3) (T := TX3) (N := 9) hx hb hts hinX3 tyX3 tyX3_ok nmX3 hown hK.1 hP hD hS 0 rfl rfl 8 (by decide) w40 (fun _ h9 => h9) rfl (by decide +kernel) rfl rfl (Nat.le_of_ble_eq_true rfl) dX3_takeSize_67 (fun H locs hP hD hS => ?_)
    have hP : va_P (dC, dI) vwCl (rdW a (taken, tail, alike, last, check, chkTaken, sizePl, (sizePl + 4) + (8 * n2), (fr.1, fr.2.1, fr.2.2.1, n2))) H := hP
    have hD : va_D A (rdW a (taken, tail, alike, last, check, chkTaken, sizePl, (sizePl + 4) + (8 * n2), (fr.1, fr.2.1, fr.2.2.1, n2))) := hD
    exact W.vret hx hb hr (fun t ht hW => ⟨⟨(taken, tail, alike, last, check, chkTaken, sizePl, (sizePl + 4) + (8 * n2), (fr.1, fr.2.1, fr.2.2.1, n2)), rfl, hf, by rw [ht]; exact hP, hD⟩, hS.F ht⟩) hS.2.2 dX3_takeSize_70

def wp_X3_takeData : ReaderS → Int32 → Int32 → (ReaderS → Prop) → Prop := fun (taken, tail, alike, last, check, chkTaken, sizePl, chkPl, fr) p0 p1 K => (∀ n1 : Int32, n1 = (p0 / 8) * 8 → (∀ n2 : Int32, n2 = ((n1 + 8) - 1) - (p0 - p0 / 8 * 8) → K (taken, tail, alike, last, check, chkTaken, sizePl, chkPl, (fr.1, fr.2.1, fr.2.2.1 ||| (p1.toInt64 <<< (n2.toInt64 &&& 63)), fr.2.2.2))))
set_option maxHeartbeats 4000000 in
set_option maxRecDepth 100000 in
theorem c_X3_takeData (l : Launch) (dC : Nat → ClassId) (dI : Nat → Nat → Nat) (y : Nat → ClassId) (a : ReaderA) (sz : Nat) (S : ReaderS) (p0 : Int32) (p1 : Int32) (K : ReaderS → Prop) (hf : wp_X3_takeData S p0 p1 K) : MV l yX3_takeData wsX3_takeData { frames := 0, cells := 0, slots := 0, locals := 0 } dC dI y [.ref a.1, .int p0, .int p1] (rdW a S) sz (fun u => rdW a u) K := by
  refine Met.ofW (cc := cX3_takeData) (maxL := 5) (ret := none) (by decide) rfl ?_
  intro p e s m args below meth c s₁ B hml hv
  obtain ⟨rfl, hsz, hP, hK, hD0⟩ := hv
  have hx := B.exec
  have hb := B.bytes
  have hr := B.returns
  have hts := atoms_spec (ws := wsX3_takeData) B.pre
  have hown : s.vm.findClass RX3 = some m.cls := findClass_of_methodNamed B.named
  have hlocks := B.notSynchronized
  subst hsz
  have hD := hD0.self (sz := s.heap.size)
  generalize hAe : va_A (rdW a S) s.heap.size = A at hD ⊢
  have hA : ∀ q : Nat, s.heap.size ≤ q → A q := fun q h => by rw [← hAe]; exact Or.inr h
  have hS : va_S A s.heap s.heap [] := va_S.rf
  have C0 : Cx p s m [.ref a.1, .int p0, .int p1].toArray meth c cX3_takeData 5 none wsX3_takeData RX3 A dC dI y := ⟨hx, hb, hr, hml, hown, hts, hlocks, hA, hK⟩
  have w12 := hts (.fieldLink RX3 12 "SharedWire$Reader" "frame" "LSharedWire$Frame;") (List.mem_of_getElem? (i := 1) rfl)
  have w88 := hts (.fieldLink RX3 88 "SharedWire$Frame" "data" "J") (List.mem_of_getElem? (i := 2) rfl)
  have hinX0 : ∀ w ∈ wsX00, w ∈ wsX3_takeData := fun w h => List.mem_cons_of_mem _ (List.mem_append_right _ (h))
  have hinX3 : ∀ w ∈ wsX30, w ∈ wsX3_takeData := fun w h => List.mem_cons_of_mem _ (List.mem_append_left _ (List.mem_append_right _ (h)))
  have hl := lv_entry ([.ref a.1, .int p0, .int p1]) (n := 5) (Nat.le_of_ble_eq_true rfl)
  rw [lg_entry_eq]
  generalize (lg_sl ([.ref a.1, .int p0, .int p1]) ++ List.replicate (5 - (lg_sl ([.ref a.1, .int p0, .int p1])).length) Slot.unset).toArray = ls at hl ⊢
  have hl : lv_has ls 5 [(0, .ref a.1), (1, .int p0), (2, .int p1)] := hl
  obtain ⟨taken, tail, alike, last, check, chkTaken, sizePl, chkPl, fr⟩ := S
  clear hAe hD0
  generalize hL0 : ([] : List Loc) = locs at hS ⊢
  unfold wp_X3_takeData at hf
  refine lv_iload_n hx hb dX3_takeData_0 rfl (lv_at hl 1 rfl) ?_
  refine lv_bipush (v := 8) hx hb dX3_takeData_1 (by decide) ?_
  refine lv_idiv hx hb dX3_takeData_3 (by decide) ?_
  refine lv_bipush (v := 8) hx hb dX3_takeData_4 (by decide) ?_
  refine lv_imul hx hb dX3_takeData_6 ?_
  refine lv_topi (fun n1 en1 => ?_)
  replace hf := hf n1 en1
  refine lv_istore_n (lv' := [(3, .int n1), (0, .ref a.1), (1, .int p0), (2, .int p1)]) hx hb dX3_takeData_7 rfl hl (by decide) rfl (fun ls hl => ?_)
  refine lv_iload_n hx hb dX3_takeData_8 rfl (lv_at hl 0 rfl) ?_
  refine lv_bipush (v := 8) hx hb dX3_takeData_9 (by decide) ?_
  refine lv_iadd hx hb dX3_takeData_11 ?_
  refine lv_iconst (v := 1) hx hb dX3_takeData_12 (by decide) ?_
  refine lv_isub hx hb dX3_takeData_13 ?_
  refine lv_iload_n hx hb dX3_takeData_14 rfl (lv_at hl 2 rfl) ?_
  refine lv_bipush (v := 8) hx hb dX3_takeData_15 (by decide) ?_
  refine lv_irem hx hb dX3_takeData_17 (by decide) ?_
  refine lv_isub hx hb dX3_takeData_18 ?_
  refine lv_topi (fun n2 en2 => ?_)
  replace hf := hf n2 en2
  refine lv_istore (lv' := [(4, .int n2), (3, .int n1), (0, .ref a.1), (1, .int p0), (2, .int p1)]) hx hb dX3_takeData_19 hl (by decide) rfl (fun ls hl => ?_)
  refine lv_aload_n hx hb dX3_takeData_21 rfl (lv_at hl 2 rfl) ?_
  refine va_get (D := (dC, dI)) (ci := 3) (v := .ref a.2) (C := RX3) (T := TX3) (N := 9) hx hb hts hinX3 hown hK.1 hP 0 rfl rfl 0 (by decide) w12 (fun _ h9 => h9) rfl dX3_takeData_22 ?_
  refine lv_dup hx hb dX3_takeData_25 rfl ?_
  refine va_get (D := (dC, dI)) (ci := 0) (v := .long fr.2.2.1) (C := RX0) (T := TX0) (N := 4) hx hb hts hinX0 hown hK.1 hP 1 rfl rfl 2 (by decide) w88 (fun _ h9 => h9) rfl dX3_takeData_26 ?_
  refine lv_iload_n hx hb dX3_takeData_29 rfl (lv_at hl 4 rfl) ?_
  refine lv_i2l (v := p1.toInt64) hx hb dX3_takeData_30 rfl ?_
  refine lv_iload hx hb dX3_takeData_31 (lv_at hl 0 rfl) ?_
  refine lv_lshl (v := p1.toInt64 <<< (n2.toInt64 &&& 63)) hx hb dX3_takeData_33 rfl ?_
  refine lv_lor hx hb dX3_takeData_34 ?_
  refine va_put (D := (dC, dI)) (ci := 0) (v := .long (fr.2.2.1 ||| (p1.toInt64 <<< (n2.toInt64 &&& 63)))) (ty := .long) (C := RX0) (T := TX0) (N := 4) hx hb hts hinX0 tyX0 tyX0_ok nmX0 hown hK.1 hP hD hS 1 rfl rfl 2 (by decide) w88 (fun _ h9 => h9) rfl (by decide +kernel) rfl rfl (Nat.le_of_ble_eq_true rfl) dX3_takeData_35 (fun H locs hP hD hS => ?_)
  have hP : va_P (dC, dI) vwCl (rdW a (taken, tail, alike, last, check, chkTaken, sizePl, chkPl, (fr.1, fr.2.1, fr.2.2.1 ||| (p1.toInt64 <<< (n2.toInt64 &&& 63)), fr.2.2.2))) H := hP
  have hD : va_D A (rdW a (taken, tail, alike, last, check, chkTaken, sizePl, chkPl, (fr.1, fr.2.1, fr.2.2.1 ||| (p1.toInt64 <<< (n2.toInt64 &&& 63)), fr.2.2.2))) := hD
  exact W.vret hx hb hr (fun t ht hW => ⟨⟨(taken, tail, alike, last, check, chkTaken, sizePl, chkPl, (fr.1, fr.2.1, fr.2.2.1 ||| (p1.toInt64 <<< (n2.toInt64 &&& 63)), fr.2.2.2)), rfl, hf, by rw [ht]; exact hP, hD⟩, hS.F ht⟩) hS.2.2 dX3_takeData_38

def wp_X3_takeFramed : ReaderS → Int32 → (ReaderS → Prop) → Prop := fun (taken, tail, alike, last, check, chkTaken, sizePl, chkPl, fr) p0 K => ((taken < chkPl → wp_X4_nextCheck check p0 (fun r2 => ((sizePl ≤ taken → ((sizePl + 4 ≤ taken → wp_X3_takeData (taken + 1, tail, alike, last, r2, chkTaken, sizePl, chkPl, fr) ((taken - sizePl) - 4) p0 (fun u5 => K u5)) ∧ (¬ sizePl + 4 ≤ taken → wp_X3_takeSize (taken + 1, tail, alike, last, r2, chkTaken, sizePl, chkPl, fr) taken p0 (fun u6 => K u6)))) ∧ (¬ sizePl ≤ taken → wp_X3_takeHead (taken + 1, tail, alike, last, r2, chkTaken, sizePl, chkPl, fr) taken p0 (fun u7 => K u7))))) ∧ (¬ taken < chkPl → K (taken + 1, tail, alike, last, check, (chkTaken <<< (1 &&& 31)) ||| p0, sizePl, chkPl, fr)))
set_option maxHeartbeats 4000000 in
set_option maxRecDepth 100000 in
theorem c_X3_takeFramed (l : Launch) (dC : Nat → ClassId) (dI : Nat → Nat → Nat) (y : Nat → ClassId) (a : ReaderA) (sz : Nat) (S : ReaderS) (p0 : Int32) (K : ReaderS → Prop) (hf : wp_X3_takeFramed S p0 K) : MV l yX3_takeFramed wsX3_takeFramed { frames := 2, cells := 0, slots := 0, locals := 43 } dC dI y [.ref a.1, .int p0] (rdW a S) sz (fun u => rdW a u) K := by
  refine Met.ofW (cc := cX3_takeFramed) (maxL := 3) (ret := none) (by decide) rfl ?_
  intro p e s m args below meth c s₁ B hml hv
  obtain ⟨rfl, hsz, hP, hK, hD0⟩ := hv
  have hx := B.exec
  have hb := B.bytes
  have hr := B.returns
  have hts := atoms_spec (ws := wsX3_takeFramed) B.pre
  have hown : s.vm.findClass RX3 = some m.cls := findClass_of_methodNamed B.named
  have hlocks := B.notSynchronized
  subst hsz
  have hD := hD0.self (sz := s.heap.size)
  generalize hAe : va_A (rdW a S) s.heap.size = A at hD ⊢
  have hA : ∀ q : Nat, s.heap.size ≤ q → A q := fun q h => by rw [← hAe]; exact Or.inr h
  have hS : va_S A s.heap s.heap [] := va_S.rf
  have C0 : Cx p s m [.ref a.1, .int p0].toArray meth c cX3_takeFramed 3 none wsX3_takeFramed RX3 A dC dI y := ⟨hx, hb, hr, hml, hown, hts, hlocks, hA, hK⟩
  have w18 := hts (Cond.fieldLink RX3 18 "SharedWire$Reader" "taken" "I") (List.mem_of_getElem? (i := 1) rfl)
  have w31 := hts (Cond.fieldLink RX3 31 "SharedWire$Reader" "check" "I") (List.mem_of_getElem? (i := 4) rfl)
  have w34 := hts (Cond.fieldLink RX3 34 "SharedWire$Reader" "checkTaken" "I") (List.mem_of_getElem? (i := 3) rfl)
  have w37 := hts (Cond.fieldLink RX3 37 "SharedWire$Reader" "sizePlace" "I") (List.mem_of_getElem? (i := 5) rfl)
  have w40 := hts (Cond.fieldLink RX3 40 "SharedWire$Reader" "checkPlace" "I") (List.mem_of_getElem? (i := 2) rfl)
  have hinX3 : ∀ w ∈ wsX30, w ∈ wsX3_takeFramed := fun w h => List.mem_cons_of_mem _ (List.mem_append_left _ (List.mem_append_right _ (h)))
  have hl := lv_entry ([.ref a.1, .int p0]) (n := 3) (Nat.le_of_ble_eq_true rfl)
  rw [lg_entry_eq]
  generalize (lg_sl ([.ref a.1, .int p0]) ++ List.replicate (3 - (lg_sl ([.ref a.1, .int p0])).length) Slot.unset).toArray = ls at hl ⊢
  have hl : lv_has ls 3 [(0, .ref a.1), (1, .int p0)] := hl
  obtain ⟨taken, tail, alike, last, check, chkTaken, sizePl, chkPl, fr⟩ := S
  clear hAe hD0
  generalize hL0 : ([] : List Loc) = locs at hS ⊢
  unfold wp_X3_takeFramed at hf
  refine lv_aload_n hx hb dX3_takeFramed_0 rfl (lv_at hl 0 rfl) ?_
  refine va_get (D := (dC, dI)) (ci := 3) (v := .int taken) (C := RX3) (T := TX3) (N := 9) hx hb hts hinX3 hown hK.1 hP 0 rfl rfl 1 (by decide) w18 (fun _ h9 => h9) rfl dX3_takeFramed_1 ?_
  refine lv_istore_n (lv' := [(2, .int taken), (0, .ref a.1), (1, .int p0)]) hx hb dX3_takeFramed_4 rfl hl (by decide) rfl (fun ls hl => ?_)
  refine lv_aload_n hx hb dX3_takeFramed_5 rfl (lv_at hl 1 rfl) ?_
  refine lv_dup hx hb dX3_takeFramed_6 rfl ?_
  refine va_get (D := (dC, dI)) (ci := 3) (v := .int taken) (C := RX3) (T := TX3) (N := 9) hx hb hts hinX3 hown hK.1 hP 0 rfl rfl 1 (by decide) w18 (fun _ h9 => h9) rfl dX3_takeFramed_7 ?_
  refine lv_iconst (v := 1) hx hb dX3_takeFramed_10 (by decide) ?_
  refine lv_iadd hx hb dX3_takeFramed_11 ?_
  refine va_put (D := (dC, dI)) (ci := 3) (v := .int (taken + 1)) (ty := .int) (C := RX3) (T := TX3) (N := 9) hx hb hts hinX3 tyX3 tyX3_ok nmX3 hown hK.1 hP hD hS 0 rfl rfl 1 (by decide) w18 (fun _ h9 => h9) rfl (by decide +kernel) rfl rfl (Nat.le_of_ble_eq_true rfl) dX3_takeFramed_12 (fun H locs hP hD hS => ?_)
  have hP : va_P (dC, dI) vwCl (rdW a (taken + 1, tail, alike, last, check, chkTaken, sizePl, chkPl, fr)) H := hP
  have hD : va_D A (rdW a (taken + 1, tail, alike, last, check, chkTaken, sizePl, chkPl, fr)) := hD
  refine lv_iload_n hx hb dX3_takeFramed_15 rfl (lv_at hl 0 rfl) ?_
  refine lv_aload_n hx hb dX3_takeFramed_16 rfl (lv_at hl 1 rfl) ?_
  refine va_get (D := (dC, dI)) (ci := 3) (v := .int chkPl) (C := RX3) (T := TX3) (N := 9) hx hb hts hinX3 hown hK.1 hP 0 rfl rfl 8 (by decide) w40 (fun _ h9 => h9) rfl dX3_takeFramed_17 ?_
  refine lv_icmp_lt (tgt := 36) hx hb dX3_takeFramed_20 (by decide) (fun c1 => ?_) (fun c1 => ?_)
  · replace hf := hf.1 c1
    refine lv_aload_n hx hb dX3_takeFramed_36 rfl (lv_at hl 1 rfl) ?_
    refine lv_aload_n hx hb dX3_takeFramed_37 rfl (lv_at hl 1 rfl) ?_
    refine va_get (D := (dC, dI)) (ci := 3) (v := .int check) (C := RX3) (T := TX3) (N := 9) hx hb hts hinX3 hown hK.1 hP 0 rfl rfl 5 (by decide) w31 (fun _ h9 => h9) rfl dX3_takeFramed_38 ?_
    refine lv_iload_n hx hb dX3_takeFramed_41 rfl (lv_at hl 2 rfl) ?_
    refine kSNi (As := [.int check, .int p0]) (rest := [.ref a.1]) ⟨hx, hb, hml, hown, hts⟩ (c_X4_nextCheck l dC dI y H.size check p0 _ hf) ⟨va_cnB 2 hts gX3_takeFramed_X4_nextCheck_n59 rfl rfl rfl hK.2.2.2.2.2.2.2.1 (hts (.initialized RX4) (List.mem_of_getElem? (i := 7) rfl)) (by decide +kernel) ⟨Nat.le_of_ble_eq_true rfl, Nat.le_of_ble_eq_true rfl⟩, hts (.static yX4_nextCheck) (List.mem_of_getElem? (i := 6) rfl), trivial⟩ hK hP hD hS hA rfl hl.1 rfl (Nat.le_of_ble_eq_true rfl) dX3_takeFramed_42 ⟨Nat.zero_le _, Nat.zero_le _⟩ (fun r2 H locs hf hP hD hS => ?_)
    refine va_put (D := (dC, dI)) (ci := 3) (v := .int r2) (ty := .int) (C := RX3) (T := TX3) (N := 9) hx hb hts hinX3 tyX3 tyX3_ok nmX3 hown hK.1 hP hD hS 0 rfl rfl 5 (by decide) w31 (fun _ h9 => h9) rfl (by decide +kernel) rfl rfl (Nat.le_of_ble_eq_true rfl) dX3_takeFramed_45 (fun H locs hP hD hS => ?_)
    have hP : va_P (dC, dI) vwCl (rdW a (taken + 1, tail, alike, last, r2, chkTaken, sizePl, chkPl, fr)) H := hP
    have hD : va_D A (rdW a (taken + 1, tail, alike, last, r2, chkTaken, sizePl, chkPl, fr)) := hD
    refine lv_iload_n hx hb dX3_takeFramed_48 rfl (lv_at hl 0 rfl) ?_
    refine lv_aload_n hx hb dX3_takeFramed_49 rfl (lv_at hl 1 rfl) ?_
    refine va_get (D := (dC, dI)) (ci := 3) (v := .int sizePl) (C := RX3) (T := TX3) (N := 9) hx hb hts hinX3 hown hK.1 hP 0 rfl rfl 7 (by decide) w37 (fun _ h9 => h9) rfl dX3_takeFramed_50 ?_
    refine lv_icmp_ge (tgt := 65) hx hb dX3_takeFramed_53 (by decide) (fun c3 => ?_) (fun c3 => ?_)
    · replace hf := hf.1 c3
      refine lv_iload_n hx hb dX3_takeFramed_65 rfl (lv_at hl 0 rfl) ?_
      refine lv_aload_n hx hb dX3_takeFramed_66 rfl (lv_at hl 1 rfl) ?_
      refine va_get (D := (dC, dI)) (ci := 3) (v := .int sizePl) (C := RX3) (T := TX3) (N := 9) hx hb hts hinX3 hown hK.1 hP 0 rfl rfl 7 (by decide) w37 (fun _ h9 => h9) rfl dX3_takeFramed_67 ?_
      refine lv_iconst (v := 4) hx hb dX3_takeFramed_70 (by decide) ?_
      refine lv_iadd hx hb dX3_takeFramed_71 ?_
      refine lv_icmp_ge (tgt := 84) hx hb dX3_takeFramed_72 (by decide) (fun c4 => ?_) (fun c4 => ?_)
      · replace hf := hf.1 c4
        refine lv_aload_n hx hb dX3_takeFramed_84 rfl (lv_at hl 1 rfl) ?_
        refine lv_iload_n hx hb dX3_takeFramed_85 rfl (lv_at hl 0 rfl) ?_
        refine lv_aload_n hx hb dX3_takeFramed_86 rfl (lv_at hl 1 rfl) ?_
        refine va_get (D := (dC, dI)) (ci := 3) (v := .int sizePl) (C := RX3) (T := TX3) (N := 9) hx hb hts hinX3 hown hK.1 hP 0 rfl rfl 7 (by decide) w37 (fun _ h9 => h9) rfl dX3_takeFramed_87 ?_
        refine lv_isub hx hb dX3_takeFramed_90 ?_
        refine lv_iconst (v := 4) hx hb dX3_takeFramed_91 (by decide) ?_
        refine lv_isub hx hb dX3_takeFramed_92 ?_
        refine lv_iload_n hx hb dX3_takeFramed_93 rfl (lv_at hl 2 rfl) ?_
        refine k0v (As := [.int ((taken - sizePl) - 4), .int p0]) (rest := []) ⟨hx, hb, hml, hown, hts⟩ (c_X3_takeData l dC dI y a H.size (taken + 1, tail, alike, last, r2, chkTaken, sizePl, chkPl, fr) ((taken - sizePl) - 4) p0 _ hf) (cwV 2 hts gX3_takeFramed_X3_takeData rfl rfl rfl (by decide +kernel) ⟨Nat.le_of_ble_eq_true rfl, Nat.le_of_ble_eq_true rfl⟩) hK hP hD (va_recv hK.1 hP (ci := 3) (q0 := 0) rfl rfl) hS hA rfl hl.1 rfl (Nat.le_of_ble_eq_true rfl) dX3_takeFramed_94 ⟨Nat.zero_le _, Nat.zero_le _⟩ (fun u5 H locs hf hP hD hS => ?_)
        have hP : va_P (dC, dI) vwCl (rdW a u5) H := hP
        have hD : va_D A (rdW a u5) := hD
        exact W.vret hx hb hr (fun t ht hW => ⟨⟨u5, rfl, hf, by rw [ht]; exact hP, hD⟩, hS.F ht⟩) hS.2.2 dX3_takeFramed_97
      · replace hf := hf.2 c4
        refine lv_aload_n hx hb dX3_takeFramed_75 rfl (lv_at hl 1 rfl) ?_
        refine lv_iload_n hx hb dX3_takeFramed_76 rfl (lv_at hl 0 rfl) ?_
        refine lv_iload_n hx hb dX3_takeFramed_77 rfl (lv_at hl 2 rfl) ?_
        refine k0v (As := [.int taken, .int p0]) (rest := []) ⟨hx, hb, hml, hown, hts⟩ (c_X3_takeSize l dC dI y a H.size (taken + 1, tail, alike, last, r2, chkTaken, sizePl, chkPl, fr) taken p0 _ hf) (cwV 2 hts gX3_takeFramed_X3_takeSize rfl rfl rfl (by decide +kernel) ⟨Nat.le_of_ble_eq_true rfl, Nat.le_of_ble_eq_true rfl⟩) hK hP hD (va_recv hK.1 hP (ci := 3) (q0 := 0) rfl rfl) hS hA rfl hl.1 rfl (Nat.le_of_ble_eq_true rfl) dX3_takeFramed_78 ⟨Nat.zero_le _, Nat.zero_le _⟩ (fun u6 H locs hf hP hD hS => ?_)
        have hP : va_P (dC, dI) vwCl (rdW a u6) H := hP
        have hD : va_D A (rdW a u6) := hD
        refine lv_goto (tgt := 97) hx hb dX3_takeFramed_81 (by decide) ?_
        exact W.vret hx hb hr (fun t ht hW => ⟨⟨u6, rfl, hf, by rw [ht]; exact hP, hD⟩, hS.F ht⟩) hS.2.2 dX3_takeFramed_97
    · replace hf := hf.2 c3
      refine lv_aload_n hx hb dX3_takeFramed_56 rfl (lv_at hl 1 rfl) ?_
      refine lv_iload_n hx hb dX3_takeFramed_57 rfl (lv_at hl 0 rfl) ?_
      refine lv_iload_n hx hb dX3_takeFramed_58 rfl (lv_at hl 2 rfl) ?_
      refine k0v (As := [.int taken, .int p0]) (rest := []) ⟨hx, hb, hml, hown, hts⟩ (c_X3_takeHead l dC dI y a H.size (taken + 1, tail, alike, last, r2, chkTaken, sizePl, chkPl, fr) taken p0 _ hf) (cwV 2 hts gX3_takeFramed_X3_takeHead rfl rfl rfl (by decide +kernel) ⟨Nat.le_of_ble_eq_true rfl, Nat.le_of_ble_eq_true rfl⟩) hK hP hD (va_recv hK.1 hP (ci := 3) (q0 := 0) rfl rfl) hS hA rfl hl.1 rfl (Nat.le_of_ble_eq_true rfl) dX3_takeFramed_59 ⟨Nat.zero_le _, Nat.zero_le _⟩ (fun u7 H locs hf hP hD hS => ?_)
      have hP : va_P (dC, dI) vwCl (rdW a u7) H := hP
      have hD : va_D A (rdW a u7) := hD
      refine lv_goto (tgt := 97) hx hb dX3_takeFramed_62 (by decide) ?_
      exact W.vret hx hb hr (fun t ht hW => ⟨⟨u7, rfl, hf, by rw [ht]; exact hP, hD⟩, hS.F ht⟩) hS.2.2 dX3_takeFramed_97
  · replace hf := hf.2 c1
    refine lv_aload_n hx hb dX3_takeFramed_23 rfl (lv_at hl 1 rfl) ?_
    refine lv_aload_n hx hb dX3_takeFramed_24 rfl (lv_at hl 1 rfl) ?_
    refine va_get (D := (dC, dI)) (ci := 3) (v := .int chkTaken) (C := RX3) (T := TX3) (N := 9) hx hb hts hinX3 hown hK.1 hP 0 rfl rfl 6 (by decide) w34 (fun _ h9 => h9) rfl dX3_takeFramed_25 ?_
    refine lv_iconst (v := 1) hx hb dX3_takeFramed_28 (by decide) ?_
    refine lv_ishl hx hb dX3_takeFramed_29 ?_
    refine lv_iload_n hx hb dX3_takeFramed_30 rfl (lv_at hl 2 rfl) ?_
    refine lv_ior hx hb dX3_takeFramed_31 ?_
    refine va_put (D := (dC, dI)) (ci := 3) (v := .int ((chkTaken <<< (1 &&& 31)) ||| p0)) (ty := .int) (C := RX3) (T := TX3) (N := 9) hx hb hts hinX3 tyX3 tyX3_ok nmX3 hown hK.1 hP hD hS 0 rfl rfl 6 (by decide) w34 (fun _ h9 => h9) rfl (by decide +kernel) rfl rfl (Nat.le_of_ble_eq_true rfl) dX3_takeFramed_32 (fun H locs hP hD hS => ?_)
    have hP : va_P (dC, dI) vwCl (rdW a (taken + 1, tail, alike, last, check, (chkTaken <<< (1 &&& 31)) ||| p0, sizePl, chkPl, fr)) H := hP
    have hD : va_D A (rdW a (taken + 1, tail, alike, last, check, (chkTaken <<< (1 &&& 31)) ||| p0, sizePl, chkPl, fr)) := hD
    exact W.vret hx hb hr (fun t ht hW => ⟨⟨(taken + 1, tail, alike, last, check, (chkTaken <<< (1 &&& 31)) ||| p0, sizePl, chkPl, fr), rfl, hf, by rw [ht]; exact hP, hD⟩, hS.F ht⟩) hS.2.2 dX3_takeFramed_35

def wp_X3_take_90 (K : Int32 → ReaderS → Prop) : ReaderS → Prop := fun (taken, tail, alike, last, check, chkTaken, sizePl, chkPl, fr) => K 0 (taken, tail, alike, last, check, chkTaken, sizePl, chkPl, fr)
def wp_X3_take_73 (K : Int32 → ReaderS → Prop) : ReaderS → Int32 → Int32 → Int32 → Prop := fun (taken, tail, alike, last, check, chkTaken, sizePl, chkPl, fr) v1 v2 k0 => ((¬ v2 = 0 → wp_X3_take_90 K (taken, tail, k0, v1, check, chkTaken, sizePl, chkPl, fr)) ∧ (v2 = 0 → wp_X3_takeFramed (taken, tail, k0, v1, check, chkTaken, sizePl, chkPl, fr) v1 (fun u9 => wp_X3_take_90 K u9)))
def wp_X3_take_54 (K : Int32 → ReaderS → Prop) : ReaderS → Int32 → Int32 → Prop := fun (taken, tail, alike, last, check, chkTaken, sizePl, chkPl, fr) v1 v2 => ((¬ v1 = last → wp_X3_take_73 K (taken, tail, alike, last, check, chkTaken, sizePl, chkPl, fr) v1 v2 1) ∧ (v1 = last → wp_X3_take_73 K (taken, tail, alike, last, check, chkTaken, sizePl, chkPl, fr) v1 v2 (alike + 1)))
def wp_X3_take_39 (K : Int32 → ReaderS → Prop) : ReaderS → Int32 → Int32 → Prop := fun (taken, tail, alike, last, check, chkTaken, sizePl, chkPl, fr) v1 k0 => ((k0 = 0 → wp_X3_take_54 K (taken, tail, alike, last, check, chkTaken, sizePl, chkPl, fr) v1 k0) ∧ (¬ k0 = 0 → ((¬ v1 = last → wp_X3_take_54 K (taken, tail, alike, last, check, chkTaken, sizePl, chkPl, fr) v1 k0) ∧ (v1 = last → K 1 (taken, tail, alike, last, check, chkTaken, sizePl, chkPl, fr)))))
def wp_X3_take_13 (K : Int32 → ReaderS → Prop) : ReaderS → Int32 → Prop := fun (taken, tail, alike, last, check, chkTaken, sizePl, chkPl, fr) v1 => wp_X3_hasWholeFrame (taken, tail, alike, last, check, chkTaken, sizePl, chkPl, fr) (fun r2 => ((r2 = 0 → ((¬ alike = 5 → wp_X3_take_39 K (taken, tail, alike, last, check, chkTaken, sizePl, chkPl, fr) v1 0) ∧ (alike = 5 → wp_X3_take_39 K (taken, tail, alike, last, check, chkTaken, sizePl, chkPl, fr) v1 1))) ∧ (¬ r2 = 0 → wp_X3_takeTail (taken, tail, alike, last, check, chkTaken, sizePl, chkPl, fr) v1 (fun r11 u12 => K r11 u12))))
def wp_X3_take : ReaderS → Int32 → (Int32 → ReaderS → Prop) → Prop := fun (taken, tail, alike, last, check, chkTaken, sizePl, chkPl, fr) p0 K => ((¬ taken = 0 → wp_X3_take_13 K (taken, tail, alike, last, check, chkTaken, sizePl, chkPl, fr) p0) ∧ (taken = 0 → ((p0 = 0 → wp_X3_take_13 K (taken, tail, alike, last, check, chkTaken, sizePl, chkPl, fr) p0) ∧ (¬ p0 = 0 → K 3 (taken, tail, alike, last, check, chkTaken, sizePl, chkPl, fr)))))
set_option maxHeartbeats 4000000 in
set_option maxRecDepth 100000 in
theorem j_X3_take_90 {p : Program} {l : Launch} {e : Env} {s : State} {m : MethodId} {args : Array Value} {below : List Frame} {meth : Method} {c : Code} {dC : Nat → ClassId} {dI : Nat → Nat → Nat} {y : Nat → ClassId} {A : Nat → Prop} (C0 : Cx p s m args meth c cX3_take 3 (some .int) wsX3_take RX3 A dC dI y) (a : ReaderA) (K : Int32 → ReaderS → Prop) : ∀ (S : ReaderS) (H : Heap) (locs : List Loc) (ls : Array Slot), va_P (dC, dI) vwCl (rdW a S) H → va_D A (rdW a S) → va_S A s.heap H locs → lv_has ls 3 [] → wp_X3_take_90 K S → W p l e ({ frames := 3, cells := 0, slots := 0, locals := 65 } : Room) s m args below meth c H locs 0 0 (MQ below (va_Qi K (BW dC dI A (fun u => rdW a u)) A) args s 0 0 A) (F0 m 90 ls []) := by
  obtain ⟨hx, hb, hr, hml, hown, hts, hlocks, hA, hK⟩ := id C0
  intro S H locs ls hP hD hS hl hf
  obtain ⟨taken, tail, alike, last, check, chkTaken, sizePl, chkPl, fr⟩ := S
  unfold wp_X3_take_90 at hf
  refine lv_iconst (v := 0) hx hb dX3_take_90 (by decide) ?_
  exact W.iret (v := 0) hx hb hr (fun t ht hW => ⟨⟨0, (taken, tail, alike, last, check, chkTaken, sizePl, chkPl, fr), rfl, hf, by rw [ht]; exact hP, hD⟩, hS.F ht⟩) hS.2.2 dX3_take_91
set_option maxHeartbeats 4000000 in
set_option maxRecDepth 100000 in
theorem j_X3_take_73 {p : Program} {l : Launch} {e : Env} {s : State} {m : MethodId} {args : Array Value} {below : List Frame} {meth : Method} {c : Code} {dC : Nat → ClassId} {dI : Nat → Nat → Nat} {y : Nat → ClassId} {A : Nat → Prop} (C0 : Cx p s m args meth c cX3_take 3 (some .int) wsX3_take RX3 A dC dI y) (a : ReaderA) (K : Int32 → ReaderS → Prop) : ∀ (S : ReaderS) (v1 : Int32) (v2 : Int32) (k0 : Int32) (H : Heap) (locs : List Loc) (ls : Array Slot), va_P (dC, dI) vwCl (rdW a S) H → va_D A (rdW a S) → va_S A s.heap H locs → lv_has ls 3 [(0, .ref a.1), (1, .int v1), (2, .int v2)] → wp_X3_take_73 K S v1 v2 k0 → W p l e ({ frames := 3, cells := 0, slots := 0, locals := 65 } : Room) s m args below meth c H locs 0 0 (MQ below (va_Qi K (BW dC dI A (fun u => rdW a u)) A) args s 0 0 A) (F0 m 73 ls [.int k0, .ref a.1]) := by
  obtain ⟨hx, hb, hr, hml, hown, hts, hlocks, hA, hK⟩ := id C0
  have w25 := hts (Cond.fieldLink RX3 25 "SharedWire$Reader" "alike" "I") (List.mem_of_getElem? (i := 2) rfl)
  have w28 := hts (Cond.fieldLink RX3 28 "SharedWire$Reader" "last" "I") (List.mem_of_getElem? (i := 3) rfl)
  have hinX3 : ∀ w ∈ wsX30, w ∈ wsX3_take := fun w h => List.mem_cons_of_mem _ (List.mem_append_left _ (List.mem_append_right _ (h)))
  intro S v1 v2 k0 H locs ls hP hD hS hl hf
  obtain ⟨taken, tail, alike, last, check, chkTaken, sizePl, chkPl, fr⟩ := S
  unfold wp_X3_take_73 at hf
  refine va_put (D := (dC, dI)) (ci := 3) (v := .int k0) (ty := .int) (C := RX3) (T := TX3) (N := 9) hx hb hts hinX3 tyX3 tyX3_ok nmX3 hown hK.1 hP hD hS 0 rfl rfl 3 (by decide) w25 (fun _ h9 => h9) rfl (by decide +kernel) rfl rfl (Nat.le_of_ble_eq_true rfl) dX3_take_73 (fun H locs hP hD hS => ?_)
  have hP : va_P (dC, dI) vwCl (rdW a (taken, tail, k0, last, check, chkTaken, sizePl, chkPl, fr)) H := hP
  have hD : va_D A (rdW a (taken, tail, k0, last, check, chkTaken, sizePl, chkPl, fr)) := hD
  refine lv_aload_n hx hb dX3_take_76 rfl (lv_at hl 0 rfl) ?_
  refine lv_iload_n hx hb dX3_take_77 rfl (lv_at hl 1 rfl) ?_
  refine va_put (D := (dC, dI)) (ci := 3) (v := .int v1) (ty := .int) (C := RX3) (T := TX3) (N := 9) hx hb hts hinX3 tyX3 tyX3_ok nmX3 hown hK.1 hP hD hS 0 rfl rfl 4 (by decide) w28 (fun _ h9 => h9) rfl (by decide +kernel) rfl rfl (Nat.le_of_ble_eq_true rfl) dX3_take_78 (fun H locs hP hD hS => ?_)
  have hP : va_P (dC, dI) vwCl (rdW a (taken, tail, k0, v1, check, chkTaken, sizePl, chkPl, fr)) H := hP
  have hD : va_D A (rdW a (taken, tail, k0, v1, check, chkTaken, sizePl, chkPl, fr)) := hD
  refine lv_iload_n hx hb dX3_take_81 rfl (lv_at hl 2 rfl) ?_
  refine lv_if_ne (tgt := 90) hx hb dX3_take_82 (by decide) (fun c8 => ?_) (fun c8 => ?_)
  · replace hf := hf.1 c8
    exact j_X3_take_90 C0 a K (taken, tail, k0, v1, check, chkTaken, sizePl, chkPl, fr) H locs ls hP hD hS (lv_sub hl [] rfl) hf
  · replace hf := hf.2 c8
    refine lv_aload_n hx hb dX3_take_85 rfl (lv_at hl 0 rfl) ?_
    refine lv_iload_n hx hb dX3_take_86 rfl (lv_at hl 1 rfl) ?_
    refine k0v (As := [.int v1]) (rest := []) ⟨hx, hb, hml, hown, hts⟩ (c_X3_takeFramed l dC dI y a H.size (taken, tail, k0, v1, check, chkTaken, sizePl, chkPl, fr) v1 _ hf) (cwV 1 hts gX3_take_X3_takeFramed rfl rfl rfl (by decide +kernel) ⟨Nat.le_of_ble_eq_true rfl, Nat.le_of_ble_eq_true rfl⟩) hK hP hD (va_recv hK.1 hP (ci := 3) (q0 := 0) rfl rfl) hS hA rfl hl.1 rfl (Nat.le_of_ble_eq_true rfl) dX3_take_87 ⟨Nat.zero_le _, Nat.zero_le _⟩ (fun u9 H locs hf hP hD hS => ?_)
    have hP : va_P (dC, dI) vwCl (rdW a u9) H := hP
    have hD : va_D A (rdW a u9) := hD
    exact j_X3_take_90 C0 a K u9 H locs ls hP hD hS (lv_sub hl [] rfl) hf
set_option maxHeartbeats 4000000 in
set_option maxRecDepth 100000 in
theorem j_X3_take_54 {p : Program} {l : Launch} {e : Env} {s : State} {m : MethodId} {args : Array Value} {below : List Frame} {meth : Method} {c : Code} {dC : Nat → ClassId} {dI : Nat → Nat → Nat} {y : Nat → ClassId} {A : Nat → Prop} (C0 : Cx p s m args meth c cX3_take 3 (some .int) wsX3_take RX3 A dC dI y) (a : ReaderA) (K : Int32 → ReaderS → Prop) : ∀ (S : ReaderS) (v1 : Int32) (v2 : Int32) (H : Heap) (locs : List Loc) (ls : Array Slot), va_P (dC, dI) vwCl (rdW a S) H → va_D A (rdW a S) → va_S A s.heap H locs → lv_has ls 3 [(0, .ref a.1), (1, .int v1), (2, .int v2)] → wp_X3_take_54 K S v1 v2 → W p l e ({ frames := 3, cells := 0, slots := 0, locals := 65 } : Room) s m args below meth c H locs 0 0 (MQ below (va_Qi K (BW dC dI A (fun u => rdW a u)) A) args s 0 0 A) (F0 m 54 ls []) := by
  obtain ⟨hx, hb, hr, hml, hown, hts, hlocks, hA, hK⟩ := id C0
  have w25 := hts (Cond.fieldLink RX3 25 "SharedWire$Reader" "alike" "I") (List.mem_of_getElem? (i := 2) rfl)
  have w28 := hts (Cond.fieldLink RX3 28 "SharedWire$Reader" "last" "I") (List.mem_of_getElem? (i := 3) rfl)
  have hinX3 : ∀ w ∈ wsX30, w ∈ wsX3_take := fun w h => List.mem_cons_of_mem _ (List.mem_append_left _ (List.mem_append_right _ (h)))
  intro S v1 v2 H locs ls hP hD hS hl hf
  obtain ⟨taken, tail, alike, last, check, chkTaken, sizePl, chkPl, fr⟩ := S
  unfold wp_X3_take_54 at hf
  refine lv_aload_n hx hb dX3_take_54 rfl (lv_at hl 0 rfl) ?_
  refine lv_iload_n hx hb dX3_take_55 rfl (lv_at hl 1 rfl) ?_
  refine lv_aload_n hx hb dX3_take_56 rfl (lv_at hl 0 rfl) ?_
  refine va_get (D := (dC, dI)) (ci := 3) (v := .int last) (C := RX3) (T := TX3) (N := 9) hx hb hts hinX3 hown hK.1 hP 0 rfl rfl 4 (by decide) w28 (fun _ h9 => h9) rfl dX3_take_57 ?_
  refine lv_icmp_ne (tgt := 72) hx hb dX3_take_60 (by decide) (fun c7 => ?_) (fun c7 => ?_)
  · replace hf := hf.1 c7
    refine lv_iconst (v := 1) hx hb dX3_take_72 (by decide) ?_
    exact j_X3_take_73 C0 a K (taken, tail, alike, last, check, chkTaken, sizePl, chkPl, fr) v1 v2 1 H locs ls hP hD hS (lv_sub hl [0, 1, 2] rfl) hf
  · replace hf := hf.2 c7
    refine lv_aload_n hx hb dX3_take_63 rfl (lv_at hl 0 rfl) ?_
    refine va_get (D := (dC, dI)) (ci := 3) (v := .int alike) (C := RX3) (T := TX3) (N := 9) hx hb hts hinX3 hown hK.1 hP 0 rfl rfl 3 (by decide) w25 (fun _ h9 => h9) rfl dX3_take_64 ?_
    refine lv_iconst (v := 1) hx hb dX3_take_67 (by decide) ?_
    refine lv_iadd hx hb dX3_take_68 ?_
    refine lv_goto (tgt := 73) hx hb dX3_take_69 (by decide) ?_
    exact j_X3_take_73 C0 a K (taken, tail, alike, last, check, chkTaken, sizePl, chkPl, fr) v1 v2 (alike + 1) H locs ls hP hD hS (lv_sub hl [0, 1, 2] rfl) hf
set_option maxHeartbeats 4000000 in
set_option maxRecDepth 100000 in
theorem j_X3_take_39 {p : Program} {l : Launch} {e : Env} {s : State} {m : MethodId} {args : Array Value} {below : List Frame} {meth : Method} {c : Code} {dC : Nat → ClassId} {dI : Nat → Nat → Nat} {y : Nat → ClassId} {A : Nat → Prop} (C0 : Cx p s m args meth c cX3_take 3 (some .int) wsX3_take RX3 A dC dI y) (a : ReaderA) (K : Int32 → ReaderS → Prop) : ∀ (S : ReaderS) (v1 : Int32) (k0 : Int32) (H : Heap) (locs : List Loc) (ls : Array Slot), va_P (dC, dI) vwCl (rdW a S) H → va_D A (rdW a S) → va_S A s.heap H locs → lv_has ls 3 [(0, .ref a.1), (1, .int v1)] → wp_X3_take_39 K S v1 k0 → W p l e ({ frames := 3, cells := 0, slots := 0, locals := 65 } : Room) s m args below meth c H locs 0 0 (MQ below (va_Qi K (BW dC dI A (fun u => rdW a u)) A) args s 0 0 A) (F0 m 39 ls [.int k0]) := by
  obtain ⟨hx, hb, hr, hml, hown, hts, hlocks, hA, hK⟩ := id C0
  have w28 := hts (Cond.fieldLink RX3 28 "SharedWire$Reader" "last" "I") (List.mem_of_getElem? (i := 3) rfl)
  have hinX3 : ∀ w ∈ wsX30, w ∈ wsX3_take := fun w h => List.mem_cons_of_mem _ (List.mem_append_left _ (List.mem_append_right _ (h)))
  intro S v1 k0 H locs ls hP hD hS hl hf
  obtain ⟨taken, tail, alike, last, check, chkTaken, sizePl, chkPl, fr⟩ := S
  unfold wp_X3_take_39 at hf
  refine lv_istore_n (lv' := [(2, .int k0), (0, .ref a.1), (1, .int v1)]) hx hb dX3_take_39 rfl hl (by decide) rfl (fun ls hl => ?_)
  refine lv_iload_n hx hb dX3_take_40 rfl (lv_at hl 0 rfl) ?_
  refine lv_if_eq (tgt := 54) hx hb dX3_take_41 (by decide) (fun c6 => ?_) (fun c6 => ?_)
  · replace hf := hf.1 c6
    exact j_X3_take_54 C0 a K (taken, tail, alike, last, check, chkTaken, sizePl, chkPl, fr) v1 k0 H locs ls hP hD hS (lv_sub hl [1, 2, 0] rfl) hf
  · replace hf := hf.2 c6
    refine lv_iload_n hx hb dX3_take_44 rfl (lv_at hl 2 rfl) ?_
    refine lv_aload_n hx hb dX3_take_45 rfl (lv_at hl 1 rfl) ?_
    refine va_get (D := (dC, dI)) (ci := 3) (v := .int last) (C := RX3) (T := TX3) (N := 9) hx hb hts hinX3 hown hK.1 hP 0 rfl rfl 4 (by decide) w28 (fun _ h9 => h9) rfl dX3_take_46 ?_
    refine lv_icmp_ne (tgt := 54) hx hb dX3_take_49 (by decide) (fun c10 => ?_) (fun c10 => ?_)
    · replace hf := hf.1 c10
      exact j_X3_take_54 C0 a K (taken, tail, alike, last, check, chkTaken, sizePl, chkPl, fr) v1 k0 H locs ls hP hD hS (lv_sub hl [1, 2, 0] rfl) hf
    · replace hf := hf.2 c10
      refine lv_iconst (v := 1) hx hb dX3_take_52 (by decide) ?_
      exact W.iret (v := 1) hx hb hr (fun t ht hW => ⟨⟨1, (taken, tail, alike, last, check, chkTaken, sizePl, chkPl, fr), rfl, hf, by rw [ht]; exact hP, hD⟩, hS.F ht⟩) hS.2.2 dX3_take_53
set_option maxHeartbeats 4000000 in
set_option maxRecDepth 100000 in
theorem j_X3_take_13 {p : Program} {l : Launch} {e : Env} {s : State} {m : MethodId} {args : Array Value} {below : List Frame} {meth : Method} {c : Code} {dC : Nat → ClassId} {dI : Nat → Nat → Nat} {y : Nat → ClassId} {A : Nat → Prop} (C0 : Cx p s m args meth c cX3_take 3 (some .int) wsX3_take RX3 A dC dI y) (a : ReaderA) (K : Int32 → ReaderS → Prop) : ∀ (S : ReaderS) (v1 : Int32) (H : Heap) (locs : List Loc) (ls : Array Slot), va_P (dC, dI) vwCl (rdW a S) H → va_D A (rdW a S) → va_S A s.heap H locs → lv_has ls 3 [(0, .ref a.1), (1, .int v1)] → wp_X3_take_13 K S v1 → W p l e ({ frames := 3, cells := 0, slots := 0, locals := 65 } : Room) s m args below meth c H locs 0 0 (MQ below (va_Qi K (BW dC dI A (fun u => rdW a u)) A) args s 0 0 A) (F0 m 13 ls []) := by
  obtain ⟨hx, hb, hr, hml, hown, hts, hlocks, hA, hK⟩ := id C0
  have w25 := hts (Cond.fieldLink RX3 25 "SharedWire$Reader" "alike" "I") (List.mem_of_getElem? (i := 2) rfl)
  have hinX3 : ∀ w ∈ wsX30, w ∈ wsX3_take := fun w h => List.mem_cons_of_mem _ (List.mem_append_left _ (List.mem_append_right _ (h)))
  intro S v1 H locs ls hP hD hS hl hf
  obtain ⟨taken, tail, alike, last, check, chkTaken, sizePl, chkPl, fr⟩ := S
  unfold wp_X3_take_13 at hf
  refine lv_aload_n hx hb dX3_take_13 rfl (lv_at hl 0 rfl) ?_
  refine k0i (As := []) (rest := []) ⟨hx, hb, hml, hown, hts⟩ (c_X3_hasWholeFrame l dC dI y a H.size (taken, tail, alike, last, check, chkTaken, sizePl, chkPl, fr) _ hf) (cwV 0 hts gX3_take_X3_hasWholeFrame rfl rfl rfl (by decide +kernel) ⟨Nat.le_of_ble_eq_true rfl, Nat.le_of_ble_eq_true rfl⟩) hK hP hD (va_recv hK.1 hP (ci := 3) (q0 := 0) rfl rfl) hS hA rfl hl.1 rfl (Nat.le_of_ble_eq_true rfl) dX3_take_14 ⟨Nat.zero_le _, Nat.zero_le _⟩ (fun r2 u3 H locs hf hP hD hS => ?_)
  obtain ⟨hf, e9⟩ := hf
  have e9 := e9.symm
  subst e9
  have hP : va_P (dC, dI) vwCl (rdW a (taken, tail, alike, last, check, chkTaken, sizePl, chkPl, fr)) H := hP
  have hD : va_D A (rdW a (taken, tail, alike, last, check, chkTaken, sizePl, chkPl, fr)) := hD
  refine lv_if_eq (tgt := 26) hx hb dX3_take_17 (by decide) (fun c4 => ?_) (fun c4 => ?_)
  · replace hf := hf.1 c4
    refine lv_aload_n hx hb dX3_take_26 rfl (lv_at hl 0 rfl) ?_
    refine va_get (D := (dC, dI)) (ci := 3) (v := .int alike) (C := RX3) (T := TX3) (N := 9) hx hb hts hinX3 hown hK.1 hP 0 rfl rfl 3 (by decide) w25 (fun _ h9 => h9) rfl dX3_take_27 ?_
    refine lv_iconst (v := 5) hx hb dX3_take_30 (by decide) ?_
    refine lv_icmp_ne (tgt := 38) hx hb dX3_take_31 (by decide) (fun c5 => ?_) (fun c5 => ?_)
    · replace hf := hf.1 c5
      refine lv_iconst (v := 0) hx hb dX3_take_38 (by decide) ?_
      exact j_X3_take_39 C0 a K (taken, tail, alike, last, check, chkTaken, sizePl, chkPl, fr) v1 0 H locs ls hP hD hS (lv_sub hl [0, 1] rfl) hf
    · replace hf := hf.2 c5
      refine lv_iconst (v := 1) hx hb dX3_take_34 (by decide) ?_
      refine lv_goto (tgt := 39) hx hb dX3_take_35 (by decide) ?_
      exact j_X3_take_39 C0 a K (taken, tail, alike, last, check, chkTaken, sizePl, chkPl, fr) v1 1 H locs ls hP hD hS (lv_sub hl [0, 1] rfl) hf
  · replace hf := hf.2 c4
    refine lv_aload_n hx hb dX3_take_20 rfl (lv_at hl 0 rfl) ?_
    refine lv_iload_n hx hb dX3_take_21 rfl (lv_at hl 1 rfl) ?_
    refine k0i (As := [.int v1]) (rest := []) ⟨hx, hb, hml, hown, hts⟩ (c_X3_takeTail l dC dI y a H.size (taken, tail, alike, last, check, chkTaken, sizePl, chkPl, fr) v1 _ hf) (cwV 1 hts gX3_take_X3_takeTail rfl rfl rfl (by decide +kernel) ⟨Nat.le_of_ble_eq_true rfl, Nat.le_of_ble_eq_true rfl⟩) hK hP hD (va_recv hK.1 hP (ci := 3) (q0 := 0) rfl rfl) hS hA rfl hl.1 rfl (Nat.le_of_ble_eq_true rfl) dX3_take_22 ⟨Nat.zero_le _, Nat.zero_le _⟩ (fun r11 u12 H locs hf hP hD hS => ?_)
    have hP : va_P (dC, dI) vwCl (rdW a u12) H := hP
    have hD : va_D A (rdW a u12) := hD
    exact W.iret (v := r11) hx hb hr (fun t ht hW => ⟨⟨r11, u12, rfl, hf, by rw [ht]; exact hP, hD⟩, hS.F ht⟩) hS.2.2 dX3_take_25
set_option maxHeartbeats 4000000 in
set_option maxRecDepth 100000 in
theorem c_X3_take (l : Launch) (dC : Nat → ClassId) (dI : Nat → Nat → Nat) (y : Nat → ClassId) (a : ReaderA) (sz : Nat) (S : ReaderS) (p0 : Int32) (K : Int32 → ReaderS → Prop) (hf : wp_X3_take S p0 K) : MI l yX3_take wsX3_take { frames := 3, cells := 0, slots := 0, locals := 65 } dC dI y [.ref a.1, .int p0] (rdW a S) sz (fun u => rdW a u) K := by
  refine Met.ofW (cc := cX3_take) (maxL := 3) (ret := (some .int)) (by decide) rfl ?_
  intro p e s m args below meth c s₁ B hml hv
  obtain ⟨rfl, hsz, hP, hK, hD0⟩ := hv
  have hx := B.exec
  have hb := B.bytes
  have hr := B.returns
  have hts := atoms_spec (ws := wsX3_take) B.pre
  have hown : s.vm.findClass RX3 = some m.cls := findClass_of_methodNamed B.named
  have hlocks := B.notSynchronized
  subst hsz
  have hD := hD0.self (sz := s.heap.size)
  generalize hAe : va_A (rdW a S) s.heap.size = A at hD ⊢
  have hA : ∀ q : Nat, s.heap.size ≤ q → A q := fun q h => by rw [← hAe]; exact Or.inr h
  have hS : va_S A s.heap s.heap [] := va_S.rf
  have C0 : Cx p s m [.ref a.1, .int p0].toArray meth c cX3_take 3 (some .int) wsX3_take RX3 A dC dI y := ⟨hx, hb, hr, hml, hown, hts, hlocks, hA, hK⟩
  have w18 := hts (Cond.fieldLink RX3 18 "SharedWire$Reader" "taken" "I") (List.mem_of_getElem? (i := 1) rfl)
  have hinX3 : ∀ w ∈ wsX30, w ∈ wsX3_take := fun w h => List.mem_cons_of_mem _ (List.mem_append_left _ (List.mem_append_right _ (h)))
  have hl := lv_entry ([.ref a.1, .int p0]) (n := 3) (Nat.le_of_ble_eq_true rfl)
  rw [lg_entry_eq]
  generalize (lg_sl ([.ref a.1, .int p0]) ++ List.replicate (3 - (lg_sl ([.ref a.1, .int p0])).length) Slot.unset).toArray = ls at hl ⊢
  have hl : lv_has ls 3 [(0, .ref a.1), (1, .int p0)] := hl
  obtain ⟨taken, tail, alike, last, check, chkTaken, sizePl, chkPl, fr⟩ := S
  clear hAe hD0
  generalize hL0 : ([] : List Loc) = locs at hS ⊢
  unfold wp_X3_take at hf
  refine lv_aload_n hx hb dX3_take_0 rfl (lv_at hl 0 rfl) ?_
  refine va_get (D := (dC, dI)) (ci := 3) (v := .int taken) (C := RX3) (T := TX3) (N := 9) hx hb hts hinX3 hown hK.1 hP 0 rfl rfl 1 (by decide) w18 (fun _ h9 => h9) rfl dX3_take_1 ?_
  refine lv_if_ne (tgt := 13) hx hb dX3_take_4 (by decide) (fun c1 => ?_) (fun c1 => ?_)
  · replace hf := hf.1 c1
    exact j_X3_take_13 C0 a K (taken, tail, alike, last, check, chkTaken, sizePl, chkPl, fr) p0 s.heap locs ls hP hD hS (lv_sub hl [0, 1] rfl) hf
  · replace hf := hf.2 c1
    refine lv_iload_n hx hb dX3_take_7 rfl (lv_at hl 1 rfl) ?_
    refine lv_if_eq (tgt := 13) hx hb dX3_take_8 (by decide) (fun c13 => ?_) (fun c13 => ?_)
    · replace hf := hf.1 c13
      exact j_X3_take_13 C0 a K (taken, tail, alike, last, check, chkTaken, sizePl, chkPl, fr) p0 s.heap locs ls hP hD hS (lv_sub hl [0, 1] rfl) hf
    · replace hf := hf.2 c13
      refine lv_iconst (v := 3) hx hb dX3_take_11 (by decide) ?_
      exact W.iret (v := 3) hx hb hr (fun t ht hW => ⟨⟨3, (taken, tail, alike, last, check, chkTaken, sizePl, chkPl, fr), rfl, hf, by rw [ht]; exact hP, hD⟩, hS.F ht⟩) hS.2.2 dX3_take_12
