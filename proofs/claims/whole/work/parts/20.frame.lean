def wp_X4_nextCheck_23 (K : Int32 → Prop) : Int32 → Int32 → Prop := fun v2 k0 => ((k0 = 0 → K v2) ∧ (¬ k0 = 0 → K (v2 ^^^ 17817)))
def wp_X4_nextCheck : Int32 → Int32 → (Int32 → Prop) → Prop := fun p0 p1 K => (∀ n1 : Int32, n1 = (p0 <<< (1 &&& 31)) &&& 32767 → (((p0 >>> (14 &&& 31)) &&& 1 = p1 → wp_X4_nextCheck_23 K n1 0) ∧ (¬ (p0 >>> (14 &&& 31)) &&& 1 = p1 → wp_X4_nextCheck_23 K n1 1)))
set_option maxHeartbeats 4000000 in
set_option maxRecDepth 100000 in
theorem j_X4_nextCheck_23 {p : Program} {l : Launch} {e : Env} {s : State} {m : MethodId} {args : Array Value} {below : List Frame} {meth : Method} {c : Code} {dC : Nat → ClassId} {dI : Nat → Nat → Nat} {y : Nat → ClassId} {A : Nat → Prop} (C0 : Cx p s m args meth c cX4_nextCheck 4 (some .int) wsX4_nextCheck RX4 A dC dI y) (K : Int32 → Prop) : ∀ (v2 : Int32) (k0 : Int32) (H : Heap) (locs : List Loc) (ls : Array Slot), va_P (dC, dI) vwCl ([]) H → va_D A ([]) → va_S A s.heap H locs → lv_has ls 4 [(2, .int v2)] → wp_X4_nextCheck_23 K v2 k0 → W p l e ({ frames := 0, cells := 0, slots := 0, locals := 0 } : Room) s m args below meth c H locs 0 0 (MQ below (va_Qi (fun r (_ : Unit) => K r) (BW dC dI A (fun _ => [])) A) args s 0 0 A) (F0 m 23 ls [.int k0]) := by
  obtain ⟨hx, hb, hr, hml, hown, hts, hlocks, hA, hK⟩ := id C0
  intro v2 k0 H locs ls hP hD hS hl hf
  unfold wp_X4_nextCheck_23 at hf
  refine lv_istore_n (lv' := [(3, .int k0), (2, .int v2)]) hx hb dX4_nextCheck_23 rfl hl (by decide) rfl (fun ls hl => ?_)
  refine lv_iload_n hx hb dX4_nextCheck_24 rfl (lv_at hl 0 rfl) ?_
  refine lv_if_eq (tgt := 36) hx hb dX4_nextCheck_25 (by decide) (fun c3 => ?_) (fun c3 => ?_)
  · replace hf := hf.1 c3
    refine lv_iload_n hx hb dX4_nextCheck_36 rfl (lv_at hl 1 rfl) ?_
    exact W.iret (v := v2) hx hb hr (fun t ht hW => ⟨⟨v2, (), rfl, hf, by rw [ht]; exact hP, hD⟩, hS.F ht⟩) hS.2.2 dX4_nextCheck_37
  · replace hf := hf.2 c3
    refine lv_iload_n hx hb dX4_nextCheck_28 rfl (lv_at hl 1 rfl) ?_
    refine lv_sipush (v := 17817) hx hb dX4_nextCheck_29 (by decide) ?_
    refine lv_ixor hx hb dX4_nextCheck_32 ?_
    refine lv_goto (tgt := 37) hx hb dX4_nextCheck_33 (by decide) ?_
    exact W.iret (v := v2 ^^^ 17817) hx hb hr (fun t ht hW => ⟨⟨v2 ^^^ 17817, (), rfl, hf, by rw [ht]; exact hP, hD⟩, hS.F ht⟩) hS.2.2 dX4_nextCheck_37
set_option maxHeartbeats 4000000 in
set_option maxRecDepth 100000 in
theorem c_X4_nextCheck (l : Launch) (dC : Nat → ClassId) (dI : Nat → Nat → Nat) (y : Nat → ClassId) (sz : Nat) (p0 : Int32) (p1 : Int32) (K : Int32 → Prop) (hf : wp_X4_nextCheck p0 p1 K) : MS l yX4_nextCheck wsX4_nextCheck { frames := 0, cells := 0, slots := 0, locals := 0 } dC dI y [.int p0, .int p1] sz K := by
  refine Met.ofW (cc := cX4_nextCheck) (maxL := 4) (ret := (some .int)) (by decide) rfl ?_
  intro p e s m args below meth c s₁ B hml hv
  obtain ⟨rfl, hsz, hP, hK, hD0⟩ := hv
  have hx := B.exec
  have hb := B.bytes
  have hr := B.returns
  have hts := atoms_spec (ws := wsX4_nextCheck) B.pre
  have hown : s.vm.findClass RX4 = some m.cls := findClass_of_methodNamed B.named
  have hlocks := B.notSynchronized
  subst hsz
  have hD := hD0.self (sz := s.heap.size)
  generalize hAe : va_A ([]) s.heap.size = A at hD ⊢
  have hA : ∀ q : Nat, s.heap.size ≤ q → A q := fun q h => by rw [← hAe]; exact Or.inr h
  have hS : va_S A s.heap s.heap [] := va_S.rf
  have C0 : Cx p s m [.int p0, .int p1].toArray meth c cX4_nextCheck 4 (some .int) wsX4_nextCheck RX4 A dC dI y := ⟨hx, hb, hr, hml, hown, hts, hlocks, hA, hK⟩
  have hl := lv_entry ([.int p0, .int p1]) (n := 4) (Nat.le_of_ble_eq_true rfl)
  rw [lg_entry_eq]
  generalize (lg_sl ([.int p0, .int p1]) ++ List.replicate (4 - (lg_sl ([.int p0, .int p1])).length) Slot.unset).toArray = ls at hl ⊢
  have hl : lv_has ls 4 [(0, .int p0), (1, .int p1)] := hl
  clear hAe hD0
  generalize hL0 : ([] : List Loc) = locs at hS ⊢
  unfold wp_X4_nextCheck at hf
  refine lv_iload_n hx hb dX4_nextCheck_0 rfl (lv_at hl 0 rfl) ?_
  refine lv_iconst (v := 1) hx hb dX4_nextCheck_1 (by decide) ?_
  refine lv_ishl hx hb dX4_nextCheck_2 ?_
  refine lv_sipush (v := 32767) hx hb dX4_nextCheck_3 (by decide) ?_
  refine lv_iand hx hb dX4_nextCheck_6 ?_
  refine lv_topi (fun n1 en1 => ?_)
  replace hf := hf n1 en1
  refine lv_istore_n (lv' := [(2, .int n1), (0, .int p0), (1, .int p1)]) hx hb dX4_nextCheck_7 rfl hl (by decide) rfl (fun ls hl => ?_)
  refine lv_iload_n hx hb dX4_nextCheck_8 rfl (lv_at hl 1 rfl) ?_
  refine lv_bipush (v := 14) hx hb dX4_nextCheck_9 (by decide) ?_
  refine lv_ishr hx hb dX4_nextCheck_11 ?_
  refine lv_iconst (v := 1) hx hb dX4_nextCheck_12 (by decide) ?_
  refine lv_iand hx hb dX4_nextCheck_13 ?_
  refine lv_iload_n hx hb dX4_nextCheck_14 rfl (lv_at hl 2 rfl) ?_
  refine lv_icmp_eq (tgt := 22) hx hb dX4_nextCheck_15 (by decide) (fun c2 => ?_) (fun c2 => ?_)
  · replace hf := hf.1 c2
    refine lv_iconst (v := 0) hx hb dX4_nextCheck_22 (by decide) ?_
    exact j_X4_nextCheck_23 C0 K n1 0 s.heap locs ls hP hD hS (lv_sub hl [0] rfl) hf
  · replace hf := hf.2 c2
    refine lv_iconst (v := 1) hx hb dX4_nextCheck_18 (by decide) ?_
    refine lv_goto (tgt := 23) hx hb dX4_nextCheck_19 (by decide) ?_
    exact j_X4_nextCheck_23 C0 K n1 1 s.heap locs ls hP hD hS (lv_sub hl [0] rfl) hf

def wp_X0_set : FrameS → Int32 → Int32 → Int64 → Int32 → (FrameS → Prop) → Prop := fun (fLong, fId, fData, fSize) p0 p1 p2 p3 K => (bz p0 ∧ K (p0, p1, p2, p3))
set_option maxHeartbeats 4000000 in
set_option maxRecDepth 100000 in
theorem c_X0_set (l : Launch) (dC : Nat → ClassId) (dI : Nat → Nat → Nat) (y : Nat → ClassId) (a : Nat) (sz : Nat) (S : FrameS) (p0 : Int32) (p1 : Int32) (p2 : Int64) (p3 : Int32) (K : FrameS → Prop) (hf : wp_X0_set S p0 p1 p2 p3 K) : MV l yX0_set wsX0_set { frames := 0, cells := 0, slots := 0, locals := 0 } dC dI y [.ref a, .int p0, .int p1, .long p2, .int p3] (frW a S) sz (fun u => frW a u) K := by
  refine Met.ofW (cc := cX0_set) (maxL := 6) (ret := none) (by decide) rfl ?_
  intro p e s m args below meth c s₁ B hml hv
  obtain ⟨rfl, hsz, hP, hK, hD0⟩ := hv
  have hx := B.exec
  have hb := B.bytes
  have hr := B.returns
  have hts := atoms_spec (ws := wsX0_set) B.pre
  have hown : s.vm.findClass RX0 = some m.cls := findClass_of_methodNamed B.named
  have hlocks := B.notSynchronized
  subst hsz
  have hD := hD0.self (sz := s.heap.size)
  generalize hAe : va_A (frW a S) s.heap.size = A at hD ⊢
  have hA : ∀ q : Nat, s.heap.size ≤ q → A q := fun q h => by rw [← hAe]; exact Or.inr h
  have hS : va_S A s.heap s.heap [] := va_S.rf
  have C0 : Cx p s m [.ref a, .int p0, .int p1, .long p2, .int p3].toArray meth c cX0_set 6 none wsX0_set RX0 A dC dI y := ⟨hx, hb, hr, hml, hown, hts, hlocks, hA, hK⟩
  have w9 := hts (.fieldLink RX0 9 "SharedWire$Frame" "isLong" "Z") (List.mem_of_getElem? (i := 1) rfl)
  have w15 := hts (.fieldLink RX0 15 "SharedWire$Frame" "identifier" "I") (List.mem_of_getElem? (i := 2) rfl)
  have w19 := hts (.fieldLink RX0 19 "SharedWire$Frame" "data" "J") (List.mem_of_getElem? (i := 3) rfl)
  have w23 := hts (.fieldLink RX0 23 "SharedWire$Frame" "size" "I") (List.mem_of_getElem? (i := 4) rfl)
  have hinX0 : ∀ w ∈ wsX00, w ∈ wsX0_set := fun w h => List.mem_cons_of_mem _ (List.mem_append_right _ (h))
  have hl := lv_entry ([.ref a, .int p0, .int p1, .long p2, .int p3]) (n := 6) (Nat.le_of_ble_eq_true rfl)
  rw [lg_entry_eq]
  generalize (lg_sl ([.ref a, .int p0, .int p1, .long p2, .int p3]) ++ List.replicate (6 - (lg_sl ([.ref a, .int p0, .int p1, .long p2, .int p3])).length) Slot.unset).toArray = ls at hl ⊢
  have hl : lv_has ls 6 [(0, .ref a), (1, .int p0), (2, .int p1), (3, .long p2), (5, .int p3)] := hl
  obtain ⟨fLong, fId, fData, fSize⟩ := S
  clear hAe hD0
  generalize hL0 : ([] : List Loc) = locs at hS ⊢
  unfold wp_X0_set at hf
  refine lv_aload_n hx hb dX0_set_0 rfl (lv_at hl 0 rfl) ?_
  refine lv_iload_n hx hb dX0_set_1 rfl (lv_at hl 1 rfl) ?_
  have hz := hf.1
  replace hf := hf.2
  refine va_put (D := (dC, dI)) (ci := 0) (v := .int p0) (ty := .boolean) (C := RX0) (T := TX0) (N := 4) hx hb hts hinX0 tyX0 tyX0_ok nmX0 hown hK.1 hP hD hS 0 rfl rfl 0 (by decide) w9 (fun _ h9 => h9) rfl (by decide +kernel) hz.1 hz.2 (Nat.le_of_ble_eq_true rfl) dX0_set_2 (fun H locs hP hD hS => ?_)
  have hP : va_P (dC, dI) vwCl (frW a (p0, fId, fData, fSize)) H := hP
  have hD : va_D A (frW a (p0, fId, fData, fSize)) := hD
  refine lv_aload_n hx hb dX0_set_5 rfl (lv_at hl 0 rfl) ?_
  refine lv_iload_n hx hb dX0_set_6 rfl (lv_at hl 2 rfl) ?_
  refine va_put (D := (dC, dI)) (ci := 0) (v := .int p1) (ty := .int) (C := RX0) (T := TX0) (N := 4) hx hb hts hinX0 tyX0 tyX0_ok nmX0 hown hK.1 hP hD hS 0 rfl rfl 1 (by decide) w15 (fun _ h9 => h9) rfl (by decide +kernel) rfl rfl (Nat.le_of_ble_eq_true rfl) dX0_set_7 (fun H locs hP hD hS => ?_)
  have hP : va_P (dC, dI) vwCl (frW a (p0, p1, fData, fSize)) H := hP
  have hD : va_D A (frW a (p0, p1, fData, fSize)) := hD
  refine lv_aload_n hx hb dX0_set_10 rfl (lv_at hl 0 rfl) ?_
  refine lv_lload_n hx hb dX0_set_11 rfl (lv_at hl 3 rfl) ?_
  refine va_put (D := (dC, dI)) (ci := 0) (v := .long p2) (ty := .long) (C := RX0) (T := TX0) (N := 4) hx hb hts hinX0 tyX0 tyX0_ok nmX0 hown hK.1 hP hD hS 0 rfl rfl 2 (by decide) w19 (fun _ h9 => h9) rfl (by decide +kernel) rfl rfl (Nat.le_of_ble_eq_true rfl) dX0_set_12 (fun H locs hP hD hS => ?_)
  have hP : va_P (dC, dI) vwCl (frW a (p0, p1, p2, fSize)) H := hP
  have hD : va_D A (frW a (p0, p1, p2, fSize)) := hD
  refine lv_aload_n hx hb dX0_set_15 rfl (lv_at hl 0 rfl) ?_
  refine lv_iload hx hb dX0_set_16 (lv_at hl 4 rfl) ?_
  refine va_put (D := (dC, dI)) (ci := 0) (v := .int p3) (ty := .int) (C := RX0) (T := TX0) (N := 4) hx hb hts hinX0 tyX0 tyX0_ok nmX0 hown hK.1 hP hD hS 0 rfl rfl 3 (by decide) w23 (fun _ h9 => h9) rfl (by decide +kernel) rfl rfl (Nat.le_of_ble_eq_true rfl) dX0_set_18 (fun H locs hP hD hS => ?_)
  have hP : va_P (dC, dI) vwCl (frW a (p0, p1, p2, p3)) H := hP
  have hD : va_D A (frW a (p0, p1, p2, p3)) := hD
  exact W.vret hx hb hr (fun t ht hW => ⟨⟨(p0, p1, p2, p3), rfl, hf, by rw [ht]; exact hP, hD⟩, hS.F ht⟩) hS.2.2 dX0_set_21

def wp_X0_rank : FrameS → (Int32 → Prop) → Prop := fun (fLong, fId, fData, fSize) K => ((¬ fLong = 0 → (∀ n2 : Int32, n2 = fId &&& 262143 → K ((((fId >>> (18 &&& 31)) <<< (19 &&& 31)) ||| 262144) ||| n2))) ∧ (fLong = 0 → K (fId <<< (19 &&& 31))))
set_option maxHeartbeats 4000000 in
set_option maxRecDepth 100000 in
theorem c_X0_rank (l : Launch) (dC : Nat → ClassId) (dI : Nat → Nat → Nat) (y : Nat → ClassId) (a : Nat) (sz : Nat) (S : FrameS) (K : Int32 → Prop) (hf : wp_X0_rank S K) : MI l yX0_rank wsX0_rank { frames := 0, cells := 0, slots := 0, locals := 0 } dC dI y [.ref a] (frW a S) sz (fun u => frW a u) (fun r u => K r ∧ u = S) := by
  refine Met.ofW (cc := cX0_rank) (maxL := 2) (ret := (some .int)) (by decide) rfl ?_
  intro p e s m args below meth c s₁ B hml hv
  obtain ⟨rfl, hsz, hP, hK, hD0⟩ := hv
  have hx := B.exec
  have hb := B.bytes
  have hr := B.returns
  have hts := atoms_spec (ws := wsX0_rank) B.pre
  have hown : s.vm.findClass RX0 = some m.cls := findClass_of_methodNamed B.named
  have hlocks := B.notSynchronized
  subst hsz
  have hD := hD0.self (sz := s.heap.size)
  generalize hAe : va_A (frW a S) s.heap.size = A at hD ⊢
  have hA : ∀ q : Nat, s.heap.size ≤ q → A q := fun q h => by rw [← hAe]; exact Or.inr h
  have hS : va_S A s.heap s.heap [] := va_S.rf
  have C0 : Cx p s m [.ref a].toArray meth c cX0_rank 2 (some .int) wsX0_rank RX0 A dC dI y := ⟨hx, hb, hr, hml, hown, hts, hlocks, hA, hK⟩
  have w9 := hts (.fieldLink RX0 9 "SharedWire$Frame" "isLong" "Z") (List.mem_of_getElem? (i := 1) rfl)
  have w15 := hts (.fieldLink RX0 15 "SharedWire$Frame" "identifier" "I") (List.mem_of_getElem? (i := 2) rfl)
  have w26 := hts (.constant RX0 26 (262143)) (List.mem_of_getElem? (i := 3) rfl)
  have w27 := hts (.constant RX0 27 (262144)) (List.mem_of_getElem? (i := 4) rfl)
  have hinX0 : ∀ w ∈ wsX00, w ∈ wsX0_rank := fun w h => List.mem_cons_of_mem _ (List.mem_append_right _ (h))
  have hl := lv_entry ([.ref a]) (n := 2) (Nat.le_of_ble_eq_true rfl)
  rw [lg_entry_eq]
  generalize (lg_sl ([.ref a]) ++ List.replicate (2 - (lg_sl ([.ref a])).length) Slot.unset).toArray = ls at hl ⊢
  have hl : lv_has ls 2 [(0, .ref a)] := hl
  obtain ⟨fLong, fId, fData, fSize⟩ := S
  have hSS : (fLong, fId, fData, fSize) = (fLong, fId, fData, fSize) := rfl
  clear hAe hD0
  generalize hL0 : ([] : List Loc) = locs at hS ⊢
  unfold wp_X0_rank at hf
  refine lv_aload_n hx hb dX0_rank_0 rfl (lv_at hl 0 rfl) ?_
  refine va_get (D := (dC, dI)) (ci := 0) (v := .int fLong) (C := RX0) (T := TX0) (N := 4) hx hb hts hinX0 hown hK.1 hP 0 rfl rfl 0 (by decide) w9 (fun _ h9 => h9) rfl dX0_rank_1 ?_
  refine lv_if_ne (tgt := 15) hx hb dX0_rank_4 (by decide) (fun c1 => ?_) (fun c1 => ?_)
  · replace hf := hf.1 c1
    refine lv_aload_n hx hb dX0_rank_15 rfl (lv_at hl 0 rfl) ?_
    refine va_get (D := (dC, dI)) (ci := 0) (v := .int fId) (C := RX0) (T := TX0) (N := 4) hx hb hts hinX0 hown hK.1 hP 0 rfl rfl 1 (by decide) w15 (fun _ h9 => h9) rfl dX0_rank_16 ?_
    refine lv_ldc (v := 262143) hx hb hown w26 dX0_rank_19 ?_
    refine lv_iand hx hb dX0_rank_21 ?_
    refine lv_topi (fun n2 en2 => ?_)
    replace hf := hf n2 en2
    refine lv_istore_n (lv' := [(1, .int n2), (0, .ref a)]) hx hb dX0_rank_22 rfl hl (by decide) rfl (fun ls hl => ?_)
    refine lv_aload_n hx hb dX0_rank_23 rfl (lv_at hl 1 rfl) ?_
    refine va_get (D := (dC, dI)) (ci := 0) (v := .int fId) (C := RX0) (T := TX0) (N := 4) hx hb hts hinX0 hown hK.1 hP 0 rfl rfl 1 (by decide) w15 (fun _ h9 => h9) rfl dX0_rank_24 ?_
    refine lv_bipush (v := 18) hx hb dX0_rank_27 (by decide) ?_
    refine lv_ishr hx hb dX0_rank_29 ?_
    refine lv_bipush (v := 19) hx hb dX0_rank_30 (by decide) ?_
    refine lv_ishl hx hb dX0_rank_32 ?_
    refine lv_ldc (v := 262144) hx hb hown w27 dX0_rank_33 ?_
    refine lv_ior hx hb dX0_rank_35 ?_
    refine lv_iload_n hx hb dX0_rank_36 rfl (lv_at hl 0 rfl) ?_
    refine lv_ior hx hb dX0_rank_37 ?_
    exact W.iret (v := (((fId >>> (18 &&& 31)) <<< (19 &&& 31)) ||| 262144) ||| n2) hx hb hr (fun t ht hW => ⟨⟨(((fId >>> (18 &&& 31)) <<< (19 &&& 31)) ||| 262144) ||| n2, (fLong, fId, fData, fSize), rfl, ⟨hf, hSS⟩, by rw [ht]; exact hP, hD⟩, hS.F ht⟩) hS.2.2 dX0_rank_38
  · replace hf := hf.2 c1
    refine lv_aload_n hx hb dX0_rank_7 rfl (lv_at hl 0 rfl) ?_
    refine va_get (D := (dC, dI)) (ci := 0) (v := .int fId) (C := RX0) (T := TX0) (N := 4) hx hb hts hinX0 hown hK.1 hP 0 rfl rfl 1 (by decide) w15 (fun _ h9 => h9) rfl dX0_rank_8 ?_
    refine lv_bipush (v := 19) hx hb dX0_rank_11 (by decide) ?_
    refine lv_ishl hx hb dX0_rank_13 ?_
    exact W.iret (v := fId <<< (19 &&& 31)) hx hb hr (fun t ht hW => ⟨⟨fId <<< (19 &&& 31), (fLong, fId, fData, fSize), rfl, ⟨hf, hSS⟩, by rw [ht]; exact hP, hD⟩, hS.F ht⟩) hS.2.2 dX0_rank_14
