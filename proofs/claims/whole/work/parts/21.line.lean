def wp_X1_bitAt_21 (K : Int32 → Prop) : LineS → Prop := fun (bits, places, len, head, framed, alike, last, check) => K 1
def wp_X1_bitAt : LineS → Int32 → (Int32 → Prop) → Prop := fun (bits, places, len, head, framed, alike, last, check) p0 K => ((p0 < 0 → wp_X1_bitAt_21 K (bits, places, len, head, framed, alike, last, check)) ∧ (¬ p0 < 0 → ((len ≤ p0 → wp_X1_bitAt_21 K (bits, places, len, head, framed, alike, last, check)) ∧ (¬ len ≤ p0 → (vp_in p0 160 ∧ K (bits p0.toNatClampNeg))))))
set_option maxHeartbeats 4000000 in
set_option maxRecDepth 100000 in
theorem j_X1_bitAt_21 {p : Program} {l : Launch} {e : Env} {s : State} {m : MethodId} {args : Array Value} {below : List Frame} {meth : Method} {c : Code} {dC : Nat → ClassId} {dI : Nat → Nat → Nat} {y : Nat → ClassId} {A : Nat → Prop} (C0 : Cx p s m args meth c cX1_bitAt 2 (some .int) wsX1_bitAt RX1 A dC dI y) (a : LineA) (K : Int32 → Prop) (S0 : LineS) : ∀ (S : LineS) (H : Heap) (locs : List Loc) (ls : Array Slot), va_P (dC, dI) vwCl (lnW y a S) H → va_D A (lnW y a S) → va_S A s.heap H locs → lv_has ls 2 [] → S = S0 → wp_X1_bitAt_21 K S → W p l e ({ frames := 0, cells := 0, slots := 0, locals := 0 } : Room) s m args below meth c H locs 0 0 (MQ below (va_Qi (fun r u => K r ∧ u = S0) (BW dC dI A (fun u => lnW y a u)) A) args s 0 0 A) (F0 m 21 ls []) := by
  obtain ⟨hx, hb, hr, hml, hown, hts, hlocks, hA, hK⟩ := id C0
  intro S H locs ls hP hD hS hl hSS hf
  obtain ⟨bits, places, len, head, framed, alike, last, check⟩ := S
  unfold wp_X1_bitAt_21 at hf
  refine lv_iconst (v := 1) hx hb dX1_bitAt_21 (by decide) ?_
  exact W.iret (v := 1) hx hb hr (fun t ht hW => ⟨⟨1, (bits, places, len, head, framed, alike, last, check), rfl, ⟨hf, hSS⟩, by rw [ht]; exact hP, hD⟩, hS.F ht⟩) hS.2.2 dX1_bitAt_22
set_option maxHeartbeats 4000000 in
set_option maxRecDepth 100000 in
theorem c_X1_bitAt (l : Launch) (dC : Nat → ClassId) (dI : Nat → Nat → Nat) (y : Nat → ClassId) (a : LineA) (sz : Nat) (S : LineS) (p0 : Int32) (K : Int32 → Prop) (hf : wp_X1_bitAt S p0 K) : MI l yX1_bitAt wsX1_bitAt { frames := 0, cells := 0, slots := 0, locals := 0 } dC dI y [.ref a.1, .int p0] (lnW y a S) sz (fun u => lnW y a u) (fun r u => K r ∧ u = S) := by
  refine Met.ofW (cc := cX1_bitAt) (maxL := 2) (ret := (some .int)) (by decide) rfl ?_
  intro p e s m args below meth c s₁ B hml hv
  obtain ⟨rfl, hsz, hP, hK, hD0⟩ := hv
  have hx := B.exec
  have hb := B.bytes
  have hr := B.returns
  have hts := atoms_spec (ws := wsX1_bitAt) B.pre
  have hown : s.vm.findClass RX1 = some m.cls := findClass_of_methodNamed B.named
  have hlocks := B.notSynchronized
  subst hsz
  have hD := hD0.self (sz := s.heap.size)
  generalize hAe : va_A (lnW y a S) s.heap.size = A at hD ⊢
  have hA : ∀ q : Nat, s.heap.size ≤ q → A q := fun q h => by rw [← hAe]; exact Or.inr h
  have hS : va_S A s.heap s.heap [] := va_S.rf
  have C0 : Cx p s m [.ref a.1, .int p0].toArray meth c cX1_bitAt 2 (some .int) wsX1_bitAt RX1 A dC dI y := ⟨hx, hb, hr, hml, hown, hts, hlocks, hA, hK⟩
  have w9 := hts (.fieldLink RX1 9 "SharedWire$Line" "bits" "[I") (List.mem_of_getElem? (i := 2) rfl)
  have w18 := hts (.fieldLink RX1 18 "SharedWire$Line" "length" "I") (List.mem_of_getElem? (i := 1) rfl)
  have hinX1 : ∀ w ∈ wsX10, w ∈ wsX1_bitAt := fun w h => List.mem_cons_of_mem _ (List.mem_append_right _ (h))
  have hl := lv_entry ([.ref a.1, .int p0]) (n := 2) (Nat.le_of_ble_eq_true rfl)
  rw [lg_entry_eq]
  generalize (lg_sl ([.ref a.1, .int p0]) ++ List.replicate (2 - (lg_sl ([.ref a.1, .int p0])).length) Slot.unset).toArray = ls at hl ⊢
  have hl : lv_has ls 2 [(0, .ref a.1), (1, .int p0)] := hl
  obtain ⟨bits, places, len, head, framed, alike, last, check⟩ := S
  have hSS : (bits, places, len, head, framed, alike, last, check) = (bits, places, len, head, framed, alike, last, check) := rfl
  clear hAe hD0
  generalize hL0 : ([] : List Loc) = locs at hS ⊢
  unfold wp_X1_bitAt at hf
  refine lv_iload_n hx hb dX1_bitAt_0 rfl (lv_at hl 1 rfl) ?_
  refine lv_if_lt (tgt := 21) hx hb dX1_bitAt_1 (by decide) (fun c1 => ?_) (fun c1 => ?_)
  · replace hf := hf.1 c1
    exact j_X1_bitAt_21 C0 a K _ (bits, places, len, head, framed, alike, last, check) s.heap locs ls hP hD hS (lv_sub hl [] rfl) hSS hf
  · replace hf := hf.2 c1
    refine lv_iload_n hx hb dX1_bitAt_4 rfl (lv_at hl 1 rfl) ?_
    refine lv_aload_n hx hb dX1_bitAt_5 rfl (lv_at hl 0 rfl) ?_
    refine va_get (D := (dC, dI)) (ci := 1) (v := .int len) (C := RX1) (T := TX1) (N := 8) hx hb hts hinX1 hown hK.1 hP 0 rfl rfl 2 (by decide) w18 (fun _ h9 => h9) rfl dX1_bitAt_6 ?_
    refine lv_icmp_ge (tgt := 21) hx hb dX1_bitAt_9 (by decide) (fun c2 => ?_) (fun c2 => ?_)
    · replace hf := hf.1 c2
      exact j_X1_bitAt_21 C0 a K _ (bits, places, len, head, framed, alike, last, check) s.heap locs ls hP hD hS (lv_sub hl [] rfl) hSS hf
    · replace hf := hf.2 c2
      refine lv_aload_n hx hb dX1_bitAt_12 rfl (lv_at hl 0 rfl) ?_
      refine va_get (D := (dC, dI)) (ci := 1) (v := .ref a.2.1) (C := RX1) (T := TX1) (N := 8) hx hb hts hinX1 hown hK.1 hP 0 rfl rfl 0 (by decide) w9 (fun _ h9 => h9) rfl dX1_bitAt_13 ?_
      refine lv_iload_n hx hb dX1_bitAt_16 rfl (lv_at hl 1 rfl) ?_
      have g3 := hf.1
      replace hf := hf.2
      refine ar_ild (f := bits) (j := p0.toNatClampNeg) hx hb hK.1 hP 1 0 rfl rfl rfl g3 dX1_bitAt_17 ?_
      refine lv_goto (tgt := 22) hx hb dX1_bitAt_18 (by decide) ?_
      exact W.iret (v := bits p0.toNatClampNeg) hx hb hr (fun t ht hW => ⟨⟨bits p0.toNatClampNeg, (bits, places, len, head, framed, alike, last, check), rfl, ⟨hf, hSS⟩, by rw [ht]; exact hP, hD⟩, hS.F ht⟩) hS.2.2 dX1_bitAt_22

def wp_X1_isAnswer : LineS → Int32 → (Int32 → Prop) → Prop := fun (bits, places, len, head, framed, alike, last, check) p0 K => ((¬ p0 = (len - 10) + 1 → K 0) ∧ (p0 = (len - 10) + 1 → K 1))
set_option maxHeartbeats 4000000 in
set_option maxRecDepth 100000 in
theorem c_X1_isAnswer (l : Launch) (dC : Nat → ClassId) (dI : Nat → Nat → Nat) (y : Nat → ClassId) (a : LineA) (sz : Nat) (S : LineS) (p0 : Int32) (K : Int32 → Prop) (hf : wp_X1_isAnswer S p0 K) : MI l yX1_isAnswer wsX1_isAnswer { frames := 0, cells := 0, slots := 0, locals := 0 } dC dI y [.ref a.1, .int p0] (lnW y a S) sz (fun u => lnW y a u) (fun r u => K r ∧ u = S) := by
  refine Met.ofW (cc := cX1_isAnswer) (maxL := 2) (ret := (some .boolean)) (by decide) rfl ?_
  intro p e s m args below meth c s₁ B hml hv
  obtain ⟨rfl, hsz, hP, hK, hD0⟩ := hv
  have hx := B.exec
  have hb := B.bytes
  have hr := B.returns
  have hts := atoms_spec (ws := wsX1_isAnswer) B.pre
  have hown : s.vm.findClass RX1 = some m.cls := findClass_of_methodNamed B.named
  have hlocks := B.notSynchronized
  subst hsz
  have hD := hD0.self (sz := s.heap.size)
  generalize hAe : va_A (lnW y a S) s.heap.size = A at hD ⊢
  have hA : ∀ q : Nat, s.heap.size ≤ q → A q := fun q h => by rw [← hAe]; exact Or.inr h
  have hS : va_S A s.heap s.heap [] := va_S.rf
  have C0 : Cx p s m [.ref a.1, .int p0].toArray meth c cX1_isAnswer 2 (some .boolean) wsX1_isAnswer RX1 A dC dI y := ⟨hx, hb, hr, hml, hown, hts, hlocks, hA, hK⟩
  have w18 := hts (.fieldLink RX1 18 "SharedWire$Line" "length" "I") (List.mem_of_getElem? (i := 1) rfl)
  have hinX1 : ∀ w ∈ wsX10, w ∈ wsX1_isAnswer := fun w h => List.mem_cons_of_mem _ (List.mem_append_right _ (h))
  have hl := lv_entry ([.ref a.1, .int p0]) (n := 2) (Nat.le_of_ble_eq_true rfl)
  rw [lg_entry_eq]
  generalize (lg_sl ([.ref a.1, .int p0]) ++ List.replicate (2 - (lg_sl ([.ref a.1, .int p0])).length) Slot.unset).toArray = ls at hl ⊢
  have hl : lv_has ls 2 [(0, .ref a.1), (1, .int p0)] := hl
  obtain ⟨bits, places, len, head, framed, alike, last, check⟩ := S
  have hSS : (bits, places, len, head, framed, alike, last, check) = (bits, places, len, head, framed, alike, last, check) := rfl
  clear hAe hD0
  generalize hL0 : ([] : List Loc) = locs at hS ⊢
  unfold wp_X1_isAnswer at hf
  refine lv_iload_n hx hb dX1_isAnswer_0 rfl (lv_at hl 1 rfl) ?_
  refine lv_aload_n hx hb dX1_isAnswer_1 rfl (lv_at hl 0 rfl) ?_
  refine va_get (D := (dC, dI)) (ci := 1) (v := .int len) (C := RX1) (T := TX1) (N := 8) hx hb hts hinX1 hown hK.1 hP 0 rfl rfl 2 (by decide) w18 (fun _ h9 => h9) rfl dX1_isAnswer_2 ?_
  refine lv_bipush (v := 10) hx hb dX1_isAnswer_5 (by decide) ?_
  refine lv_isub hx hb dX1_isAnswer_7 ?_
  refine lv_iconst (v := 1) hx hb dX1_isAnswer_8 (by decide) ?_
  refine lv_iadd hx hb dX1_isAnswer_9 ?_
  refine lv_icmp_ne (tgt := 17) hx hb dX1_isAnswer_10 (by decide) (fun c1 => ?_) (fun c1 => ?_)
  · replace hf := hf.1 c1
    refine lv_iconst (v := 0) hx hb dX1_isAnswer_17 (by decide) ?_
    exact W.zret (v := 0) (ty := .boolean) hx hb hr rfl (fun t ht hW => ⟨⟨0, (bits, places, len, head, framed, alike, last, check), rfl, ⟨hf, hSS⟩, by rw [ht]; exact hP, hD⟩, hS.F ht⟩) hS.2.2 dX1_isAnswer_18
  · replace hf := hf.2 c1
    refine lv_iconst (v := 1) hx hb dX1_isAnswer_13 (by decide) ?_
    refine lv_goto (tgt := 18) hx hb dX1_isAnswer_14 (by decide) ?_
    exact W.zret (v := 1) (ty := .boolean) hx hb hr rfl (fun t ht hW => ⟨⟨1, (bits, places, len, head, framed, alike, last, check), rfl, ⟨hf, hSS⟩, by rw [ht]; exact hP, hD⟩, hS.F ht⟩) hS.2.2 dX1_isAnswer_18

def wp_X1_mayLose_31 (K : Int32 → Prop) : LineS → Prop := fun (bits, places, len, head, framed, alike, last, check) => K 0
def wp_X1_mayLose : LineS → Int32 → (Int32 → Prop) → Prop := fun (bits, places, len, head, framed, alike, last, check) p0 K => ((p0 < 0 → wp_X1_mayLose_31 K (bits, places, len, head, framed, alike, last, check)) ∧ (¬ p0 < 0 → ((len ≤ p0 → wp_X1_mayLose_31 K (bits, places, len, head, framed, alike, last, check)) ∧ (¬ len ≤ p0 → (vp_in p0 160 ∧ ((bits p0.toNatClampNeg = 0 → wp_X1_mayLose_31 K (bits, places, len, head, framed, alike, last, check)) ∧ (¬ bits p0.toNatClampNeg = 0 → (vp_in p0 160 ∧ ((¬ places p0.toNatClampNeg = (-1) → (vp_in p0 160 ∧ (((head - 1) - (places p0.toNatClampNeg) ≤ 2 → K 0) ∧ (¬ (head - 1) - (places p0.toNatClampNeg) ≤ 2 → K 1)))) ∧ (places p0.toNatClampNeg = (-1) → wp_X1_mayLose_31 K (bits, places, len, head, framed, alike, last, check)))))))))))
set_option maxHeartbeats 4000000 in
set_option maxRecDepth 100000 in
theorem j_X1_mayLose_31 {p : Program} {l : Launch} {e : Env} {s : State} {m : MethodId} {args : Array Value} {below : List Frame} {meth : Method} {c : Code} {dC : Nat → ClassId} {dI : Nat → Nat → Nat} {y : Nat → ClassId} {A : Nat → Prop} (C0 : Cx p s m args meth c cX1_mayLose 2 (some .boolean) wsX1_mayLose RX1 A dC dI y) (a : LineA) (K : Int32 → Prop) (S0 : LineS) : ∀ (S : LineS) (H : Heap) (locs : List Loc) (ls : Array Slot), va_P (dC, dI) vwCl (lnW y a S) H → va_D A (lnW y a S) → va_S A s.heap H locs → lv_has ls 2 [] → S = S0 → wp_X1_mayLose_31 K S → W p l e ({ frames := 0, cells := 0, slots := 0, locals := 0 } : Room) s m args below meth c H locs 0 0 (MQ below (va_Qi (fun r u => K r ∧ u = S0) (BW dC dI A (fun u => lnW y a u)) A) args s 0 0 A) (F0 m 31 ls []) := by
  obtain ⟨hx, hb, hr, hml, hown, hts, hlocks, hA, hK⟩ := id C0
  intro S H locs ls hP hD hS hl hSS hf
  obtain ⟨bits, places, len, head, framed, alike, last, check⟩ := S
  unfold wp_X1_mayLose_31 at hf
  refine lv_iconst (v := 0) hx hb dX1_mayLose_31 (by decide) ?_
  exact W.zret (v := 0) (ty := .boolean) hx hb hr rfl (fun t ht hW => ⟨⟨0, (bits, places, len, head, framed, alike, last, check), rfl, ⟨hf, hSS⟩, by rw [ht]; exact hP, hD⟩, hS.F ht⟩) hS.2.2 dX1_mayLose_32
set_option maxHeartbeats 4000000 in
set_option maxRecDepth 100000 in
theorem c_X1_mayLose (l : Launch) (dC : Nat → ClassId) (dI : Nat → Nat → Nat) (y : Nat → ClassId) (a : LineA) (sz : Nat) (S : LineS) (p0 : Int32) (K : Int32 → Prop) (hf : wp_X1_mayLose S p0 K) : MI l yX1_mayLose wsX1_mayLose { frames := 0, cells := 0, slots := 0, locals := 0 } dC dI y [.ref a.1, .int p0] (lnW y a S) sz (fun u => lnW y a u) (fun r u => K r ∧ u = S) := by
  refine Met.ofW (cc := cX1_mayLose) (maxL := 2) (ret := (some .boolean)) (by decide) rfl ?_
  intro p e s m args below meth c s₁ B hml hv
  obtain ⟨rfl, hsz, hP, hK, hD0⟩ := hv
  have hx := B.exec
  have hb := B.bytes
  have hr := B.returns
  have hts := atoms_spec (ws := wsX1_mayLose) B.pre
  have hown : s.vm.findClass RX1 = some m.cls := findClass_of_methodNamed B.named
  have hlocks := B.notSynchronized
  subst hsz
  have hD := hD0.self (sz := s.heap.size)
  generalize hAe : va_A (lnW y a S) s.heap.size = A at hD ⊢
  have hA : ∀ q : Nat, s.heap.size ≤ q → A q := fun q h => by rw [← hAe]; exact Or.inr h
  have hS : va_S A s.heap s.heap [] := va_S.rf
  have C0 : Cx p s m [.ref a.1, .int p0].toArray meth c cX1_mayLose 2 (some .boolean) wsX1_mayLose RX1 A dC dI y := ⟨hx, hb, hr, hml, hown, hts, hlocks, hA, hK⟩
  have w9 := hts (.fieldLink RX1 9 "SharedWire$Line" "bits" "[I") (List.mem_of_getElem? (i := 2) rfl)
  have w15 := hts (.fieldLink RX1 15 "SharedWire$Line" "places" "[I") (List.mem_of_getElem? (i := 3) rfl)
  have w18 := hts (.fieldLink RX1 18 "SharedWire$Line" "length" "I") (List.mem_of_getElem? (i := 1) rfl)
  have w22 := hts (.fieldLink RX1 22 "SharedWire$Line" "head" "I") (List.mem_of_getElem? (i := 4) rfl)
  have hinX1 : ∀ w ∈ wsX10, w ∈ wsX1_mayLose := fun w h => List.mem_cons_of_mem _ (List.mem_append_right _ (h))
  have hl := lv_entry ([.ref a.1, .int p0]) (n := 2) (Nat.le_of_ble_eq_true rfl)
  rw [lg_entry_eq]
  generalize (lg_sl ([.ref a.1, .int p0]) ++ List.replicate (2 - (lg_sl ([.ref a.1, .int p0])).length) Slot.unset).toArray = ls at hl ⊢
  have hl : lv_has ls 2 [(0, .ref a.1), (1, .int p0)] := hl
  obtain ⟨bits, places, len, head, framed, alike, last, check⟩ := S
  have hSS : (bits, places, len, head, framed, alike, last, check) = (bits, places, len, head, framed, alike, last, check) := rfl
  clear hAe hD0
  generalize hL0 : ([] : List Loc) = locs at hS ⊢
  unfold wp_X1_mayLose at hf
  refine lv_iload_n hx hb dX1_mayLose_0 rfl (lv_at hl 1 rfl) ?_
  refine lv_if_lt (tgt := 31) hx hb dX1_mayLose_1 (by decide) (fun c1 => ?_) (fun c1 => ?_)
  · replace hf := hf.1 c1
    exact j_X1_mayLose_31 C0 a K _ (bits, places, len, head, framed, alike, last, check) s.heap locs ls hP hD hS (lv_sub hl [] rfl) hSS hf
  · replace hf := hf.2 c1
    refine lv_iload_n hx hb dX1_mayLose_4 rfl (lv_at hl 1 rfl) ?_
    refine lv_aload_n hx hb dX1_mayLose_5 rfl (lv_at hl 0 rfl) ?_
    refine va_get (D := (dC, dI)) (ci := 1) (v := .int len) (C := RX1) (T := TX1) (N := 8) hx hb hts hinX1 hown hK.1 hP 0 rfl rfl 2 (by decide) w18 (fun _ h9 => h9) rfl dX1_mayLose_6 ?_
    refine lv_icmp_ge (tgt := 31) hx hb dX1_mayLose_9 (by decide) (fun c2 => ?_) (fun c2 => ?_)
    · replace hf := hf.1 c2
      exact j_X1_mayLose_31 C0 a K _ (bits, places, len, head, framed, alike, last, check) s.heap locs ls hP hD hS (lv_sub hl [] rfl) hSS hf
    · replace hf := hf.2 c2
      refine lv_aload_n hx hb dX1_mayLose_12 rfl (lv_at hl 0 rfl) ?_
      refine va_get (D := (dC, dI)) (ci := 1) (v := .ref a.2.1) (C := RX1) (T := TX1) (N := 8) hx hb hts hinX1 hown hK.1 hP 0 rfl rfl 0 (by decide) w9 (fun _ h9 => h9) rfl dX1_mayLose_13 ?_
      refine lv_iload_n hx hb dX1_mayLose_16 rfl (lv_at hl 1 rfl) ?_
      have g3 := hf.1
      replace hf := hf.2
      refine ar_ild (f := bits) (j := p0.toNatClampNeg) hx hb hK.1 hP 1 0 rfl rfl rfl g3 dX1_mayLose_17 ?_
      refine lv_if_eq (tgt := 31) hx hb dX1_mayLose_18 (by decide) (fun c4 => ?_) (fun c4 => ?_)
      · replace hf := hf.1 c4
        exact j_X1_mayLose_31 C0 a K _ (bits, places, len, head, framed, alike, last, check) s.heap locs ls hP hD hS (lv_sub hl [] rfl) hSS hf
      · replace hf := hf.2 c4
        refine lv_aload_n hx hb dX1_mayLose_21 rfl (lv_at hl 0 rfl) ?_
        refine va_get (D := (dC, dI)) (ci := 1) (v := .ref a.2.2) (C := RX1) (T := TX1) (N := 8) hx hb hts hinX1 hown hK.1 hP 0 rfl rfl 1 (by decide) w15 (fun _ h9 => h9) rfl dX1_mayLose_22 ?_
        refine lv_iload_n hx hb dX1_mayLose_25 rfl (lv_at hl 1 rfl) ?_
        have g5 := hf.1
        replace hf := hf.2
        refine ar_ild (f := places) (j := p0.toNatClampNeg) hx hb hK.1 hP 2 0 rfl rfl rfl g5 dX1_mayLose_26 ?_
        refine lv_iconst (v := (-1)) hx hb dX1_mayLose_27 (by decide) ?_
        refine lv_icmp_ne (tgt := 33) hx hb dX1_mayLose_28 (by decide) (fun c6 => ?_) (fun c6 => ?_)
        · replace hf := hf.1 c6
          refine lv_aload_n hx hb dX1_mayLose_33 rfl (lv_at hl 0 rfl) ?_
          refine va_get (D := (dC, dI)) (ci := 1) (v := .int head) (C := RX1) (T := TX1) (N := 8) hx hb hts hinX1 hown hK.1 hP 0 rfl rfl 3 (by decide) w22 (fun _ h9 => h9) rfl dX1_mayLose_34 ?_
          refine lv_iconst (v := 1) hx hb dX1_mayLose_37 (by decide) ?_
          refine lv_isub hx hb dX1_mayLose_38 ?_
          refine lv_aload_n hx hb dX1_mayLose_39 rfl (lv_at hl 0 rfl) ?_
          refine va_get (D := (dC, dI)) (ci := 1) (v := .ref a.2.2) (C := RX1) (T := TX1) (N := 8) hx hb hts hinX1 hown hK.1 hP 0 rfl rfl 1 (by decide) w15 (fun _ h9 => h9) rfl dX1_mayLose_40 ?_
          refine lv_iload_n hx hb dX1_mayLose_43 rfl (lv_at hl 1 rfl) ?_
          have g7 := hf.1
          replace hf := hf.2
          refine ar_ild (f := places) (j := p0.toNatClampNeg) hx hb hK.1 hP 2 0 rfl rfl rfl g7 dX1_mayLose_44 ?_
          refine lv_isub hx hb dX1_mayLose_45 ?_
          refine lv_iconst (v := 2) hx hb dX1_mayLose_46 (by decide) ?_
          refine lv_icmp_le (tgt := 54) hx hb dX1_mayLose_47 (by decide) (fun c8 => ?_) (fun c8 => ?_)
          · replace hf := hf.1 c8
            refine lv_iconst (v := 0) hx hb dX1_mayLose_54 (by decide) ?_
            exact W.zret (v := 0) (ty := .boolean) hx hb hr rfl (fun t ht hW => ⟨⟨0, (bits, places, len, head, framed, alike, last, check), rfl, ⟨hf, hSS⟩, by rw [ht]; exact hP, hD⟩, hS.F ht⟩) hS.2.2 dX1_mayLose_55
          · replace hf := hf.2 c8
            refine lv_iconst (v := 1) hx hb dX1_mayLose_50 (by decide) ?_
            refine lv_goto (tgt := 55) hx hb dX1_mayLose_51 (by decide) ?_
            exact W.zret (v := 1) (ty := .boolean) hx hb hr rfl (fun t ht hW => ⟨⟨1, (bits, places, len, head, framed, alike, last, check), rfl, ⟨hf, hSS⟩, by rw [ht]; exact hP, hD⟩, hS.F ht⟩) hS.2.2 dX1_mayLose_55
        · replace hf := hf.2 c6
          exact j_X1_mayLose_31 C0 a K _ (bits, places, len, head, framed, alike, last, check) s.heap locs ls hP hD hS (lv_sub hl [] rfl) hSS hf

def wp_X1_clear : LineS → (LineS → Prop) → Prop := fun (bits, places, len, head, framed, alike, last, check) K => K (bits, places, 0, head, 0, 0, (-1), 0)
set_option maxHeartbeats 4000000 in
set_option maxRecDepth 100000 in
theorem c_X1_clear (l : Launch) (dC : Nat → ClassId) (dI : Nat → Nat → Nat) (y : Nat → ClassId) (a : LineA) (sz : Nat) (S : LineS) (K : LineS → Prop) (hf : wp_X1_clear S K) : MV l yX1_clear wsX1_clear { frames := 0, cells := 0, slots := 0, locals := 0 } dC dI y [.ref a.1] (lnW y a S) sz (fun u => lnW y a u) K := by
  refine Met.ofW (cc := cX1_clear) (maxL := 1) (ret := none) (by decide) rfl ?_
  intro p e s m args below meth c s₁ B hml hv
  obtain ⟨rfl, hsz, hP, hK, hD0⟩ := hv
  have hx := B.exec
  have hb := B.bytes
  have hr := B.returns
  have hts := atoms_spec (ws := wsX1_clear) B.pre
  have hown : s.vm.findClass RX1 = some m.cls := findClass_of_methodNamed B.named
  have hlocks := B.notSynchronized
  subst hsz
  have hD := hD0.self (sz := s.heap.size)
  generalize hAe : va_A (lnW y a S) s.heap.size = A at hD ⊢
  have hA : ∀ q : Nat, s.heap.size ≤ q → A q := fun q h => by rw [← hAe]; exact Or.inr h
  have hS : va_S A s.heap s.heap [] := va_S.rf
  have C0 : Cx p s m [.ref a.1].toArray meth c cX1_clear 1 none wsX1_clear RX1 A dC dI y := ⟨hx, hb, hr, hml, hown, hts, hlocks, hA, hK⟩
  have w18 := hts (.fieldLink RX1 18 "SharedWire$Line" "length" "I") (List.mem_of_getElem? (i := 1) rfl)
  have w25 := hts (.fieldLink RX1 25 "SharedWire$Line" "framed" "I") (List.mem_of_getElem? (i := 2) rfl)
  have w28 := hts (.fieldLink RX1 28 "SharedWire$Line" "alike" "I") (List.mem_of_getElem? (i := 3) rfl)
  have w31 := hts (.fieldLink RX1 31 "SharedWire$Line" "last" "I") (List.mem_of_getElem? (i := 4) rfl)
  have w34 := hts (.fieldLink RX1 34 "SharedWire$Line" "check" "I") (List.mem_of_getElem? (i := 5) rfl)
  have hinX1 : ∀ w ∈ wsX10, w ∈ wsX1_clear := fun w h => List.mem_cons_of_mem _ (List.mem_append_right _ (h))
  have hl := lv_entry ([.ref a.1]) (n := 1) (Nat.le_of_ble_eq_true rfl)
  rw [lg_entry_eq]
  generalize (lg_sl ([.ref a.1]) ++ List.replicate (1 - (lg_sl ([.ref a.1])).length) Slot.unset).toArray = ls at hl ⊢
  have hl : lv_has ls 1 [(0, .ref a.1)] := hl
  obtain ⟨bits, places, len, head, framed, alike, last, check⟩ := S
  clear hAe hD0
  generalize hL0 : ([] : List Loc) = locs at hS ⊢
  unfold wp_X1_clear at hf
  refine lv_aload_n hx hb dX1_clear_0 rfl (lv_at hl 0 rfl) ?_
  refine lv_iconst (v := 0) hx hb dX1_clear_1 (by decide) ?_
  refine va_put (D := (dC, dI)) (ci := 1) (v := .int 0) (ty := .int) (C := RX1) (T := TX1) (N := 8) hx hb hts hinX1 tyX1 tyX1_ok nmX1 hown hK.1 hP hD hS 0 rfl rfl 2 (by decide) w18 (fun _ h9 => h9) rfl (by decide +kernel) rfl rfl (Nat.le_of_ble_eq_true rfl) dX1_clear_2 (fun H locs hP hD hS => ?_)
  have hP : va_P (dC, dI) vwCl (lnW y a (bits, places, 0, head, framed, alike, last, check)) H := hP
  have hD : va_D A (lnW y a (bits, places, 0, head, framed, alike, last, check)) := hD
  refine lv_aload_n hx hb dX1_clear_5 rfl (lv_at hl 0 rfl) ?_
  refine lv_iconst (v := 0) hx hb dX1_clear_6 (by decide) ?_
  refine va_put (D := (dC, dI)) (ci := 1) (v := .int 0) (ty := .int) (C := RX1) (T := TX1) (N := 8) hx hb hts hinX1 tyX1 tyX1_ok nmX1 hown hK.1 hP hD hS 0 rfl rfl 4 (by decide) w25 (fun _ h9 => h9) rfl (by decide +kernel) rfl rfl (Nat.le_of_ble_eq_true rfl) dX1_clear_7 (fun H locs hP hD hS => ?_)
  have hP : va_P (dC, dI) vwCl (lnW y a (bits, places, 0, head, 0, alike, last, check)) H := hP
  have hD : va_D A (lnW y a (bits, places, 0, head, 0, alike, last, check)) := hD
  refine lv_aload_n hx hb dX1_clear_10 rfl (lv_at hl 0 rfl) ?_
  refine lv_iconst (v := 0) hx hb dX1_clear_11 (by decide) ?_
  refine va_put (D := (dC, dI)) (ci := 1) (v := .int 0) (ty := .int) (C := RX1) (T := TX1) (N := 8) hx hb hts hinX1 tyX1 tyX1_ok nmX1 hown hK.1 hP hD hS 0 rfl rfl 5 (by decide) w28 (fun _ h9 => h9) rfl (by decide +kernel) rfl rfl (Nat.le_of_ble_eq_true rfl) dX1_clear_12 (fun H locs hP hD hS => ?_)
  have hP : va_P (dC, dI) vwCl (lnW y a (bits, places, 0, head, 0, 0, last, check)) H := hP
  have hD : va_D A (lnW y a (bits, places, 0, head, 0, 0, last, check)) := hD
  refine lv_aload_n hx hb dX1_clear_15 rfl (lv_at hl 0 rfl) ?_
  refine lv_iconst (v := (-1)) hx hb dX1_clear_16 (by decide) ?_
  refine va_put (D := (dC, dI)) (ci := 1) (v := .int (-1)) (ty := .int) (C := RX1) (T := TX1) (N := 8) hx hb hts hinX1 tyX1 tyX1_ok nmX1 hown hK.1 hP hD hS 0 rfl rfl 6 (by decide) w31 (fun _ h9 => h9) rfl (by decide +kernel) rfl rfl (Nat.le_of_ble_eq_true rfl) dX1_clear_17 (fun H locs hP hD hS => ?_)
  have hP : va_P (dC, dI) vwCl (lnW y a (bits, places, 0, head, 0, 0, (-1), check)) H := hP
  have hD : va_D A (lnW y a (bits, places, 0, head, 0, 0, (-1), check)) := hD
  refine lv_aload_n hx hb dX1_clear_20 rfl (lv_at hl 0 rfl) ?_
  refine lv_iconst (v := 0) hx hb dX1_clear_21 (by decide) ?_
  refine va_put (D := (dC, dI)) (ci := 1) (v := .int 0) (ty := .int) (C := RX1) (T := TX1) (N := 8) hx hb hts hinX1 tyX1 tyX1_ok nmX1 hown hK.1 hP hD hS 0 rfl rfl 7 (by decide) w34 (fun _ h9 => h9) rfl (by decide +kernel) rfl rfl (Nat.le_of_ble_eq_true rfl) dX1_clear_22 (fun H locs hP hD hS => ?_)
  have hP : va_P (dC, dI) vwCl (lnW y a (bits, places, 0, head, 0, 0, (-1), 0)) H := hP
  have hD : va_D A (lnW y a (bits, places, 0, head, 0, 0, (-1), 0)) := hD
  exact W.vret hx hb hr (fun t ht hW => ⟨⟨(bits, places, 0, head, 0, 0, (-1), 0), rfl, hf, by rw [ht]; exact hP, hD⟩, hS.F ht⟩) hS.2.2 dX1_clear_25

def wp_X1_append_60 (K : LineS → Prop) : LineS → Int32 → Int32 → Prop := fun (bits, places, len, head, framed, alike, last, check) v1 k0 => K (bits, places, len, head, framed, k0, v1, check)
def wp_X1_append : LineS → Int32 → Int32 → (LineS → Prop) → Prop := fun (bits, places, len, head, framed, alike, last, check) p0 p1 K => ((len < 160 → (vp_in len 160 ∧ (vp_in len 160 ∧ ((¬ p0 = last → wp_X1_append_60 K ((upd bits len.toNatClampNeg p0), (upd places len.toNatClampNeg p1), len + 1, head, framed, alike, last, check) p0 1) ∧ (p0 = last → wp_X1_append_60 K ((upd bits len.toNatClampNeg p0), (upd places len.toNatClampNeg p1), len + 1, head, framed, alike, last, check) p0 (alike + 1)))))) ∧ (¬ len < 160 → K (bits, places, len, head, framed, alike, last, check)))
set_option maxHeartbeats 4000000 in
set_option maxRecDepth 100000 in
theorem j_X1_append_60 {p : Program} {l : Launch} {e : Env} {s : State} {m : MethodId} {args : Array Value} {below : List Frame} {meth : Method} {c : Code} {dC : Nat → ClassId} {dI : Nat → Nat → Nat} {y : Nat → ClassId} {A : Nat → Prop} (C0 : Cx p s m args meth c cX1_append 3 none wsX1_append RX1 A dC dI y) (a : LineA) (K : LineS → Prop) : ∀ (S : LineS) (v1 : Int32) (k0 : Int32) (H : Heap) (locs : List Loc) (ls : Array Slot), va_P (dC, dI) vwCl (lnW y a S) H → va_D A (lnW y a S) → va_S A s.heap H locs → lv_has ls 3 [(0, .ref a.1), (1, .int v1)] → wp_X1_append_60 K S v1 k0 → W p l e ({ frames := 0, cells := 0, slots := 0, locals := 0 } : Room) s m args below meth c H locs 0 0 (MQ below (va_Qv K (BW dC dI A (fun u => lnW y a u)) A) args s 0 0 A) (F0 m 60 ls [.int k0, .ref a.1]) := by
  obtain ⟨hx, hb, hr, hml, hown, hts, hlocks, hA, hK⟩ := id C0
  have w28 := hts (.fieldLink RX1 28 "SharedWire$Line" "alike" "I") (List.mem_of_getElem? (i := 5) rfl)
  have w31 := hts (.fieldLink RX1 31 "SharedWire$Line" "last" "I") (List.mem_of_getElem? (i := 4) rfl)
  have hinX1 : ∀ w ∈ wsX10, w ∈ wsX1_append := fun w h => List.mem_cons_of_mem _ (List.mem_append_right _ (h))
  intro S v1 k0 H locs ls hP hD hS hl hf
  obtain ⟨bits, places, len, head, framed, alike, last, check⟩ := S
  unfold wp_X1_append_60 at hf
  refine va_put (D := (dC, dI)) (ci := 1) (v := .int k0) (ty := .int) (C := RX1) (T := TX1) (N := 8) hx hb hts hinX1 tyX1 tyX1_ok nmX1 hown hK.1 hP hD hS 0 rfl rfl 5 (by decide) w28 (fun _ h9 => h9) rfl (by decide +kernel) rfl rfl (Nat.le_of_ble_eq_true rfl) dX1_append_60 (fun H locs hP hD hS => ?_)
  have hP : va_P (dC, dI) vwCl (lnW y a (bits, places, len, head, framed, k0, last, check)) H := hP
  have hD : va_D A (lnW y a (bits, places, len, head, framed, k0, last, check)) := hD
  refine lv_aload_n hx hb dX1_append_63 rfl (lv_at hl 0 rfl) ?_
  refine lv_iload_n hx hb dX1_append_64 rfl (lv_at hl 1 rfl) ?_
  refine va_put (D := (dC, dI)) (ci := 1) (v := .int v1) (ty := .int) (C := RX1) (T := TX1) (N := 8) hx hb hts hinX1 tyX1 tyX1_ok nmX1 hown hK.1 hP hD hS 0 rfl rfl 6 (by decide) w31 (fun _ h9 => h9) rfl (by decide +kernel) rfl rfl (Nat.le_of_ble_eq_true rfl) dX1_append_65 (fun H locs hP hD hS => ?_)
  have hP : va_P (dC, dI) vwCl (lnW y a (bits, places, len, head, framed, k0, v1, check)) H := hP
  have hD : va_D A (lnW y a (bits, places, len, head, framed, k0, v1, check)) := hD
  exact W.vret hx hb hr (fun t ht hW => ⟨⟨(bits, places, len, head, framed, k0, v1, check), rfl, hf, by rw [ht]; exact hP, hD⟩, hS.F ht⟩) hS.2.2 dX1_append_68
set_option maxHeartbeats 4000000 in
set_option maxRecDepth 100000 in
theorem c_X1_append (l : Launch) (dC : Nat → ClassId) (dI : Nat → Nat → Nat) (y : Nat → ClassId) (a : LineA) (sz : Nat) (S : LineS) (p0 : Int32) (p1 : Int32) (K : LineS → Prop) (hf : wp_X1_append S p0 p1 K) : MV l yX1_append wsX1_append { frames := 0, cells := 0, slots := 0, locals := 0 } dC dI y [.ref a.1, .int p0, .int p1] (lnW y a S) sz (fun u => lnW y a u) K := by
  refine Met.ofW (cc := cX1_append) (maxL := 3) (ret := none) (by decide) rfl ?_
  intro p e s m args below meth c s₁ B hml hv
  obtain ⟨rfl, hsz, hP, hK, hD0⟩ := hv
  have hx := B.exec
  have hb := B.bytes
  have hr := B.returns
  have hts := atoms_spec (ws := wsX1_append) B.pre
  have hown : s.vm.findClass RX1 = some m.cls := findClass_of_methodNamed B.named
  have hlocks := B.notSynchronized
  subst hsz
  have hD := hD0.self (sz := s.heap.size)
  generalize hAe : va_A (lnW y a S) s.heap.size = A at hD ⊢
  have hA : ∀ q : Nat, s.heap.size ≤ q → A q := fun q h => by rw [← hAe]; exact Or.inr h
  have hS : va_S A s.heap s.heap [] := va_S.rf
  have C0 : Cx p s m [.ref a.1, .int p0, .int p1].toArray meth c cX1_append 3 none wsX1_append RX1 A dC dI y := ⟨hx, hb, hr, hml, hown, hts, hlocks, hA, hK⟩
  have w9 := hts (.fieldLink RX1 9 "SharedWire$Line" "bits" "[I") (List.mem_of_getElem? (i := 2) rfl)
  have w15 := hts (.fieldLink RX1 15 "SharedWire$Line" "places" "[I") (List.mem_of_getElem? (i := 3) rfl)
  have w18 := hts (.fieldLink RX1 18 "SharedWire$Line" "length" "I") (List.mem_of_getElem? (i := 1) rfl)
  have w28 := hts (.fieldLink RX1 28 "SharedWire$Line" "alike" "I") (List.mem_of_getElem? (i := 5) rfl)
  have w31 := hts (.fieldLink RX1 31 "SharedWire$Line" "last" "I") (List.mem_of_getElem? (i := 4) rfl)
  have hinX1 : ∀ w ∈ wsX10, w ∈ wsX1_append := fun w h => List.mem_cons_of_mem _ (List.mem_append_right _ (h))
  have hl := lv_entry ([.ref a.1, .int p0, .int p1]) (n := 3) (Nat.le_of_ble_eq_true rfl)
  rw [lg_entry_eq]
  generalize (lg_sl ([.ref a.1, .int p0, .int p1]) ++ List.replicate (3 - (lg_sl ([.ref a.1, .int p0, .int p1])).length) Slot.unset).toArray = ls at hl ⊢
  have hl : lv_has ls 3 [(0, .ref a.1), (1, .int p0), (2, .int p1)] := hl
  obtain ⟨bits, places, len, head, framed, alike, last, check⟩ := S
  clear hAe hD0
  generalize hL0 : ([] : List Loc) = locs at hS ⊢
  unfold wp_X1_append at hf
  refine lv_aload_n hx hb dX1_append_0 rfl (lv_at hl 0 rfl) ?_
  refine va_get (D := (dC, dI)) (ci := 1) (v := .int len) (C := RX1) (T := TX1) (N := 8) hx hb hts hinX1 hown hK.1 hP 0 rfl rfl 2 (by decide) w18 (fun _ h9 => h9) rfl dX1_append_1 ?_
  refine lv_sipush (v := 160) hx hb dX1_append_4 (by decide) ?_
  refine lv_icmp_lt (tgt := 11) hx hb dX1_append_7 (by decide) (fun c1 => ?_) (fun c1 => ?_)
  · replace hf := hf.1 c1
    refine lv_aload_n hx hb dX1_append_11 rfl (lv_at hl 0 rfl) ?_
    refine va_get (D := (dC, dI)) (ci := 1) (v := .ref a.2.1) (C := RX1) (T := TX1) (N := 8) hx hb hts hinX1 hown hK.1 hP 0 rfl rfl 0 (by decide) w9 (fun _ h9 => h9) rfl dX1_append_12 ?_
    refine lv_aload_n hx hb dX1_append_15 rfl (lv_at hl 0 rfl) ?_
    refine va_get (D := (dC, dI)) (ci := 1) (v := .int len) (C := RX1) (T := TX1) (N := 8) hx hb hts hinX1 hown hK.1 hP 0 rfl rfl 2 (by decide) w18 (fun _ h9 => h9) rfl dX1_append_16 ?_
    refine lv_iload_n hx hb dX1_append_19 rfl (lv_at hl 1 rfl) ?_
    have g2 := hf.1
    replace hf := hf.2
    refine ar_ist (f := bits) (j := len.toNatClampNeg) hx hb hK.1 hP hD hS 1 0 rfl rfl rfl g2 dX1_append_20 (fun H locs hP hD hS => ?_)
    have hP : va_P (dC, dI) vwCl (lnW y a ((upd bits len.toNatClampNeg p0), places, len, head, framed, alike, last, check)) H := hP
    have hD : va_D A (lnW y a ((upd bits len.toNatClampNeg p0), places, len, head, framed, alike, last, check)) := hD
    refine lv_aload_n hx hb dX1_append_21 rfl (lv_at hl 0 rfl) ?_
    refine va_get (D := (dC, dI)) (ci := 1) (v := .ref a.2.2) (C := RX1) (T := TX1) (N := 8) hx hb hts hinX1 hown hK.1 hP 0 rfl rfl 1 (by decide) w15 (fun _ h9 => h9) rfl dX1_append_22 ?_
    refine lv_aload_n hx hb dX1_append_25 rfl (lv_at hl 0 rfl) ?_
    refine va_get (D := (dC, dI)) (ci := 1) (v := .int len) (C := RX1) (T := TX1) (N := 8) hx hb hts hinX1 hown hK.1 hP 0 rfl rfl 2 (by decide) w18 (fun _ h9 => h9) rfl dX1_append_26 ?_
    refine lv_iload_n hx hb dX1_append_29 rfl (lv_at hl 2 rfl) ?_
    have g3 := hf.1
    replace hf := hf.2
    refine ar_ist (f := places) (j := len.toNatClampNeg) hx hb hK.1 hP hD hS 2 0 rfl rfl rfl g3 dX1_append_30 (fun H locs hP hD hS => ?_)
    have hP : va_P (dC, dI) vwCl (lnW y a ((upd bits len.toNatClampNeg p0), (upd places len.toNatClampNeg p1), len, head, framed, alike, last, check)) H := hP
    have hD : va_D A (lnW y a ((upd bits len.toNatClampNeg p0), (upd places len.toNatClampNeg p1), len, head, framed, alike, last, check)) := hD
    refine lv_aload_n hx hb dX1_append_31 rfl (lv_at hl 0 rfl) ?_
    refine lv_dup hx hb dX1_append_32 rfl ?_
    refine va_get (D := (dC, dI)) (ci := 1) (v := .int len) (C := RX1) (T := TX1) (N := 8) hx hb hts hinX1 hown hK.1 hP 0 rfl rfl 2 (by decide) w18 (fun _ h9 => h9) rfl dX1_append_33 ?_
    refine lv_iconst (v := 1) hx hb dX1_append_36 (by decide) ?_
    refine lv_iadd hx hb dX1_append_37 ?_
    refine va_put (D := (dC, dI)) (ci := 1) (v := .int (len + 1)) (ty := .int) (C := RX1) (T := TX1) (N := 8) hx hb hts hinX1 tyX1 tyX1_ok nmX1 hown hK.1 hP hD hS 0 rfl rfl 2 (by decide) w18 (fun _ h9 => h9) rfl (by decide +kernel) rfl rfl (Nat.le_of_ble_eq_true rfl) dX1_append_38 (fun H locs hP hD hS => ?_)
    have hP : va_P (dC, dI) vwCl (lnW y a ((upd bits len.toNatClampNeg p0), (upd places len.toNatClampNeg p1), len + 1, head, framed, alike, last, check)) H := hP
    have hD : va_D A (lnW y a ((upd bits len.toNatClampNeg p0), (upd places len.toNatClampNeg p1), len + 1, head, framed, alike, last, check)) := hD
    refine lv_aload_n hx hb dX1_append_41 rfl (lv_at hl 0 rfl) ?_
    refine lv_iload_n hx hb dX1_append_42 rfl (lv_at hl 1 rfl) ?_
    refine lv_aload_n hx hb dX1_append_43 rfl (lv_at hl 0 rfl) ?_
    refine va_get (D := (dC, dI)) (ci := 1) (v := .int last) (C := RX1) (T := TX1) (N := 8) hx hb hts hinX1 hown hK.1 hP 0 rfl rfl 6 (by decide) w31 (fun _ h9 => h9) rfl dX1_append_44 ?_
    refine lv_icmp_ne (tgt := 59) hx hb dX1_append_47 (by decide) (fun c4 => ?_) (fun c4 => ?_)
    · replace hf := hf.1 c4
      refine lv_iconst (v := 1) hx hb dX1_append_59 (by decide) ?_
      exact j_X1_append_60 C0 a K ((upd bits len.toNatClampNeg p0), (upd places len.toNatClampNeg p1), len + 1, head, framed, alike, last, check) p0 1 H locs ls hP hD hS (lv_sub hl [0, 1] rfl) hf
    · replace hf := hf.2 c4
      refine lv_aload_n hx hb dX1_append_50 rfl (lv_at hl 0 rfl) ?_
      refine va_get (D := (dC, dI)) (ci := 1) (v := .int alike) (C := RX1) (T := TX1) (N := 8) hx hb hts hinX1 hown hK.1 hP 0 rfl rfl 5 (by decide) w28 (fun _ h9 => h9) rfl dX1_append_51 ?_
      refine lv_iconst (v := 1) hx hb dX1_append_54 (by decide) ?_
      refine lv_iadd hx hb dX1_append_55 ?_
      refine lv_goto (tgt := 60) hx hb dX1_append_56 (by decide) ?_
      exact j_X1_append_60 C0 a K ((upd bits len.toNatClampNeg p0), (upd places len.toNatClampNeg p1), len + 1, head, framed, alike, last, check) p0 (alike + 1) H locs ls hP hD hS (lv_sub hl [0, 1] rfl) hf
  · replace hf := hf.2 c1
    exact W.vret hx hb hr (fun t ht hW => ⟨⟨(bits, places, len, head, framed, alike, last, check), rfl, hf, by rw [ht]; exact hP, hD⟩, hS.F ht⟩) hS.2.2 dX1_append_10

def wp_X1_addNumber_34 (K : LineS → Prop) (C : LineS → Int32 → Int32 → Prop) : LineS → Int32 → Int32 → Int32 → Prop := fun (bits, places, len, head, framed, alike, last, check) v1 v3 v4 => wp_X1_append (bits, places, len, head, framed, alike, last, check) v4 framed (fun u5 => wp_X4_nextCheck u5.2.2.2.2.2.2.2 v4 (fun r6 => (∀ n7 : Int32, n7 = v3 + (-1) → C (u5.1, u5.2.1, u5.2.2.1, u5.2.2.2.1, u5.2.2.2.2.1 + 1, u5.2.2.2.2.2.1, u5.2.2.2.2.2.2.1, r6) v1 n7)))
def wp_X1_addNumber_4 (K : LineS → Prop) : Nat → LineS → Int32 → Int32 → Prop
  | 0, _, _, _ => False
  | n + 1, (bits, places, len, head, framed, alike, last, check), v1, v3 => ((v3 < 0 → K (bits, places, len, head, framed, alike, last, check)) ∧ (¬ v3 < 0 → (∀ n3 : Int32, n3 = (v1 >>> (v3 &&& 31)) &&& 1 → ((¬ alike = 5 → wp_X1_addNumber_34 K (wp_X1_addNumber_4 K n) (bits, places, len, head, framed, alike, last, check) v1 v3 n3) ∧ (alike = 5 → wp_X1_append (bits, places, len, head, framed, alike, last, check) (1 - last) (-1) (fun u8 => wp_X1_addNumber_34 K (wp_X1_addNumber_4 K n) u8 v1 v3 n3))))))
def wp_X1_addNumber : LineS → Int32 → Int32 → (LineS → Prop) → Prop := fun (bits, places, len, head, framed, alike, last, check) p0 p1 K => (∀ n1 : Int32, n1 = p1 - 1 → wp_X1_addNumber_4 K 1000 (bits, places, len, head, framed, alike, last, check) p0 n1)
set_option maxHeartbeats 4000000 in
set_option maxRecDepth 100000 in
theorem j_X1_addNumber_34 {p : Program} {l : Launch} {e : Env} {s : State} {m : MethodId} {args : Array Value} {below : List Frame} {meth : Method} {c : Code} {dC : Nat → ClassId} {dI : Nat → Nat → Nat} {y : Nat → ClassId} {A : Nat → Prop} (C0 : Cx p s m args meth c cX1_addNumber 5 none wsX1_addNumber RX1 A dC dI y) (a : LineA) (K : LineS → Prop) (C : LineS → Int32 → Int32 → Prop) (hC : ∀ (S : LineS) (v1 : Int32) (v3 : Int32) (H : Heap) (locs : List Loc) (ls : Array Slot), va_P (dC, dI) vwCl (lnW y a S) H → va_D A (lnW y a S) → va_S A s.heap H locs → lv_has ls 5 [(0, .ref a.1), (1, .int v1), (3, .int v3)] → C S v1 v3 → W p l e ({ frames := 1, cells := 0, slots := 0, locals := 23 } : Room) s m args below meth c H locs 0 0 (MQ below (va_Qv K (BW dC dI A (fun u => lnW y a u)) A) args s 0 0 A) (F0 m 4 ls [])) : ∀ (S : LineS) (v1 : Int32) (v3 : Int32) (v4 : Int32) (H : Heap) (locs : List Loc) (ls : Array Slot), va_P (dC, dI) vwCl (lnW y a S) H → va_D A (lnW y a S) → va_S A s.heap H locs → lv_has ls 5 [(0, .ref a.1), (1, .int v1), (3, .int v3), (4, .int v4)] → wp_X1_addNumber_34 K C S v1 v3 v4 → W p l e ({ frames := 1, cells := 0, slots := 0, locals := 23 } : Room) s m args below meth c H locs 0 0 (MQ below (va_Qv K (BW dC dI A (fun u => lnW y a u)) A) args s 0 0 A) (F0 m 34 ls []) := by
  obtain ⟨hx, hb, hr, hml, hown, hts, hlocks, hA, hK⟩ := id C0
  have w25 := hts (.fieldLink RX1 25 "SharedWire$Line" "framed" "I") (List.mem_of_getElem? (i := 3) rfl)
  have w34 := hts (.fieldLink RX1 34 "SharedWire$Line" "check" "I") (List.mem_of_getElem? (i := 4) rfl)
  have hinX1 : ∀ w ∈ wsX10, w ∈ wsX1_addNumber := fun w h => List.mem_cons_of_mem _ (List.mem_append_right _ (h))
  intro S v1 v3 v4 H locs ls hP hD hS hl hf
  obtain ⟨bits, places, len, head, framed, alike, last, check⟩ := S
  unfold wp_X1_addNumber_34 at hf
  refine lv_aload_n hx hb dX1_addNumber_34 rfl (lv_at hl 0 rfl) ?_
  refine lv_iload hx hb dX1_addNumber_35 (lv_at hl 3 rfl) ?_
  refine lv_aload_n hx hb dX1_addNumber_37 rfl (lv_at hl 0 rfl) ?_
  refine va_get (D := (dC, dI)) (ci := 1) (v := .int framed) (C := RX1) (T := TX1) (N := 8) hx hb hts hinX1 hown hK.1 hP 0 rfl rfl 4 (by decide) w25 (fun _ h9 => h9) rfl dX1_addNumber_38 ?_
  refine k0v (As := [.int v4, .int framed]) (rest := []) ⟨hx, hb, hml, hown, hts⟩ (c_X1_append l dC dI y a H.size (bits, places, len, head, framed, alike, last, check) v4 framed _ hf) (cwV 2 hts gX1_addNumber_X1_append rfl rfl rfl (by decide +kernel) ⟨Nat.le_of_ble_eq_true rfl, Nat.le_of_ble_eq_true rfl⟩) hK hP hD (va_recv hK.1 hP (ci := 1) (q0 := 0) rfl rfl) hS hA rfl hl.1 rfl (Nat.le_of_ble_eq_true rfl) dX1_addNumber_41 ⟨Nat.zero_le _, Nat.zero_le _⟩ (fun u5 H locs hf hP hD hS => ?_)
  have hP : va_P (dC, dI) vwCl (lnW y a u5) H := hP
  have hD : va_D A (lnW y a u5) := hD
  refine lv_aload_n hx hb dX1_addNumber_44 rfl (lv_at hl 0 rfl) ?_
  refine lv_dup hx hb dX1_addNumber_45 rfl ?_
  refine va_get (D := (dC, dI)) (ci := 1) (v := .int u5.2.2.2.2.1) (C := RX1) (T := TX1) (N := 8) hx hb hts hinX1 hown hK.1 hP 0 rfl rfl 4 (by decide) w25 (fun _ h9 => h9) rfl dX1_addNumber_46 ?_
  refine lv_iconst (v := 1) hx hb dX1_addNumber_49 (by decide) ?_
  refine lv_iadd hx hb dX1_addNumber_50 ?_
  refine va_put (D := (dC, dI)) (ci := 1) (v := .int (u5.2.2.2.2.1 + 1)) (ty := .int) (C := RX1) (T := TX1) (N := 8) hx hb hts hinX1 tyX1 tyX1_ok nmX1 hown hK.1 hP hD hS 0 rfl rfl 4 (by decide) w25 (fun _ h9 => h9) rfl (by decide +kernel) rfl rfl (Nat.le_of_ble_eq_true rfl) dX1_addNumber_51 (fun H locs hP hD hS => ?_)
  have hP : va_P (dC, dI) vwCl (lnW y a (u5.1, u5.2.1, u5.2.2.1, u5.2.2.2.1, u5.2.2.2.2.1 + 1, u5.2.2.2.2.2.1, u5.2.2.2.2.2.2.1, u5.2.2.2.2.2.2.2)) H := hP
  have hD : va_D A (lnW y a (u5.1, u5.2.1, u5.2.2.1, u5.2.2.2.1, u5.2.2.2.2.1 + 1, u5.2.2.2.2.2.1, u5.2.2.2.2.2.2.1, u5.2.2.2.2.2.2.2)) := hD
  refine lv_aload_n hx hb dX1_addNumber_54 rfl (lv_at hl 0 rfl) ?_
  refine lv_aload_n hx hb dX1_addNumber_55 rfl (lv_at hl 0 rfl) ?_
  refine va_get (D := (dC, dI)) (ci := 1) (v := .int u5.2.2.2.2.2.2.2) (C := RX1) (T := TX1) (N := 8) hx hb hts hinX1 hown hK.1 hP 0 rfl rfl 7 (by decide) w34 (fun _ h9 => h9) rfl dX1_addNumber_56 ?_
  refine lv_iload hx hb dX1_addNumber_59 (lv_at hl 3 rfl) ?_
  refine kSNi (As := [.int u5.2.2.2.2.2.2.2, .int v4]) (rest := [.ref a.1]) ⟨hx, hb, hml, hown, hts⟩ (c_X4_nextCheck l dC dI y H.size u5.2.2.2.2.2.2.2 v4 _ hf) ⟨va_cnB 2 hts gX1_addNumber_X4_nextCheck_n65 rfl rfl rfl hK.2.2.2.2.2.2.2.2 (hts (.initialized RX4) (List.mem_of_getElem? (i := 14) rfl)) (by decide +kernel) ⟨Nat.le_of_ble_eq_true rfl, Nat.le_of_ble_eq_true rfl⟩, hts (.static yX4_nextCheck) (List.mem_of_getElem? (i := 13) rfl), trivial⟩ hK hP hD hS hA rfl hl.1 rfl (Nat.le_of_ble_eq_true rfl) dX1_addNumber_61 ⟨Nat.zero_le _, Nat.zero_le _⟩ (fun r6 H locs hf hP hD hS => ?_)
  refine va_put (D := (dC, dI)) (ci := 1) (v := .int r6) (ty := .int) (C := RX1) (T := TX1) (N := 8) hx hb hts hinX1 tyX1 tyX1_ok nmX1 hown hK.1 hP hD hS 0 rfl rfl 7 (by decide) w34 (fun _ h9 => h9) rfl (by decide +kernel) rfl rfl (Nat.le_of_ble_eq_true rfl) dX1_addNumber_64 (fun H locs hP hD hS => ?_)
  have hP : va_P (dC, dI) vwCl (lnW y a (u5.1, u5.2.1, u5.2.2.1, u5.2.2.2.1, u5.2.2.2.2.1 + 1, u5.2.2.2.2.2.1, u5.2.2.2.2.2.2.1, r6)) H := hP
  have hD : va_D A (lnW y a (u5.1, u5.2.1, u5.2.2.1, u5.2.2.2.1, u5.2.2.2.2.1 + 1, u5.2.2.2.2.2.1, u5.2.2.2.2.2.2.1, r6)) := hD
  obtain ⟨n7, en7⟩ : ∃ z : Int32, z = v3 + (-1) := ⟨_, rfl⟩
  replace hf := hf n7 en7
  refine lv_iinc (v := n7) (lv' := [(3, .int n7), (0, .ref a.1), (1, .int v1), (4, .int v4)]) hx hb dX1_addNumber_67 hl (k := 2) rfl (by rw [en7]; rfl) (by decide) rfl (fun ls hl => ?_)
  refine lv_goto (tgt := 4) hx hb dX1_addNumber_70 (by decide) ?_
  exact hC (u5.1, u5.2.1, u5.2.2.1, u5.2.2.2.1, u5.2.2.2.2.1 + 1, u5.2.2.2.2.2.1, u5.2.2.2.2.2.2.1, r6) v1 n7 H locs ls hP hD hS (lv_sub hl [1, 2, 0] rfl) hf
set_option maxHeartbeats 4000000 in
set_option maxRecDepth 100000 in
theorem j_X1_addNumber_4 {p : Program} {l : Launch} {e : Env} {s : State} {m : MethodId} {args : Array Value} {below : List Frame} {meth : Method} {c : Code} {dC : Nat → ClassId} {dI : Nat → Nat → Nat} {y : Nat → ClassId} {A : Nat → Prop} (C0 : Cx p s m args meth c cX1_addNumber 5 none wsX1_addNumber RX1 A dC dI y) (a : LineA) (K : LineS → Prop) : ∀ n : Nat, ∀ (S : LineS) (v1 : Int32) (v3 : Int32) (H : Heap) (locs : List Loc) (ls : Array Slot), va_P (dC, dI) vwCl (lnW y a S) H → va_D A (lnW y a S) → va_S A s.heap H locs → lv_has ls 5 [(0, .ref a.1), (1, .int v1), (3, .int v3)] → wp_X1_addNumber_4 K n S v1 v3 → W p l e ({ frames := 1, cells := 0, slots := 0, locals := 23 } : Room) s m args below meth c H locs 0 0 (MQ below (va_Qv K (BW dC dI A (fun u => lnW y a u)) A) args s 0 0 A) (F0 m 4 ls []) := by
  obtain ⟨hx, hb, hr, hml, hown, hts, hlocks, hA, hK⟩ := id C0
  have w28 := hts (.fieldLink RX1 28 "SharedWire$Line" "alike" "I") (List.mem_of_getElem? (i := 1) rfl)
  have w31 := hts (.fieldLink RX1 31 "SharedWire$Line" "last" "I") (List.mem_of_getElem? (i := 2) rfl)
  have hinX1 : ∀ w ∈ wsX10, w ∈ wsX1_addNumber := fun w h => List.mem_cons_of_mem _ (List.mem_append_right _ (h))
  intro n
  induction n with
  | zero =>
    intro S v1 v3 H locs ls hP hD hS hl hf
    exact False.elim (by unfold wp_X1_addNumber_4 at hf; exact hf)
  | succ n ih =>
    intro S v1 v3 H locs ls hP hD hS hl hf
    obtain ⟨bits, places, len, head, framed, alike, last, check⟩ := S
    unfold wp_X1_addNumber_4 at hf
    refine lv_iload_n hx hb dX1_addNumber_4 rfl (lv_at hl 2 rfl) ?_
    refine lv_if_lt (tgt := 73) hx hb dX1_addNumber_5 (by decide) (fun c2 => ?_) (fun c2 => ?_)
    · replace hf := hf.1 c2
      exact W.vret hx hb hr (fun t ht hW => ⟨⟨(bits, places, len, head, framed, alike, last, check), rfl, hf, by rw [ht]; exact hP, hD⟩, hS.F ht⟩) hS.2.2 dX1_addNumber_73
    · replace hf := hf.2 c2
      refine lv_iload_n hx hb dX1_addNumber_8 rfl (lv_at hl 1 rfl) ?_
      refine lv_iload_n hx hb dX1_addNumber_9 rfl (lv_at hl 2 rfl) ?_
      refine lv_ishr hx hb dX1_addNumber_10 ?_
      refine lv_iconst (v := 1) hx hb dX1_addNumber_11 (by decide) ?_
      refine lv_iand hx hb dX1_addNumber_12 ?_
      refine lv_topi (fun n3 en3 => ?_)
      replace hf := hf n3 en3
      refine lv_istore (lv' := [(4, .int n3), (0, .ref a.1), (1, .int v1), (3, .int v3)]) hx hb dX1_addNumber_13 hl (by decide) rfl (fun ls hl => ?_)
      refine lv_aload_n hx hb dX1_addNumber_15 rfl (lv_at hl 1 rfl) ?_
      refine va_get (D := (dC, dI)) (ci := 1) (v := .int alike) (C := RX1) (T := TX1) (N := 8) hx hb hts hinX1 hown hK.1 hP 0 rfl rfl 5 (by decide) w28 (fun _ h9 => h9) rfl dX1_addNumber_16 ?_
      refine lv_iconst (v := 5) hx hb dX1_addNumber_19 (by decide) ?_
      refine lv_icmp_ne (tgt := 34) hx hb dX1_addNumber_20 (by decide) (fun c4 => ?_) (fun c4 => ?_)
      · replace hf := hf.1 c4
        exact j_X1_addNumber_34 C0 a K (wp_X1_addNumber_4 K n) ih (bits, places, len, head, framed, alike, last, check) v1 v3 n3 H locs ls hP hD hS (lv_sub hl [1, 2, 3, 0] rfl) hf
      · replace hf := hf.2 c4
        refine lv_aload_n hx hb dX1_addNumber_23 rfl (lv_at hl 1 rfl) ?_
        refine lv_iconst (v := 1) hx hb dX1_addNumber_24 (by decide) ?_
        refine lv_aload_n hx hb dX1_addNumber_25 rfl (lv_at hl 1 rfl) ?_
        refine va_get (D := (dC, dI)) (ci := 1) (v := .int last) (C := RX1) (T := TX1) (N := 8) hx hb hts hinX1 hown hK.1 hP 0 rfl rfl 6 (by decide) w31 (fun _ h9 => h9) rfl dX1_addNumber_26 ?_
        refine lv_isub hx hb dX1_addNumber_29 ?_
        refine lv_iconst (v := (-1)) hx hb dX1_addNumber_30 (by decide) ?_
        refine k0v (As := [.int (1 - last), .int (-1)]) (rest := []) ⟨hx, hb, hml, hown, hts⟩ (c_X1_append l dC dI y a H.size (bits, places, len, head, framed, alike, last, check) (1 - last) (-1) _ hf) (cwV 2 hts gX1_addNumber_X1_append rfl rfl rfl (by decide +kernel) ⟨Nat.le_of_ble_eq_true rfl, Nat.le_of_ble_eq_true rfl⟩) hK hP hD (va_recv hK.1 hP (ci := 1) (q0 := 0) rfl rfl) hS hA rfl hl.1 rfl (Nat.le_of_ble_eq_true rfl) dX1_addNumber_31 ⟨Nat.zero_le _, Nat.zero_le _⟩ (fun u8 H locs hf hP hD hS => ?_)
        have hP : va_P (dC, dI) vwCl (lnW y a u8) H := hP
        have hD : va_D A (lnW y a u8) := hD
        exact j_X1_addNumber_34 C0 a K (wp_X1_addNumber_4 K n) ih u8 v1 v3 n3 H locs ls hP hD hS (lv_sub hl [1, 2, 3, 0] rfl) hf
set_option maxHeartbeats 4000000 in
set_option maxRecDepth 100000 in
theorem c_X1_addNumber (l : Launch) (dC : Nat → ClassId) (dI : Nat → Nat → Nat) (y : Nat → ClassId) (a : LineA) (sz : Nat) (S : LineS) (p0 : Int32) (p1 : Int32) (K : LineS → Prop) (hf : wp_X1_addNumber S p0 p1 K) : MV l yX1_addNumber wsX1_addNumber { frames := 1, cells := 0, slots := 0, locals := 23 } dC dI y [.ref a.1, .int p0, .int p1] (lnW y a S) sz (fun u => lnW y a u) K := by
  refine Met.ofW (cc := cX1_addNumber) (maxL := 5) (ret := none) (by decide) rfl ?_
  intro p e s m args below meth c s₁ B hml hv
  obtain ⟨rfl, hsz, hP, hK, hD0⟩ := hv
  have hx := B.exec
  have hb := B.bytes
  have hr := B.returns
  have hts := atoms_spec (ws := wsX1_addNumber) B.pre
  have hown : s.vm.findClass RX1 = some m.cls := findClass_of_methodNamed B.named
  have hlocks := B.notSynchronized
  subst hsz
  have hD := hD0.self (sz := s.heap.size)
  generalize hAe : va_A (lnW y a S) s.heap.size = A at hD ⊢
  have hA : ∀ q : Nat, s.heap.size ≤ q → A q := fun q h => by rw [← hAe]; exact Or.inr h
  have hS : va_S A s.heap s.heap [] := va_S.rf
  have C0 : Cx p s m [.ref a.1, .int p0, .int p1].toArray meth c cX1_addNumber 5 none wsX1_addNumber RX1 A dC dI y := ⟨hx, hb, hr, hml, hown, hts, hlocks, hA, hK⟩
  have hl := lv_entry ([.ref a.1, .int p0, .int p1]) (n := 5) (Nat.le_of_ble_eq_true rfl)
  rw [lg_entry_eq]
  generalize (lg_sl ([.ref a.1, .int p0, .int p1]) ++ List.replicate (5 - (lg_sl ([.ref a.1, .int p0, .int p1])).length) Slot.unset).toArray = ls at hl ⊢
  have hl : lv_has ls 5 [(0, .ref a.1), (1, .int p0), (2, .int p1)] := hl
  obtain ⟨bits, places, len, head, framed, alike, last, check⟩ := S
  clear hAe hD0
  generalize hL0 : ([] : List Loc) = locs at hS ⊢
  unfold wp_X1_addNumber at hf
  refine lv_iload_n hx hb dX1_addNumber_0 rfl (lv_at hl 2 rfl) ?_
  refine lv_iconst (v := 1) hx hb dX1_addNumber_1 (by decide) ?_
  refine lv_isub hx hb dX1_addNumber_2 ?_
  refine lv_topi (fun n1 en1 => ?_)
  replace hf := hf n1 en1
  refine lv_istore_n (lv' := [(3, .int n1), (0, .ref a.1), (1, .int p0), (2, .int p1)]) hx hb dX1_addNumber_3 rfl hl (by decide) rfl (fun ls hl => ?_)
  exact j_X1_addNumber_4 C0 a K 1000 (bits, places, len, head, framed, alike, last, check) p0 n1 s.heap locs ls hP hD hS (lv_sub hl [1, 2, 0] rfl) hf

def wp_X1_write_130 (K : LineS → Prop) (F : FrameS) : Nat → LineS → Int32 → Prop
  | 0, _, _ => False
  | n + 1, (bits, places, len, head, framed, alike, last, check), v2 => ((10 ≤ v2 → K (bits, places, len, head, framed, alike, last, check)) ∧ (¬ 10 ≤ v2 → wp_X1_append (bits, places, len, head, framed, alike, last, check) 1 framed (fun u10 => (∀ n11 : Int32, n11 = v2 + 1 → wp_X1_write_130 K F n u10 n11))))
def wp_X1_write_84 (K : LineS → Prop) (F : FrameS) : Nat → LineS → Int32 → Prop
  | 0, _, _ => False
  | n + 1, (bits, places, len, head, framed, alike, last, check), v2 => ((F.2.2.2 ≤ v2 → wp_X1_addNumber (bits, places, len, head, framed, alike, last, check) check 15 (fun u8 => wp_X1_write_130 K F 1000 u8 0)) ∧ (¬ F.2.2.2 ≤ v2 → wp_X1_addNumber (bits, places, len, head, framed, alike, last, check) ((((F.2.2.1.toUInt64 >>> ((8 * v2).toInt64.toUInt64 &&& Int64.toUInt64 63)).toInt64) &&& 255).toInt32) 8 (fun u12 => (∀ n13 : Int32, n13 = v2 + 1 → wp_X1_write_84 K F n u12 n13))))
def wp_X1_write_59 (K : LineS → Prop) (F : FrameS) : LineS → Prop := fun (bits, places, len, head, framed, alike, last, check) => wp_X1_addNumber (bits, places, len, head, framed, alike, last, check) 0 3 (fun u5 => wp_X1_addNumber (u5.1, u5.2.1, u5.2.2.1, u5.2.2.2.2.1, u5.2.2.2.2.1, u5.2.2.2.2.2.1, u5.2.2.2.2.2.2.1, u5.2.2.2.2.2.2.2) F.2.2.2 4 (fun u6 => wp_X1_write_84 K F 1000 u6 0))
def wp_X1_write : LineS → FrameS → (LineS → Prop) → Prop := fun (bits, places, len, head, framed, alike, last, check) F K => wp_X1_clear (bits, places, len, head, framed, alike, last, check) (fun u1 => wp_X1_addNumber u1 0 1 (fun u2 => ((F.1 = 0 → wp_X1_addNumber u2 F.2.1 11 (fun u4 => wp_X1_write_59 K F u4)) ∧ (¬ F.1 = 0 → wp_X1_addNumber u2 (F.2.1 >>> (18 &&& 31)) 11 (fun u14 => wp_X1_addNumber u14 3 2 (fun u15 => wp_X1_addNumber u15 F.2.1 18 (fun u16 => wp_X1_write_59 K F u16)))))))
set_option maxHeartbeats 4000000 in
set_option maxRecDepth 100000 in
theorem j_X1_write_130 {p : Program} {l : Launch} {e : Env} {s : State} {m : MethodId} {args : Array Value} {below : List Frame} {meth : Method} {c : Code} {dC : Nat → ClassId} {dI : Nat → Nat → Nat} {y : Nat → ClassId} {A : Nat → Prop} (C0 : Cx p s m args meth c cX1_write 3 none wsX1_write RX1 A dC dI y) (a : LineA) (K : LineS → Prop) (F : FrameS) (fa : Nat) (hR : va_P (dC, dI) vwCl (frW fa F) s.heap) (hRn : ∀ (k : Nat) (q : Nat × va_E), (frW fa F)[k]? = some q → ¬ A q.1) : ∀ n : Nat, ∀ (S : LineS) (v2 : Int32) (H : Heap) (locs : List Loc) (ls : Array Slot), va_P (dC, dI) vwCl (lnW y a S) H → va_D A (lnW y a S) → va_S A s.heap H locs → lv_has ls 3 [(0, .ref a.1), (2, .int v2)] → wp_X1_write_130 K F n S v2 → W p l e ({ frames := 2, cells := 0, slots := 0, locals := 47 } : Room) s m args below meth c H locs 0 0 (MQ below (va_Qv K (BW dC dI A (fun u => lnW y a u)) A) args s 0 0 A) (F0 m 130 ls []) := by
  obtain ⟨hx, hb, hr, hml, hown, hts, hlocks, hA, hK⟩ := id C0
  have w25 := hts (Cond.fieldLink RX1 25 "SharedWire$Line" "framed" "I") (List.mem_of_getElem? (i := 3) rfl)
  have hinX1 : ∀ w ∈ wsX10, w ∈ wsX1_write := fun w h => List.mem_cons_of_mem _ (List.mem_append_right _ (h))
  intro n
  induction n with
  | zero =>
    intro S v2 H locs ls hP hD hS hl hf
    exact False.elim (by unfold wp_X1_write_130 at hf; exact hf)
  | succ n ih =>
    intro S v2 H locs ls hP hD hS hl hf
    obtain ⟨bits, places, len, head, framed, alike, last, check⟩ := S
    unfold wp_X1_write_130 at hf
    refine lv_iload_n hx hb dX1_write_130 rfl (lv_at hl 1 rfl) ?_
    refine lv_bipush (v := 10) hx hb dX1_write_131 (by decide) ?_
    refine lv_icmp_ge (tgt := 151) hx hb dX1_write_133 (by decide) (fun c9 => ?_) (fun c9 => ?_)
    · replace hf := hf.1 c9
      exact W.vret hx hb hr (fun t ht hW => ⟨⟨(bits, places, len, head, framed, alike, last, check), rfl, hf, by rw [ht]; exact hP, hD⟩, hS.F ht⟩) hS.2.2 dX1_write_151
    · replace hf := hf.2 c9
      refine lv_aload_n hx hb dX1_write_136 rfl (lv_at hl 0 rfl) ?_
      refine lv_iconst (v := 1) hx hb dX1_write_137 (by decide) ?_
      refine lv_aload_n hx hb dX1_write_138 rfl (lv_at hl 0 rfl) ?_
      refine va_get (D := (dC, dI)) (ci := 1) (v := .int framed) (C := RX1) (T := TX1) (N := 8) hx hb hts hinX1 hown hK.1 hP 0 rfl rfl 4 (by decide) w25 (fun _ h9 => h9) rfl dX1_write_139 ?_
      refine k0v (As := [.int 1, .int framed]) (rest := []) ⟨hx, hb, hml, hown, hts⟩ (c_X1_append l dC dI y a H.size (bits, places, len, head, framed, alike, last, check) 1 framed _ hf) (cwV 2 hts gX1_write_X1_append rfl rfl rfl (by decide +kernel) ⟨Nat.le_of_ble_eq_true rfl, Nat.le_of_ble_eq_true rfl⟩) hK hP hD (va_recv hK.1 hP (ci := 1) (q0 := 0) rfl rfl) hS hA rfl hl.1 rfl (Nat.le_of_ble_eq_true rfl) dX1_write_142 ⟨Nat.zero_le _, Nat.zero_le _⟩ (fun u10 H locs hf hP hD hS => ?_)
      have hP : va_P (dC, dI) vwCl (lnW y a u10) H := hP
      have hD : va_D A (lnW y a u10) := hD
      obtain ⟨n11, en11⟩ : ∃ z : Int32, z = v2 + 1 := ⟨_, rfl⟩
      replace hf := hf n11 en11
      refine lv_iinc (v := n11) (lv' := [(2, .int n11), (0, .ref a.1)]) hx hb dX1_write_145 hl (k := 1) rfl (by rw [en11]; rfl) (by decide) rfl (fun ls hl => ?_)
      refine lv_goto (tgt := 130) hx hb dX1_write_148 (by decide) ?_
      exact ih u10 n11 H locs ls hP hD hS (lv_sub hl [1, 0] rfl) hf
set_option maxHeartbeats 4000000 in
set_option maxRecDepth 100000 in
theorem j_X1_write_84 {p : Program} {l : Launch} {e : Env} {s : State} {m : MethodId} {args : Array Value} {below : List Frame} {meth : Method} {c : Code} {dC : Nat → ClassId} {dI : Nat → Nat → Nat} {y : Nat → ClassId} {A : Nat → Prop} (C0 : Cx p s m args meth c cX1_write 3 none wsX1_write RX1 A dC dI y) (a : LineA) (K : LineS → Prop) (F : FrameS) (fa : Nat) (hR : va_P (dC, dI) vwCl (frW fa F) s.heap) (hRn : ∀ (k : Nat) (q : Nat × va_E), (frW fa F)[k]? = some q → ¬ A q.1) : ∀ n : Nat, ∀ (S : LineS) (v2 : Int32) (H : Heap) (locs : List Loc) (ls : Array Slot), va_P (dC, dI) vwCl (lnW y a S) H → va_D A (lnW y a S) → va_S A s.heap H locs → lv_has ls 3 [(0, .ref a.1), (1, .ref fa), (2, .int v2)] → wp_X1_write_84 K F n S v2 → W p l e ({ frames := 2, cells := 0, slots := 0, locals := 47 } : Room) s m args below meth c H locs 0 0 (MQ below (va_Qv K (BW dC dI A (fun u => lnW y a u)) A) args s 0 0 A) (F0 m 84 ls []) := by
  obtain ⟨hx, hb, hr, hml, hown, hts, hlocks, hA, hK⟩ := id C0
  have w34 := hts (Cond.fieldLink RX1 34 "SharedWire$Line" "check" "I") (List.mem_of_getElem? (i := 8) rfl)
  have w53 := hts (Cond.fieldLink RX1 53 "SharedWire$Frame" "size" "I") (List.mem_of_getElem? (i := 5) rfl)
  have w56 := hts (Cond.fieldLink RX1 56 "SharedWire$Frame" "data" "J") (List.mem_of_getElem? (i := 6) rfl)
  have w60 := hts (Cond.constantLong RX1 60 (255)) (List.mem_of_getElem? (i := 7) rfl)
  have hinX0 : ∀ w ∈ wsX00, w ∈ wsX1_write := fun w h => List.mem_cons_of_mem _ (List.mem_append_left _ (List.mem_append_right _ (h)))
  have hinX1 : ∀ w ∈ wsX10, w ∈ wsX1_write := fun w h => List.mem_cons_of_mem _ (List.mem_append_right _ (h))
  intro n
  induction n with
  | zero =>
    intro S v2 H locs ls hP hD hS hl hf
    exact False.elim (by unfold wp_X1_write_84 at hf; exact hf)
  | succ n ih =>
    intro S v2 H locs ls hP hD hS hl hf
    obtain ⟨bits, places, len, head, framed, alike, last, check⟩ := S
    unfold wp_X1_write_84 at hf
    refine lv_iload_n hx hb dX1_write_84 rfl (lv_at hl 2 rfl) ?_
    refine lv_aload_n hx hb dX1_write_85 rfl (lv_at hl 1 rfl) ?_
    refine va_get (D := (dC, dI)) (ci := 0) (v := .int F.2.2.2) (C := RX0) (T := TX0) (N := 4) hx hb hts hinX0 hown hK.1 (ro_at hS hR hRn) 0 rfl rfl 3 (by decide) w53 (fun _ h9 => h9) rfl dX1_write_86 ?_
    refine lv_icmp_ge (tgt := 118) hx hb dX1_write_89 (by decide) (fun c7 => ?_) (fun c7 => ?_)
    · replace hf := hf.1 c7
      refine lv_aload_n hx hb dX1_write_118 rfl (lv_at hl 0 rfl) ?_
      refine lv_aload_n hx hb dX1_write_119 rfl (lv_at hl 0 rfl) ?_
      refine va_get (D := (dC, dI)) (ci := 1) (v := .int check) (C := RX1) (T := TX1) (N := 8) hx hb hts hinX1 hown hK.1 hP 0 rfl rfl 7 (by decide) w34 (fun _ h9 => h9) rfl dX1_write_120 ?_
      refine lv_bipush (v := 15) hx hb dX1_write_123 (by decide) ?_
      refine k0v (As := [.int check, .int 15]) (rest := []) ⟨hx, hb, hml, hown, hts⟩ (c_X1_addNumber l dC dI y a H.size (bits, places, len, head, framed, alike, last, check) check 15 _ hf) (cwV 2 hts gX1_write_X1_addNumber rfl rfl rfl (by decide +kernel) ⟨Nat.le_of_ble_eq_true rfl, Nat.le_of_ble_eq_true rfl⟩) hK hP hD (va_recv hK.1 hP (ci := 1) (q0 := 0) rfl rfl) hS hA rfl hl.1 rfl (Nat.le_of_ble_eq_true rfl) dX1_write_125 ⟨Nat.zero_le _, Nat.zero_le _⟩ (fun u8 H locs hf hP hD hS => ?_)
      have hP : va_P (dC, dI) vwCl (lnW y a u8) H := hP
      have hD : va_D A (lnW y a u8) := hD
      refine lv_iconst (v := 0) hx hb dX1_write_128 (by decide) ?_
      refine lv_istore_n (lv' := [(2, .int 0), (0, .ref a.1), (1, .ref fa)]) hx hb dX1_write_129 rfl hl (by decide) rfl (fun ls hl => ?_)
      exact j_X1_write_130 C0 a K F fa hR hRn 1000 u8 0 H locs ls hP hD hS (lv_sub hl [1, 0] rfl) hf
    · replace hf := hf.2 c7
      refine lv_aload_n hx hb dX1_write_92 rfl (lv_at hl 0 rfl) ?_
      refine lv_aload_n hx hb dX1_write_93 rfl (lv_at hl 1 rfl) ?_
      refine va_get (D := (dC, dI)) (ci := 0) (v := .long F.2.2.1) (C := RX0) (T := TX0) (N := 4) hx hb hts hinX0 hown hK.1 (ro_at hS hR hRn) 0 rfl rfl 2 (by decide) w56 (fun _ h9 => h9) rfl dX1_write_94 ?_
      refine lv_bipush (v := 8) hx hb dX1_write_97 (by decide) ?_
      refine lv_iload_n hx hb dX1_write_99 rfl (lv_at hl 2 rfl) ?_
      refine lv_imul hx hb dX1_write_100 ?_
      refine lv_lushr (v := (F.2.2.1.toUInt64 >>> ((8 * v2).toInt64.toUInt64 &&& Int64.toUInt64 63)).toInt64) hx hb dX1_write_101 rfl ?_
      refine lv_ldc2 (v := 255) hx hb hown w60 dX1_write_102 ?_
      refine lv_land hx hb dX1_write_105 ?_
      refine lv_l2i (v := (((F.2.2.1.toUInt64 >>> ((8 * v2).toInt64.toUInt64 &&& Int64.toUInt64 63)).toInt64) &&& 255).toInt32) hx hb dX1_write_106 rfl ?_
      refine lv_bipush (v := 8) hx hb dX1_write_107 (by decide) ?_
      refine k0v (As := [.int ((((F.2.2.1.toUInt64 >>> ((8 * v2).toInt64.toUInt64 &&& Int64.toUInt64 63)).toInt64) &&& 255).toInt32), .int 8]) (rest := []) ⟨hx, hb, hml, hown, hts⟩ (c_X1_addNumber l dC dI y a H.size (bits, places, len, head, framed, alike, last, check) ((((F.2.2.1.toUInt64 >>> ((8 * v2).toInt64.toUInt64 &&& Int64.toUInt64 63)).toInt64) &&& 255).toInt32) 8 _ hf) (cwV 2 hts gX1_write_X1_addNumber rfl rfl rfl (by decide +kernel) ⟨Nat.le_of_ble_eq_true rfl, Nat.le_of_ble_eq_true rfl⟩) hK hP hD (va_recv hK.1 hP (ci := 1) (q0 := 0) rfl rfl) hS hA rfl hl.1 rfl (Nat.le_of_ble_eq_true rfl) dX1_write_109 ⟨Nat.zero_le _, Nat.zero_le _⟩ (fun u12 H locs hf hP hD hS => ?_)
      have hP : va_P (dC, dI) vwCl (lnW y a u12) H := hP
      have hD : va_D A (lnW y a u12) := hD
      obtain ⟨n13, en13⟩ : ∃ z : Int32, z = v2 + 1 := ⟨_, rfl⟩
      replace hf := hf n13 en13
      refine lv_iinc (v := n13) (lv' := [(2, .int n13), (0, .ref a.1), (1, .ref fa)]) hx hb dX1_write_112 hl (k := 2) rfl (by rw [en13]; rfl) (by decide) rfl (fun ls hl => ?_)
      refine lv_goto (tgt := 84) hx hb dX1_write_115 (by decide) ?_
      exact ih u12 n13 H locs ls hP hD hS (lv_sub hl [1, 2, 0] rfl) hf
set_option maxHeartbeats 4000000 in
set_option maxRecDepth 100000 in
theorem j_X1_write_59 {p : Program} {l : Launch} {e : Env} {s : State} {m : MethodId} {args : Array Value} {below : List Frame} {meth : Method} {c : Code} {dC : Nat → ClassId} {dI : Nat → Nat → Nat} {y : Nat → ClassId} {A : Nat → Prop} (C0 : Cx p s m args meth c cX1_write 3 none wsX1_write RX1 A dC dI y) (a : LineA) (K : LineS → Prop) (F : FrameS) (fa : Nat) (hR : va_P (dC, dI) vwCl (frW fa F) s.heap) (hRn : ∀ (k : Nat) (q : Nat × va_E), (frW fa F)[k]? = some q → ¬ A q.1) : ∀ (S : LineS) (H : Heap) (locs : List Loc) (ls : Array Slot), va_P (dC, dI) vwCl (lnW y a S) H → va_D A (lnW y a S) → va_S A s.heap H locs → lv_has ls 3 [(0, .ref a.1), (1, .ref fa)] → wp_X1_write_59 K F S → W p l e ({ frames := 2, cells := 0, slots := 0, locals := 47 } : Room) s m args below meth c H locs 0 0 (MQ below (va_Qv K (BW dC dI A (fun u => lnW y a u)) A) args s 0 0 A) (F0 m 59 ls []) := by
  obtain ⟨hx, hb, hr, hml, hown, hts, hlocks, hA, hK⟩ := id C0
  have w22 := hts (Cond.fieldLink RX1 22 "SharedWire$Line" "head" "I") (List.mem_of_getElem? (i := 4) rfl)
  have w25 := hts (Cond.fieldLink RX1 25 "SharedWire$Line" "framed" "I") (List.mem_of_getElem? (i := 3) rfl)
  have w53 := hts (Cond.fieldLink RX1 53 "SharedWire$Frame" "size" "I") (List.mem_of_getElem? (i := 5) rfl)
  have hinX0 : ∀ w ∈ wsX00, w ∈ wsX1_write := fun w h => List.mem_cons_of_mem _ (List.mem_append_left _ (List.mem_append_right _ (h)))
  have hinX1 : ∀ w ∈ wsX10, w ∈ wsX1_write := fun w h => List.mem_cons_of_mem _ (List.mem_append_right _ (h))
  intro S H locs ls hP hD hS hl hf
  obtain ⟨bits, places, len, head, framed, alike, last, check⟩ := S
  unfold wp_X1_write_59 at hf
  refine lv_aload_n hx hb dX1_write_59 rfl (lv_at hl 0 rfl) ?_
  refine lv_iconst (v := 0) hx hb dX1_write_60 (by decide) ?_
  refine lv_iconst (v := 3) hx hb dX1_write_61 (by decide) ?_
  refine k0v (As := [.int 0, .int 3]) (rest := []) ⟨hx, hb, hml, hown, hts⟩ (c_X1_addNumber l dC dI y a H.size (bits, places, len, head, framed, alike, last, check) 0 3 _ hf) (cwV 2 hts gX1_write_X1_addNumber rfl rfl rfl (by decide +kernel) ⟨Nat.le_of_ble_eq_true rfl, Nat.le_of_ble_eq_true rfl⟩) hK hP hD (va_recv hK.1 hP (ci := 1) (q0 := 0) rfl rfl) hS hA rfl hl.1 rfl (Nat.le_of_ble_eq_true rfl) dX1_write_62 ⟨Nat.zero_le _, Nat.zero_le _⟩ (fun u5 H locs hf hP hD hS => ?_)
  have hP : va_P (dC, dI) vwCl (lnW y a u5) H := hP
  have hD : va_D A (lnW y a u5) := hD
  refine lv_aload_n hx hb dX1_write_65 rfl (lv_at hl 0 rfl) ?_
  refine lv_aload_n hx hb dX1_write_66 rfl (lv_at hl 0 rfl) ?_
  refine va_get (D := (dC, dI)) (ci := 1) (v := .int u5.2.2.2.2.1) (C := RX1) (T := TX1) (N := 8) hx hb hts hinX1 hown hK.1 hP 0 rfl rfl 4 (by decide) w25 (fun _ h9 => h9) rfl dX1_write_67 ?_
  refine va_put (D := (dC, dI)) (ci := 1) (v := .int u5.2.2.2.2.1) (ty := .int) (C := RX1) (T := TX1) (N := 8) hx hb hts hinX1 tyX1 tyX1_ok nmX1 hown hK.1 hP hD hS 0 rfl rfl 3 (by decide) w22 (fun _ h9 => h9) rfl (by decide +kernel) rfl rfl (Nat.le_of_ble_eq_true rfl) dX1_write_70 (fun H locs hP hD hS => ?_)
  have hP : va_P (dC, dI) vwCl (lnW y a (u5.1, u5.2.1, u5.2.2.1, u5.2.2.2.2.1, u5.2.2.2.2.1, u5.2.2.2.2.2.1, u5.2.2.2.2.2.2.1, u5.2.2.2.2.2.2.2)) H := hP
  have hD : va_D A (lnW y a (u5.1, u5.2.1, u5.2.2.1, u5.2.2.2.2.1, u5.2.2.2.2.1, u5.2.2.2.2.2.1, u5.2.2.2.2.2.2.1, u5.2.2.2.2.2.2.2)) := hD
  refine lv_aload_n hx hb dX1_write_73 rfl (lv_at hl 0 rfl) ?_
  refine lv_aload_n hx hb dX1_write_74 rfl (lv_at hl 1 rfl) ?_
  refine va_get (D := (dC, dI)) (ci := 0) (v := .int F.2.2.2) (C := RX0) (T := TX0) (N := 4) hx hb hts hinX0 hown hK.1 (ro_at hS hR hRn) 0 rfl rfl 3 (by decide) w53 (fun _ h9 => h9) rfl dX1_write_75 ?_
  refine lv_iconst (v := 4) hx hb dX1_write_78 (by decide) ?_
  refine k0v (As := [.int F.2.2.2, .int 4]) (rest := []) ⟨hx, hb, hml, hown, hts⟩ (c_X1_addNumber l dC dI y a H.size (u5.1, u5.2.1, u5.2.2.1, u5.2.2.2.2.1, u5.2.2.2.2.1, u5.2.2.2.2.2.1, u5.2.2.2.2.2.2.1, u5.2.2.2.2.2.2.2) F.2.2.2 4 _ hf) (cwV 2 hts gX1_write_X1_addNumber rfl rfl rfl (by decide +kernel) ⟨Nat.le_of_ble_eq_true rfl, Nat.le_of_ble_eq_true rfl⟩) hK hP hD (va_recv hK.1 hP (ci := 1) (q0 := 0) rfl rfl) hS hA rfl hl.1 rfl (Nat.le_of_ble_eq_true rfl) dX1_write_79 ⟨Nat.zero_le _, Nat.zero_le _⟩ (fun u6 H locs hf hP hD hS => ?_)
  have hP : va_P (dC, dI) vwCl (lnW y a u6) H := hP
  have hD : va_D A (lnW y a u6) := hD
  refine lv_iconst (v := 0) hx hb dX1_write_82 (by decide) ?_
  refine lv_istore_n (lv' := [(2, .int 0), (0, .ref a.1), (1, .ref fa)]) hx hb dX1_write_83 rfl hl (by decide) rfl (fun ls hl => ?_)
  exact j_X1_write_84 C0 a K F fa hR hRn 1000 u6 0 H locs ls hP hD hS (lv_sub hl [1, 2, 0] rfl) hf
set_option maxHeartbeats 4000000 in
set_option maxRecDepth 100000 in
theorem c_X1_write (l : Launch) (dC : Nat → ClassId) (dI : Nat → Nat → Nat) (y : Nat → ClassId) (a : LineA) (sz : Nat) (S : LineS) (fa : Nat) (F : FrameS) (K : LineS → Prop) (hf : wp_X1_write S F K) : MVR l yX1_write wsX1_write { frames := 2, cells := 0, slots := 0, locals := 47 } dC dI y [.ref a.1, .ref fa] (lnW y a S) (frW fa F) sz (fun u => lnW y a u) K := by
  refine Met.ofW (cc := cX1_write) (maxL := 3) (ret := none) (by decide) rfl ?_
  intro p e s m args below meth c s₁ B hml hv
  obtain ⟨rfl, hsz, hP, hR, hK, hDr⟩ := hv
  have hD0 := hDr.left
  have hx := B.exec
  have hb := B.bytes
  have hr := B.returns
  have hts := atoms_spec (ws := wsX1_write) B.pre
  have hown : s.vm.findClass RX1 = some m.cls := findClass_of_methodNamed B.named
  have hlocks := B.notSynchronized
  subst hsz
  have hD := hD0.self (sz := s.heap.size)
  generalize hAe : va_A (lnW y a S) s.heap.size = A at hD ⊢
  have hA : ∀ q : Nat, s.heap.size ≤ q → A q := fun q h => by rw [← hAe]; exact Or.inr h
  have hS : va_S A s.heap s.heap [] := va_S.rf
  have hRn : ∀ (k : Nat) (q : Nat × va_E), (frW fa F)[k]? = some q → ¬ A q.1 := by rw [← hAe]; exact ro_not hR hDr
  have C0 : Cx p s m [.ref a.1, .ref fa].toArray meth c cX1_write 3 none wsX1_write RX1 A dC dI y := ⟨hx, hb, hr, hml, hown, hts, hlocks, hA, hK⟩
  have w44 := hts (Cond.fieldLink RX1 44 "SharedWire$Frame" "isLong" "Z") (List.mem_of_getElem? (i := 1) rfl)
  have w50 := hts (Cond.fieldLink RX1 50 "SharedWire$Frame" "identifier" "I") (List.mem_of_getElem? (i := 2) rfl)
  have hinX0 : ∀ w ∈ wsX00, w ∈ wsX1_write := fun w h => List.mem_cons_of_mem _ (List.mem_append_left _ (List.mem_append_right _ (h)))
  have hl := lv_entry ([.ref a.1, .ref fa]) (n := 3) (Nat.le_of_ble_eq_true rfl)
  rw [lg_entry_eq]
  generalize (lg_sl ([.ref a.1, .ref fa]) ++ List.replicate (3 - (lg_sl ([.ref a.1, .ref fa])).length) Slot.unset).toArray = ls at hl ⊢
  have hl : lv_has ls 3 [(0, .ref a.1), (1, .ref fa)] := hl
  obtain ⟨bits, places, len, head, framed, alike, last, check⟩ := S
  clear hAe hD0
  generalize hL0 : ([] : List Loc) = locs at hS ⊢
  unfold wp_X1_write at hf
  refine lv_aload_n hx hb dX1_write_0 rfl (lv_at hl 0 rfl) ?_
  refine k0v (As := []) (rest := []) ⟨hx, hb, hml, hown, hts⟩ (c_X1_clear l dC dI y a s.heap.size (bits, places, len, head, framed, alike, last, check) _ hf) (cwV 0 hts gX1_write_X1_clear rfl rfl rfl (by decide +kernel) ⟨Nat.le_of_ble_eq_true rfl, Nat.le_of_ble_eq_true rfl⟩) hK hP hD (va_recv hK.1 hP (ci := 1) (q0 := 0) rfl rfl) hS hA rfl hl.1 rfl (Nat.le_of_ble_eq_true rfl) dX1_write_1 ⟨Nat.zero_le _, Nat.zero_le _⟩ (fun u1 H locs hf hP hD hS => ?_)
  have hP : va_P (dC, dI) vwCl (lnW y a u1) H := hP
  have hD : va_D A (lnW y a u1) := hD
  refine lv_aload_n hx hb dX1_write_4 rfl (lv_at hl 0 rfl) ?_
  refine lv_iconst (v := 0) hx hb dX1_write_5 (by decide) ?_
  refine lv_iconst (v := 1) hx hb dX1_write_6 (by decide) ?_
  refine k0v (As := [.int 0, .int 1]) (rest := []) ⟨hx, hb, hml, hown, hts⟩ (c_X1_addNumber l dC dI y a H.size u1 0 1 _ hf) (cwV 2 hts gX1_write_X1_addNumber rfl rfl rfl (by decide +kernel) ⟨Nat.le_of_ble_eq_true rfl, Nat.le_of_ble_eq_true rfl⟩) hK hP hD (va_recv hK.1 hP (ci := 1) (q0 := 0) rfl rfl) hS hA rfl hl.1 rfl (Nat.le_of_ble_eq_true rfl) dX1_write_7 ⟨Nat.zero_le _, Nat.zero_le _⟩ (fun u2 H locs hf hP hD hS => ?_)
  have hP : va_P (dC, dI) vwCl (lnW y a u2) H := hP
  have hD : va_D A (lnW y a u2) := hD
  refine lv_aload_n hx hb dX1_write_10 rfl (lv_at hl 1 rfl) ?_
  refine va_get (D := (dC, dI)) (ci := 0) (v := .int F.1) (C := RX0) (T := TX0) (N := 4) hx hb hts hinX0 hown hK.1 (ro_at hS hR hRn) 0 rfl rfl 0 (by decide) w44 (fun _ h9 => h9) rfl dX1_write_11 ?_
  refine lv_if_eq (tgt := 49) hx hb dX1_write_14 (by decide) (fun c3 => ?_) (fun c3 => ?_)
  · replace hf := hf.1 c3
    refine lv_aload_n hx hb dX1_write_49 rfl (lv_at hl 0 rfl) ?_
    refine lv_aload_n hx hb dX1_write_50 rfl (lv_at hl 1 rfl) ?_
    refine va_get (D := (dC, dI)) (ci := 0) (v := .int F.2.1) (C := RX0) (T := TX0) (N := 4) hx hb hts hinX0 hown hK.1 (ro_at hS hR hRn) 0 rfl rfl 1 (by decide) w50 (fun _ h9 => h9) rfl dX1_write_51 ?_
    refine lv_bipush (v := 11) hx hb dX1_write_54 (by decide) ?_
    refine k0v (As := [.int F.2.1, .int 11]) (rest := []) ⟨hx, hb, hml, hown, hts⟩ (c_X1_addNumber l dC dI y a H.size u2 F.2.1 11 _ hf) (cwV 2 hts gX1_write_X1_addNumber rfl rfl rfl (by decide +kernel) ⟨Nat.le_of_ble_eq_true rfl, Nat.le_of_ble_eq_true rfl⟩) hK hP hD (va_recv hK.1 hP (ci := 1) (q0 := 0) rfl rfl) hS hA rfl hl.1 rfl (Nat.le_of_ble_eq_true rfl) dX1_write_56 ⟨Nat.zero_le _, Nat.zero_le _⟩ (fun u4 H locs hf hP hD hS => ?_)
    have hP : va_P (dC, dI) vwCl (lnW y a u4) H := hP
    have hD : va_D A (lnW y a u4) := hD
    exact j_X1_write_59 C0 a K F fa hR hRn u4 H locs ls hP hD hS (lv_sub hl [0, 1] rfl) hf
  · replace hf := hf.2 c3
    refine lv_aload_n hx hb dX1_write_17 rfl (lv_at hl 0 rfl) ?_
    refine lv_aload_n hx hb dX1_write_18 rfl (lv_at hl 1 rfl) ?_
    refine va_get (D := (dC, dI)) (ci := 0) (v := .int F.2.1) (C := RX0) (T := TX0) (N := 4) hx hb hts hinX0 hown hK.1 (ro_at hS hR hRn) 0 rfl rfl 1 (by decide) w50 (fun _ h9 => h9) rfl dX1_write_19 ?_
    refine lv_bipush (v := 18) hx hb dX1_write_22 (by decide) ?_
    refine lv_ishr hx hb dX1_write_24 ?_
    refine lv_bipush (v := 11) hx hb dX1_write_25 (by decide) ?_
    refine k0v (As := [.int (F.2.1 >>> (18 &&& 31)), .int 11]) (rest := []) ⟨hx, hb, hml, hown, hts⟩ (c_X1_addNumber l dC dI y a H.size u2 (F.2.1 >>> (18 &&& 31)) 11 _ hf) (cwV 2 hts gX1_write_X1_addNumber rfl rfl rfl (by decide +kernel) ⟨Nat.le_of_ble_eq_true rfl, Nat.le_of_ble_eq_true rfl⟩) hK hP hD (va_recv hK.1 hP (ci := 1) (q0 := 0) rfl rfl) hS hA rfl hl.1 rfl (Nat.le_of_ble_eq_true rfl) dX1_write_27 ⟨Nat.zero_le _, Nat.zero_le _⟩ (fun u14 H locs hf hP hD hS => ?_)
    have hP : va_P (dC, dI) vwCl (lnW y a u14) H := hP
    have hD : va_D A (lnW y a u14) := hD
    refine lv_aload_n hx hb dX1_write_30 rfl (lv_at hl 0 rfl) ?_
    refine lv_iconst (v := 3) hx hb dX1_write_31 (by decide) ?_
    refine lv_iconst (v := 2) hx hb dX1_write_32 (by decide) ?_
    refine k0v (As := [.int 3, .int 2]) (rest := []) ⟨hx, hb, hml, hown, hts⟩ (c_X1_addNumber l dC dI y a H.size u14 3 2 _ hf) (cwV 2 hts gX1_write_X1_addNumber rfl rfl rfl (by decide +kernel) ⟨Nat.le_of_ble_eq_true rfl, Nat.le_of_ble_eq_true rfl⟩) hK hP hD (va_recv hK.1 hP (ci := 1) (q0 := 0) rfl rfl) hS hA rfl hl.1 rfl (Nat.le_of_ble_eq_true rfl) dX1_write_33 ⟨Nat.zero_le _, Nat.zero_le _⟩ (fun u15 H locs hf hP hD hS => ?_)
    have hP : va_P (dC, dI) vwCl (lnW y a u15) H := hP
    have hD : va_D A (lnW y a u15) := hD
    refine lv_aload_n hx hb dX1_write_36 rfl (lv_at hl 0 rfl) ?_
    refine lv_aload_n hx hb dX1_write_37 rfl (lv_at hl 1 rfl) ?_
    refine va_get (D := (dC, dI)) (ci := 0) (v := .int F.2.1) (C := RX0) (T := TX0) (N := 4) hx hb hts hinX0 hown hK.1 (ro_at hS hR hRn) 0 rfl rfl 1 (by decide) w50 (fun _ h9 => h9) rfl dX1_write_38 ?_
    refine lv_bipush (v := 18) hx hb dX1_write_41 (by decide) ?_
    refine k0v (As := [.int F.2.1, .int 18]) (rest := []) ⟨hx, hb, hml, hown, hts⟩ (c_X1_addNumber l dC dI y a H.size u15 F.2.1 18 _ hf) (cwV 2 hts gX1_write_X1_addNumber rfl rfl rfl (by decide +kernel) ⟨Nat.le_of_ble_eq_true rfl, Nat.le_of_ble_eq_true rfl⟩) hK hP hD (va_recv hK.1 hP (ci := 1) (q0 := 0) rfl rfl) hS hA rfl hl.1 rfl (Nat.le_of_ble_eq_true rfl) dX1_write_43 ⟨Nat.zero_le _, Nat.zero_le _⟩ (fun u16 H locs hf hP hD hS => ?_)
    have hP : va_P (dC, dI) vwCl (lnW y a u16) H := hP
    have hD : va_D A (lnW y a u16) := hD
    refine lv_goto (tgt := 59) hx hb dX1_write_46 (by decide) ?_
    exact j_X1_write_59 C0 a K F fa hR hRn u16 H locs ls hP hD hS (lv_sub hl [0, 1] rfl) hf
