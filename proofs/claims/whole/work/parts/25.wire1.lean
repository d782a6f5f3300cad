def wp_X4_isNode_13 (K : Int32 → Prop) : Prop := K 0
def wp_X4_isNode : Int32 → (Int32 → Prop) → Prop := fun p0 K => ((p0 < 0 → wp_X4_isNode_13 K ) ∧ (¬ p0 < 0 → ((4 ≤ p0 → wp_X4_isNode_13 K ) ∧ (¬ 4 ≤ p0 → K 1))))
set_option maxHeartbeats 4000000 in
set_option maxRecDepth 100000 in
theorem j_X4_isNode_13 {p : Program} {l : Launch} {e : Env} {s : State} {m : MethodId} {args : Array Value} {below : List Frame} {meth : Method} {c : Code} {dC : Nat → ClassId} {dI : Nat → Nat → Nat} {y : Nat → ClassId} {A : Nat → Prop} (C0 : Cx p s m args meth c cX4_isNode 1 (some .boolean) wsX4_isNode RX4 A dC dI y) (K : Int32 → Prop) : ∀ (H : Heap) (locs : List Loc) (ls : Array Slot), va_P (dC, dI) vwCl ([]) H → va_D A ([]) → va_S A s.heap H locs → lv_has ls 1 [] → wp_X4_isNode_13 K  → W p l e ({ frames := 0, cells := 0, slots := 0, locals := 0 } : Room) s m args below meth c H locs 0 0 (MQ below (va_Qi (fun r (_ : Unit) => K r) (BW dC dI A (fun _ => [])) A) args s 0 0 A) (F0 m 13 ls []) := by
  obtain ⟨hx, hb, hr, hml, hown, hts, hlocks, hA, hK⟩ := id C0
  intro H locs ls hP hD hS hl hf
  unfold wp_X4_isNode_13 at hf
  refine lv_iconst (v := 0) hx hb dX4_isNode_13 (by decide) ?_
  exact W.zret (v := 0) hx hb hr rfl (fun t ht hW => ⟨⟨0, (), rfl, hf, by rw [ht]; exact hP, hD⟩, hS.F ht⟩) hS.2.2 dX4_isNode_14
set_option maxHeartbeats 4000000 in
set_option maxRecDepth 100000 in
theorem c_X4_isNode (l : Launch) (dC : Nat → ClassId) (dI : Nat → Nat → Nat) (y : Nat → ClassId) (sz : Nat) (p0 : Int32) (K : Int32 → Prop) (hf : wp_X4_isNode p0 K) : MS l yX4_isNode wsX4_isNode { frames := 0, cells := 0, slots := 0, locals := 0 } dC dI y [.int p0] sz K := by
  refine Met.ofW (cc := cX4_isNode) (maxL := 1) (ret := (some .boolean)) (by decide) rfl ?_
  intro p e s m args below meth c s₁ B hml hv
  obtain ⟨rfl, hsz, hP, hK, hD0⟩ := hv
  have hx := B.exec
  have hb := B.bytes
  have hr := B.returns
  have hts := atoms_spec (ws := wsX4_isNode) B.pre
  have hown : s.vm.findClass RX4 = some m.cls := findClass_of_methodNamed B.named
  have hlocks := B.notSynchronized
  subst hsz
  have hD := hD0.self (sz := s.heap.size)
  generalize hAe : va_A ([]) s.heap.size = A at hD ⊢
  have hA : ∀ q : Nat, s.heap.size ≤ q → A q := fun q h => by rw [← hAe]; exact Or.inr h
  have hS : va_S A s.heap s.heap [] := va_S.rf
  have C0 : Cx p s m [.int p0].toArray meth c cX4_isNode 1 (some .boolean) wsX4_isNode RX4 A dC dI y := ⟨hx, hb, hr, hml, hown, hts, hlocks, hA, hK⟩
  have hl := lv_entry ([.int p0]) (n := 1) (Nat.le_of_ble_eq_true rfl)
  rw [lg_entry_eq]
  generalize (lg_sl ([.int p0]) ++ List.replicate (1 - (lg_sl ([.int p0])).length) Slot.unset).toArray = ls at hl ⊢
  have hl : lv_has ls 1 [(0, .int p0)] := hl
  clear hAe hD0
  generalize hL0 : ([] : List Loc) = locs at hS ⊢
  unfold wp_X4_isNode at hf
  refine lv_iload_n hx hb dX4_isNode_0 rfl (lv_at hl 0 rfl) ?_
  refine lv_if_lt (tgt := 13) hx hb dX4_isNode_1 (by decide) (fun c1 => ?_) (fun c1 => ?_)
  · replace hf := hf.1 c1
    exact j_X4_isNode_13 C0 K  s.heap locs ls hP hD hS (lv_sub hl [] rfl) hf
  · replace hf := hf.2 c1
    refine lv_iload_n hx hb dX4_isNode_4 rfl (lv_at hl 0 rfl) ?_
    refine lv_iconst (v := 4) hx hb dX4_isNode_5 (by decide) ?_
    refine lv_icmp_ge (tgt := 13) hx hb dX4_isNode_6 (by decide) (fun c2 => ?_) (fun c2 => ?_)
    · replace hf := hf.1 c2
      exact j_X4_isNode_13 C0 K  s.heap locs ls hP hD hS (lv_sub hl [] rfl) hf
    · replace hf := hf.2 c2
      refine lv_iconst (v := 1) hx hb dX4_isNode_9 (by decide) ?_
      refine lv_goto (tgt := 14) hx hb dX4_isNode_10 (by decide) ?_
      exact W.zret (v := 1) hx hb hr rfl (fun t ht hW => ⟨⟨1, (), rfl, hf, by rw [ht]; exact hP, hD⟩, hS.F ht⟩) hS.2.2 dX4_isNode_14

def wp_X4_isOnTape_16 (K : Int32 → Prop) : WireS → Prop := fun (state, left, tapeLen, tapeB, tLine, tReader, nodes) => K 0
def wp_X4_isOnTape : WireS → Int32 → (Int32 → Prop) → Prop := fun (state, left, tapeLen, tapeB, tLine, tReader, nodes) p0 K => ((p0 < 0 → wp_X4_isOnTape_16 K (state, left, tapeLen, tapeB, tLine, tReader, nodes)) ∧ (¬ p0 < 0 → ((tapeLen ≤ p0 → wp_X4_isOnTape_16 K (state, left, tapeLen, tapeB, tLine, tReader, nodes)) ∧ (¬ tapeLen ≤ p0 → K 1))))
set_option maxHeartbeats 4000000 in
set_option maxRecDepth 100000 in
theorem j_X4_isOnTape_16 {p : Program} {l : Launch} {e : Env} {s : State} {m : MethodId} {args : Array Value} {below : List Frame} {meth : Method} {c : Code} {dC : Nat → ClassId} {dI : Nat → Nat → Nat} {y : Nat → ClassId} {A : Nat → Prop} (C0 : Cx p s m args meth c cX4_isOnTape 2 (some .boolean) wsX4_isOnTape RX4 A dC dI y) (a : WireA) (gs : Nat → Nat → Nat) (K : Int32 → Prop) (S0 : WireS) : ∀ (S : WireS) (H : Heap) (locs : List Loc) (ls : Array Slot), va_P (dC, dI) vwCl (wrW y a gs S) H → va_D A (wrW y a gs S) → va_S A s.heap H locs → lv_has ls 2 [] → S = S0 → wp_X4_isOnTape_16 K S → W p l e ({ frames := 0, cells := 0, slots := 0, locals := 0 } : Room) s m args below meth c H locs 0 0 (MQ below (va_Qi (fun r u => K r ∧ u = S0) (BW dC dI A (fun u => wrW y a gs u)) A) args s 0 0 A) (F0 m 16 ls []) := by
  obtain ⟨hx, hb, hr, hml, hown, hts, hlocks, hA, hK⟩ := id C0
  intro S H locs ls hP hD hS hl hSS hf
  obtain ⟨state, left, tapeLen, tapeB, tLine, tReader, nodes⟩ := S
  unfold wp_X4_isOnTape_16 at hf
  refine lv_iconst (v := 0) hx hb dX4_isOnTape_16 (by decide) ?_
  exact W.zret (v := 0) (ty := .boolean) hx hb hr rfl (fun t ht hW => ⟨⟨0, (state, left, tapeLen, tapeB, tLine, tReader, nodes), rfl, ⟨hf, hSS⟩, by rw [ht]; exact hP, hD⟩, hS.F ht⟩) hS.2.2 dX4_isOnTape_17
set_option maxHeartbeats 4000000 in
set_option maxRecDepth 100000 in
theorem c_X4_isOnTape (l : Launch) (dC : Nat → ClassId) (dI : Nat → Nat → Nat) (y : Nat → ClassId) (a : WireA) (gs : Nat → Nat → Nat) (sz : Nat) (S : WireS) (p0 : Int32) (K : Int32 → Prop) (hf : wp_X4_isOnTape S p0 K) : MI l yX4_isOnTape wsX4_isOnTape { frames := 0, cells := 0, slots := 0, locals := 0 } dC dI y [.ref a.1, .int p0] (wrW y a gs S) sz (fun u => wrW y a gs u) (fun r u => K r ∧ u = S) := by
  refine Met.ofW (cc := cX4_isOnTape) (maxL := 2) (ret := (some .boolean)) (by decide) rfl ?_
  intro p e s m args below meth c s₁ B hml hv
  obtain ⟨rfl, hsz, hP, hK, hD0⟩ := hv
  have hx := B.exec
  have hb := B.bytes
  have hr := B.returns
  have hts := atoms_spec (ws := wsX4_isOnTape) B.pre
  have hown : s.vm.findClass RX4 = some m.cls := findClass_of_methodNamed B.named
  have hlocks := B.notSynchronized
  subst hsz
  have hD := hD0.self (sz := s.heap.size)
  generalize hAe : va_A (wrW y a gs S) s.heap.size = A at hD ⊢
  have hA : ∀ q : Nat, s.heap.size ≤ q → A q := fun q h => by rw [← hAe]; exact Or.inr h
  have hS : va_S A s.heap s.heap [] := va_S.rf
  have C0 : Cx p s m [.ref a.1, .int p0].toArray meth c cX4_isOnTape 2 (some .boolean) wsX4_isOnTape RX4 A dC dI y := ⟨hx, hb, hr, hml, hown, hts, hlocks, hA, hK⟩
  have w26 := hts (.fieldLink RX4 26 "SharedWire" "tapeLength" "I") (List.mem_of_getElem? (i := 1) rfl)
  have hinX4 : ∀ w ∈ wsX40, w ∈ wsX4_isOnTape := fun w h => List.mem_cons_of_mem _ (List.mem_append_right _ (h))
  have hl := lv_entry ([.ref a.1, .int p0]) (n := 2) (Nat.le_of_ble_eq_true rfl)
  rw [lg_entry_eq]
  generalize (lg_sl ([.ref a.1, .int p0]) ++ List.replicate (2 - (lg_sl ([.ref a.1, .int p0])).length) Slot.unset).toArray = ls at hl ⊢
  have hl : lv_has ls 2 [(0, .ref a.1), (1, .int p0)] := hl
  obtain ⟨state, left, tapeLen, tapeB, tLine, tReader, nodes⟩ := S
  have hSS : (state, left, tapeLen, tapeB, tLine, tReader, nodes) = (state, left, tapeLen, tapeB, tLine, tReader, nodes) := rfl
  clear hAe hD0
  generalize hL0 : ([] : List Loc) = locs at hS ⊢
  unfold wp_X4_isOnTape at hf
  refine lv_iload_n hx hb dX4_isOnTape_0 rfl (lv_at hl 1 rfl) ?_
  refine lv_if_lt (tgt := 16) hx hb dX4_isOnTape_1 (by decide) (fun c1 => ?_) (fun c1 => ?_)
  · replace hf := hf.1 c1
    exact j_X4_isOnTape_16 C0 a gs K _ (state, left, tapeLen, tapeB, tLine, tReader, nodes) s.heap locs ls hP hD hS (lv_sub hl [] rfl) hSS hf
  · replace hf := hf.2 c1
    refine lv_iload_n hx hb dX4_isOnTape_4 rfl (lv_at hl 1 rfl) ?_
    refine lv_aload_n hx hb dX4_isOnTape_5 rfl (lv_at hl 0 rfl) ?_
    refine va_get (D := (dC, dI)) (ci := 4) (v := .int tapeLen) (C := RX4) (T := TX4) (N := 7) hx hb hts hinX4 hown hK.1 hP 0 rfl rfl 4 (by decide) w26 (fun _ h9 => h9) rfl dX4_isOnTape_6 ?_
    refine lv_icmp_ge (tgt := 16) hx hb dX4_isOnTape_9 (by decide) (fun c2 => ?_) (fun c2 => ?_)
    · replace hf := hf.1 c2
      exact j_X4_isOnTape_16 C0 a gs K _ (state, left, tapeLen, tapeB, tLine, tReader, nodes) s.heap locs ls hP hD hS (lv_sub hl [] rfl) hSS hf
    · replace hf := hf.2 c2
      refine lv_iconst (v := 1) hx hb dX4_isOnTape_12 (by decide) ?_
      refine lv_goto (tgt := 17) hx hb dX4_isOnTape_13 (by decide) ?_
      exact W.zret (v := 1) (ty := .boolean) hx hb hr rfl (fun t ht hW => ⟨⟨1, (state, left, tapeLen, tapeB, tLine, tReader, nodes), rfl, ⟨hf, hSS⟩, by rw [ht]; exact hP, hD⟩, hS.F ht⟩) hS.2.2 dX4_isOnTape_17

def wp_X4_wire : WireS → (Int32 → Prop) → Prop := fun (state, left, tapeLen, tapeB, tLine, tReader, nodes) K => K state
set_option maxHeartbeats 4000000 in
set_option maxRecDepth 100000 in
theorem c_X4_wire (l : Launch) (dC : Nat → ClassId) (dI : Nat → Nat → Nat) (y : Nat → ClassId) (a : WireA) (gs : Nat → Nat → Nat) (sz : Nat) (S : WireS) (K : Int32 → Prop) (hf : wp_X4_wire S K) : MI l yX4_wire wsX4_wire { frames := 0, cells := 0, slots := 0, locals := 0 } dC dI y [.ref a.1] (wrW y a gs S) sz (fun u => wrW y a gs u) (fun r u => K r ∧ u = S) := by
  refine Met.ofW (cc := cX4_wire) (maxL := 1) (ret := (some .int)) (by decide) rfl ?_
  intro p e s m args below meth c s₁ B hml hv
  obtain ⟨rfl, hsz, hP, hK, hD0⟩ := hv
  have hx := B.exec
  have hb := B.bytes
  have hr := B.returns
  have hts := atoms_spec (ws := wsX4_wire) B.pre
  have hown : s.vm.findClass RX4 = some m.cls := findClass_of_methodNamed B.named
  have hlocks := B.notSynchronized
  subst hsz
  have hD := hD0.self (sz := s.heap.size)
  generalize hAe : va_A (wrW y a gs S) s.heap.size = A at hD ⊢
  have hA : ∀ q : Nat, s.heap.size ≤ q → A q := fun q h => by rw [← hAe]; exact Or.inr h
  have hS : va_S A s.heap s.heap [] := va_S.rf
  have C0 : Cx p s m [.ref a.1].toArray meth c cX4_wire 1 (some .int) wsX4_wire RX4 A dC dI y := ⟨hx, hb, hr, hml, hown, hts, hlocks, hA, hK⟩
  have w15 := hts (.fieldLink RX4 15 "SharedWire" "state" "I") (List.mem_of_getElem? (i := 1) rfl)
  have hinX4 : ∀ w ∈ wsX40, w ∈ wsX4_wire := fun w h => List.mem_cons_of_mem _ (List.mem_append_right _ (h))
  have hl := lv_entry ([.ref a.1]) (n := 1) (Nat.le_of_ble_eq_true rfl)
  rw [lg_entry_eq]
  generalize (lg_sl ([.ref a.1]) ++ List.replicate (1 - (lg_sl ([.ref a.1])).length) Slot.unset).toArray = ls at hl ⊢
  have hl : lv_has ls 1 [(0, .ref a.1)] := hl
  obtain ⟨state, left, tapeLen, tapeB, tLine, tReader, nodes⟩ := S
  have hSS : (state, left, tapeLen, tapeB, tLine, tReader, nodes) = (state, left, tapeLen, tapeB, tLine, tReader, nodes) := rfl
  clear hAe hD0
  generalize hL0 : ([] : List Loc) = locs at hS ⊢
  unfold wp_X4_wire at hf
  refine lv_aload_n hx hb dX4_wire_0 rfl (lv_at hl 0 rfl) ?_
  refine va_get (D := (dC, dI)) (ci := 4) (v := .int state) (C := RX4) (T := TX4) (N := 7) hx hb hts hinX4 hown hK.1 hP 0 rfl rfl 1 (by decide) w15 (fun _ h9 => h9) rfl dX4_wire_1 ?_
  exact W.iret (v := state) hx hb hr (fun t ht hW => ⟨⟨state, (state, left, tapeLen, tapeB, tLine, tReader, nodes), rfl, ⟨hf, hSS⟩, by rw [ht]; exact hP, hD⟩, hS.F ht⟩) hS.2.2 dX4_wire_4

def wp_X4_wipe : WireS → (Int32 → WireS → Prop) → Prop := fun (state, left, tapeLen, tapeB, tLine, tReader, nodes) K => K tapeLen (state, left, 0, tapeB, tLine, tReader, nodes)
set_option maxHeartbeats 4000000 in
set_option maxRecDepth 100000 in
theorem c_X4_wipe (l : Launch) (dC : Nat → ClassId) (dI : Nat → Nat → Nat) (y : Nat → ClassId) (a : WireA) (gs : Nat → Nat → Nat) (sz : Nat) (S : WireS) (K : Int32 → WireS → Prop) (hf : wp_X4_wipe S K) : MI l yX4_wipe wsX4_wipe { frames := 0, cells := 0, slots := 0, locals := 0 } dC dI y [.ref a.1] (wrW y a gs S) sz (fun u => wrW y a gs u) K := by
  refine Met.ofW (cc := cX4_wipe) (maxL := 2) (ret := (some .int)) (by decide) rfl ?_
  intro p e s m args below meth c s₁ B hml hv
  obtain ⟨rfl, hsz, hP, hK, hD0⟩ := hv
  have hx := B.exec
  have hb := B.bytes
  have hr := B.returns
  have hts := atoms_spec (ws := wsX4_wipe) B.pre
  have hown : s.vm.findClass RX4 = some m.cls := findClass_of_methodNamed B.named
  have hlocks := B.notSynchronized
  subst hsz
  have hD := hD0.self (sz := s.heap.size)
  generalize hAe : va_A (wrW y a gs S) s.heap.size = A at hD ⊢
  have hA : ∀ q : Nat, s.heap.size ≤ q → A q := fun q h => by rw [← hAe]; exact Or.inr h
  have hS : va_S A s.heap s.heap [] := va_S.rf
  have C0 : Cx p s m [.ref a.1].toArray meth c cX4_wipe 2 (some .int) wsX4_wipe RX4 A dC dI y := ⟨hx, hb, hr, hml, hown, hts, hlocks, hA, hK⟩
  have w26 := hts (.fieldLink RX4 26 "SharedWire" "tapeLength" "I") (List.mem_of_getElem? (i := 1) rfl)
  have hinX4 : ∀ w ∈ wsX40, w ∈ wsX4_wipe := fun w h => List.mem_cons_of_mem _ (List.mem_append_right _ (h))
  have hl := lv_entry ([.ref a.1]) (n := 2) (Nat.le_of_ble_eq_true rfl)
  rw [lg_entry_eq]
  generalize (lg_sl ([.ref a.1]) ++ List.replicate (2 - (lg_sl ([.ref a.1])).length) Slot.unset).toArray = ls at hl ⊢
  have hl : lv_has ls 2 [(0, .ref a.1)] := hl
  obtain ⟨state, left, tapeLen, tapeB, tLine, tReader, nodes⟩ := S
  clear hAe hD0
  generalize hL0 : ([] : List Loc) = locs at hS ⊢
  unfold wp_X4_wipe at hf
  refine lv_aload_n hx hb dX4_wipe_0 rfl (lv_at hl 0 rfl) ?_
  refine va_get (D := (dC, dI)) (ci := 4) (v := .int tapeLen) (C := RX4) (T := TX4) (N := 7) hx hb hts hinX4 hown hK.1 hP 0 rfl rfl 4 (by decide) w26 (fun _ h9 => h9) rfl dX4_wipe_1 ?_
  refine lv_istore_n (lv' := [(1, .int tapeLen), (0, .ref a.1)]) hx hb dX4_wipe_4 rfl hl (by decide) rfl (fun ls hl => ?_)
  refine lv_aload_n hx hb dX4_wipe_5 rfl (lv_at hl 1 rfl) ?_
  refine lv_iconst (v := 0) hx hb dX4_wipe_6 (by decide) ?_
  refine va_put (D := (dC, dI)) (ci := 4) (v := .int 0) (ty := .int) (C := RX4) (T := TX4) (N := 7) hx hb hts hinX4 tyX4 tyX4_ok nmX4 hown hK.1 hP hD hS 0 rfl rfl 4 (by decide) w26 (fun _ h9 => h9) rfl (by decide +kernel) rfl rfl (Nat.le_of_ble_eq_true rfl) dX4_wipe_7 (fun H locs hP hD hS => ?_)
  have hP : va_P (dC, dI) vwCl (wrW y a gs (state, left, 0, tapeB, tLine, tReader, nodes)) H := hP
  have hD : va_D A (wrW y a gs (state, left, 0, tapeB, tLine, tReader, nodes)) := hD
  refine lv_iload_n hx hb dX4_wipe_10 rfl (lv_at hl 0 rfl) ?_
  exact W.iret (v := tapeLen) hx hb hr (fun t ht hW => ⟨⟨tapeLen, (state, left, 0, tapeB, tLine, tReader, nodes), rfl, hf, by rw [ht]; exact hP, hD⟩, hS.F ht⟩) hS.2.2 dX4_wipe_11

def wp_X4_put_23 (K : Int32 → WireS → Prop) : WireS → Prop := fun (state, left, tapeLen, tapeB, tLine, tReader, nodes) => K 0 (state, left, tapeLen, tapeB, tLine, tReader, nodes)
def wp_X4_put_28 (K : Int32 → WireS → Prop) : Nat → WireS → Int64 → Int32 → Int32 → Prop
  | 0, _, _, _, _ => False
  | n + 1, (state, left, tapeLen, tapeB, tLine, tReader, nodes), v1, v3, v4 => ((v3 ≤ v4 → K 1 (state, left, tapeLen, tapeB, tLine, tReader, nodes)) ∧ (¬ v3 ≤ v4 → (vp_in tapeLen 200 ∧ (∀ n6 : Int32, n6 = v4 + 1 → wp_X4_put_28 K n (state, left, tapeLen + 1, (upd tapeB tapeLen.toNatClampNeg ((((v1.toUInt64 >>> (v4.toInt64.toUInt64 &&& Int64.toUInt64 63)).toInt64) &&& 1).toInt32)), tLine, tReader, nodes) v1 v3 n6))))
def wp_X4_put : WireS → Int64 → Int32 → (Int32 → WireS → Prop) → Prop := fun (state, left, tapeLen, tapeB, tLine, tReader, nodes) p0 p1 K => ((p1 < 1 → wp_X4_put_23 K (state, left, tapeLen, tapeB, tLine, tReader, nodes)) ∧ (¬ p1 < 1 → ((64 < p1 → wp_X4_put_23 K (state, left, tapeLen, tapeB, tLine, tReader, nodes)) ∧ (¬ 64 < p1 → ((p1 ≤ 200 - tapeLen → wp_X4_put_28 K 1000 (state, left, tapeLen, tapeB, tLine, tReader, nodes) p0 p1 0) ∧ (¬ p1 ≤ 200 - tapeLen → wp_X4_put_23 K (state, left, tapeLen, tapeB, tLine, tReader, nodes)))))))
set_option maxHeartbeats 4000000 in
set_option maxRecDepth 100000 in
theorem j_X4_put_23 {p : Program} {l : Launch} {e : Env} {s : State} {m : MethodId} {args : Array Value} {below : List Frame} {meth : Method} {c : Code} {dC : Nat → ClassId} {dI : Nat → Nat → Nat} {y : Nat → ClassId} {A : Nat → Prop} (C0 : Cx p s m args meth c cX4_put 5 (some .boolean) wsX4_put RX4 A dC dI y) (a : WireA) (gs : Nat → Nat → Nat) (K : Int32 → WireS → Prop) : ∀ (S : WireS) (H : Heap) (locs : List Loc) (ls : Array Slot), va_P (dC, dI) vwCl (wrW y a gs S) H → va_D A (wrW y a gs S) → va_S A s.heap H locs → lv_has ls 5 [] → wp_X4_put_23 K S → W p l e ({ frames := 0, cells := 0, slots := 0, locals := 0 } : Room) s m args below meth c H locs 0 0 (MQ below (va_Qi K (BW dC dI A (fun u => wrW y a gs u)) A) args s 0 0 A) (F0 m 23 ls []) := by
  obtain ⟨hx, hb, hr, hml, hown, hts, hlocks, hA, hK⟩ := id C0
  intro S H locs ls hP hD hS hl hf
  obtain ⟨state, left, tapeLen, tapeB, tLine, tReader, nodes⟩ := S
  unfold wp_X4_put_23 at hf
  refine lv_iconst (v := 0) hx hb dX4_put_23 (by decide) ?_
  exact W.zret (v := 0) (ty := .boolean) hx hb hr rfl (fun t ht hW => ⟨⟨0, (state, left, tapeLen, tapeB, tLine, tReader, nodes), rfl, hf, by rw [ht]; exact hP, hD⟩, hS.F ht⟩) hS.2.2 dX4_put_24
set_option maxHeartbeats 4000000 in
set_option maxRecDepth 100000 in
theorem j_X4_put_28 {p : Program} {l : Launch} {e : Env} {s : State} {m : MethodId} {args : Array Value} {below : List Frame} {meth : Method} {c : Code} {dC : Nat → ClassId} {dI : Nat → Nat → Nat} {y : Nat → ClassId} {A : Nat → Prop} (C0 : Cx p s m args meth c cX4_put 5 (some .boolean) wsX4_put RX4 A dC dI y) (a : WireA) (gs : Nat → Nat → Nat) (K : Int32 → WireS → Prop) : ∀ n : Nat, ∀ (S : WireS) (v1 : Int64) (v3 : Int32) (v4 : Int32) (H : Heap) (locs : List Loc) (ls : Array Slot), va_P (dC, dI) vwCl (wrW y a gs S) H → va_D A (wrW y a gs S) → va_S A s.heap H locs → lv_has ls 5 [(0, .ref a.1), (1, .long v1), (3, .int v3), (4, .int v4)] → wp_X4_put_28 K n S v1 v3 v4 → W p l e ({ frames := 0, cells := 0, slots := 0, locals := 0 } : Room) s m args below meth c H locs 0 0 (MQ below (va_Qi K (BW dC dI A (fun u => wrW y a gs u)) A) args s 0 0 A) (F0 m 28 ls []) := by
  obtain ⟨hx, hb, hr, hml, hown, hts, hlocks, hA, hK⟩ := id C0
  have w22 := hts (.fieldLink RX4 22 "SharedWire" "tapeBits" "[I") (List.mem_of_getElem? (i := 2) rfl)
  have w26 := hts (.fieldLink RX4 26 "SharedWire" "tapeLength" "I") (List.mem_of_getElem? (i := 1) rfl)
  have hinX4 : ∀ w ∈ wsX40, w ∈ wsX4_put := fun w h => List.mem_cons_of_mem _ (List.mem_append_right _ (h))
  intro n
  induction n with
  | zero =>
    intro S v1 v3 v4 H locs ls hP hD hS hl hf
    exact False.elim (by unfold wp_X4_put_28 at hf; exact hf)
  | succ n ih =>
    intro S v1 v3 v4 H locs ls hP hD hS hl hf
    obtain ⟨state, left, tapeLen, tapeB, tLine, tReader, nodes⟩ := S
    unfold wp_X4_put_28 at hf
    refine lv_iload hx hb dX4_put_28 (lv_at hl 3 rfl) ?_
    refine lv_iload_n hx hb dX4_put_30 rfl (lv_at hl 2 rfl) ?_
    refine lv_icmp_ge (tgt := 66) hx hb dX4_put_31 (by decide) (fun c4 => ?_) (fun c4 => ?_)
    · replace hf := hf.1 c4
      refine lv_iconst (v := 1) hx hb dX4_put_66 (by decide) ?_
      exact W.zret (v := 1) (ty := .boolean) hx hb hr rfl (fun t ht hW => ⟨⟨1, (state, left, tapeLen, tapeB, tLine, tReader, nodes), rfl, hf, by rw [ht]; exact hP, hD⟩, hS.F ht⟩) hS.2.2 dX4_put_67
    · replace hf := hf.2 c4
      refine lv_aload_n hx hb dX4_put_34 rfl (lv_at hl 0 rfl) ?_
      refine va_get (D := (dC, dI)) (ci := 4) (v := .ref a.2.2.1) (C := RX4) (T := TX4) (N := 7) hx hb hts hinX4 hown hK.1 hP 0 rfl rfl 3 (by decide) w22 (fun _ h9 => h9) rfl dX4_put_35 ?_
      refine lv_aload_n hx hb dX4_put_38 rfl (lv_at hl 0 rfl) ?_
      refine va_get (D := (dC, dI)) (ci := 4) (v := .int tapeLen) (C := RX4) (T := TX4) (N := 7) hx hb hts hinX4 hown hK.1 hP 0 rfl rfl 4 (by decide) w26 (fun _ h9 => h9) rfl dX4_put_39 ?_
      refine lv_lload_n hx hb dX4_put_42 rfl (lv_at hl 1 rfl) ?_
      refine lv_iload hx hb dX4_put_43 (lv_at hl 3 rfl) ?_
      refine lv_lushr (v := (v1.toUInt64 >>> (v4.toInt64.toUInt64 &&& Int64.toUInt64 63)).toInt64) hx hb dX4_put_45 rfl ?_
      refine lv_lconst (v := 1) hx hb dX4_put_46 (by decide) ?_
      refine lv_land hx hb dX4_put_47 ?_
      refine lv_l2i (v := (((v1.toUInt64 >>> (v4.toInt64.toUInt64 &&& Int64.toUInt64 63)).toInt64) &&& 1).toInt32) hx hb dX4_put_48 rfl ?_
      have g5 := hf.1
      replace hf := hf.2
      refine ar_ist (f := tapeB) (j := tapeLen.toNatClampNeg) hx hb hK.1 hP hD hS 2 0 rfl rfl rfl g5 dX4_put_49 (fun H locs hP hD hS => ?_)
      have hP : va_P (dC, dI) vwCl (wrW y a gs (state, left, tapeLen, (upd tapeB tapeLen.toNatClampNeg ((((v1.toUInt64 >>> (v4.toInt64.toUInt64 &&& Int64.toUInt64 63)).toInt64) &&& 1).toInt32)), tLine, tReader, nodes)) H := hP
      have hD : va_D A (wrW y a gs (state, left, tapeLen, (upd tapeB tapeLen.toNatClampNeg ((((v1.toUInt64 >>> (v4.toInt64.toUInt64 &&& Int64.toUInt64 63)).toInt64) &&& 1).toInt32)), tLine, tReader, nodes)) := hD
      refine lv_aload_n hx hb dX4_put_50 rfl (lv_at hl 0 rfl) ?_
      refine lv_dup hx hb dX4_put_51 rfl ?_
      refine va_get (D := (dC, dI)) (ci := 4) (v := .int tapeLen) (C := RX4) (T := TX4) (N := 7) hx hb hts hinX4 hown hK.1 hP 0 rfl rfl 4 (by decide) w26 (fun _ h9 => h9) rfl dX4_put_52 ?_
      refine lv_iconst (v := 1) hx hb dX4_put_55 (by decide) ?_
      refine lv_iadd hx hb dX4_put_56 ?_
      refine va_put (D := (dC, dI)) (ci := 4) (v := .int (tapeLen + 1)) (ty := .int) (C := RX4) (T := TX4) (N := 7) hx hb hts hinX4 tyX4 tyX4_ok nmX4 hown hK.1 hP hD hS 0 rfl rfl 4 (by decide) w26 (fun _ h9 => h9) rfl (by decide +kernel) rfl rfl (Nat.le_of_ble_eq_true rfl) dX4_put_57 (fun H locs hP hD hS => ?_)
      have hP : va_P (dC, dI) vwCl (wrW y a gs (state, left, tapeLen + 1, (upd tapeB tapeLen.toNatClampNeg ((((v1.toUInt64 >>> (v4.toInt64.toUInt64 &&& Int64.toUInt64 63)).toInt64) &&& 1).toInt32)), tLine, tReader, nodes)) H := hP
      have hD : va_D A (wrW y a gs (state, left, tapeLen + 1, (upd tapeB tapeLen.toNatClampNeg ((((v1.toUInt64 >>> (v4.toInt64.toUInt64 &&& Int64.toUInt64 63)).toInt64) &&& 1).toInt32)), tLine, tReader, nodes)) := hD
      obtain ⟨n6, en6⟩ : ∃ z : Int32, z = v4 + 1 := ⟨_, rfl⟩
      replace hf := hf n6 en6
      refine lv_iinc (v := n6) (lv' := [(4, .int n6), (0, .ref a.1), (1, .long v1), (3, .int v3)]) hx hb dX4_put_60 hl (k := 3) rfl (by rw [en6]; rfl) (by decide) rfl (fun ls hl => ?_)
      refine lv_goto (tgt := 28) hx hb dX4_put_63 (by decide) ?_
      exact ih (state, left, tapeLen + 1, (upd tapeB tapeLen.toNatClampNeg ((((v1.toUInt64 >>> (v4.toInt64.toUInt64 &&& Int64.toUInt64 63)).toInt64) &&& 1).toInt32)), tLine, tReader, nodes) v1 v3 n6 H locs ls hP hD hS (lv_sub hl [1, 2, 3, 0] rfl) hf
set_option maxHeartbeats 4000000 in
set_option maxRecDepth 100000 in
theorem c_X4_put (l : Launch) (dC : Nat → ClassId) (dI : Nat → Nat → Nat) (y : Nat → ClassId) (a : WireA) (gs : Nat → Nat → Nat) (sz : Nat) (S : WireS) (p0 : Int64) (p1 : Int32) (K : Int32 → WireS → Prop) (hf : wp_X4_put S p0 p1 K) : MI l yX4_put wsX4_put { frames := 0, cells := 0, slots := 0, locals := 0 } dC dI y [.ref a.1, .long p0, .int p1] (wrW y a gs S) sz (fun u => wrW y a gs u) K := by
  refine Met.ofW (cc := cX4_put) (maxL := 5) (ret := (some .boolean)) (by decide) rfl ?_
  intro p e s m args below meth c s₁ B hml hv
  obtain ⟨rfl, hsz, hP, hK, hD0⟩ := hv
  have hx := B.exec
  have hb := B.bytes
  have hr := B.returns
  have hts := atoms_spec (ws := wsX4_put) B.pre
  have hown : s.vm.findClass RX4 = some m.cls := findClass_of_methodNamed B.named
  have hlocks := B.notSynchronized
  subst hsz
  have hD := hD0.self (sz := s.heap.size)
  generalize hAe : va_A (wrW y a gs S) s.heap.size = A at hD ⊢
  have hA : ∀ q : Nat, s.heap.size ≤ q → A q := fun q h => by rw [← hAe]; exact Or.inr h
  have hS : va_S A s.heap s.heap [] := va_S.rf
  have C0 : Cx p s m [.ref a.1, .long p0, .int p1].toArray meth c cX4_put 5 (some .boolean) wsX4_put RX4 A dC dI y := ⟨hx, hb, hr, hml, hown, hts, hlocks, hA, hK⟩
  have w26 := hts (.fieldLink RX4 26 "SharedWire" "tapeLength" "I") (List.mem_of_getElem? (i := 1) rfl)
  have hinX4 : ∀ w ∈ wsX40, w ∈ wsX4_put := fun w h => List.mem_cons_of_mem _ (List.mem_append_right _ (h))
  have hl := lv_entry ([.ref a.1, .long p0, .int p1]) (n := 5) (Nat.le_of_ble_eq_true rfl)
  rw [lg_entry_eq]
  generalize (lg_sl ([.ref a.1, .long p0, .int p1]) ++ List.replicate (5 - (lg_sl ([.ref a.1, .long p0, .int p1])).length) Slot.unset).toArray = ls at hl ⊢
  have hl : lv_has ls 5 [(0, .ref a.1), (1, .long p0), (3, .int p1)] := hl
  obtain ⟨state, left, tapeLen, tapeB, tLine, tReader, nodes⟩ := S
  clear hAe hD0
  generalize hL0 : ([] : List Loc) = locs at hS ⊢
  unfold wp_X4_put at hf
  refine lv_iload_n hx hb dX4_put_0 rfl (lv_at hl 2 rfl) ?_
  refine lv_iconst (v := 1) hx hb dX4_put_1 (by decide) ?_
  refine lv_icmp_lt (tgt := 23) hx hb dX4_put_2 (by decide) (fun c1 => ?_) (fun c1 => ?_)
  · replace hf := hf.1 c1
    exact j_X4_put_23 C0 a gs K (state, left, tapeLen, tapeB, tLine, tReader, nodes) s.heap locs ls hP hD hS (lv_sub hl [] rfl) hf
  · replace hf := hf.2 c1
    refine lv_iload_n hx hb dX4_put_5 rfl (lv_at hl 2 rfl) ?_
    refine lv_bipush (v := 64) hx hb dX4_put_6 (by decide) ?_
    refine lv_icmp_gt (tgt := 23) hx hb dX4_put_8 (by decide) (fun c2 => ?_) (fun c2 => ?_)
    · replace hf := hf.1 c2
      exact j_X4_put_23 C0 a gs K (state, left, tapeLen, tapeB, tLine, tReader, nodes) s.heap locs ls hP hD hS (lv_sub hl [] rfl) hf
    · replace hf := hf.2 c2
      refine lv_iload_n hx hb dX4_put_11 rfl (lv_at hl 2 rfl) ?_
      refine lv_sipush (v := 200) hx hb dX4_put_12 (by decide) ?_
      refine lv_aload_n hx hb dX4_put_15 rfl (lv_at hl 0 rfl) ?_
      refine va_get (D := (dC, dI)) (ci := 4) (v := .int tapeLen) (C := RX4) (T := TX4) (N := 7) hx hb hts hinX4 hown hK.1 hP 0 rfl rfl 4 (by decide) w26 (fun _ h9 => h9) rfl dX4_put_16 ?_
      refine lv_isub hx hb dX4_put_19 ?_
      refine lv_icmp_le (tgt := 25) hx hb dX4_put_20 (by decide) (fun c3 => ?_) (fun c3 => ?_)
      · replace hf := hf.1 c3
        refine lv_iconst (v := 0) hx hb dX4_put_25 (by decide) ?_
        refine lv_istore (lv' := [(4, .int 0), (0, .ref a.1), (1, .long p0), (3, .int p1)]) hx hb dX4_put_26 hl (by decide) rfl (fun ls hl => ?_)
        exact j_X4_put_28 C0 a gs K 1000 (state, left, tapeLen, tapeB, tLine, tReader, nodes) p0 p1 0 s.heap locs ls hP hD hS (lv_sub hl [1, 2, 3, 0] rfl) hf
      · replace hf := hf.2 c3
        exact j_X4_put_23 C0 a gs K (state, left, tapeLen, tapeB, tLine, tReader, nodes) s.heap locs ls hP hD hS (lv_sub hl [] rfl) hf

def wp_X4_beginPause : WireS → (WireS → Prop) → Prop := fun (state, left, tapeLen, tapeB, tLine, tReader, nodes) K => K (3, 3, tapeLen, tapeB, tLine, tReader, nodes)
set_option maxHeartbeats 4000000 in
set_option maxRecDepth 100000 in
theorem c_X4_beginPause (l : Launch) (dC : Nat → ClassId) (dI : Nat → Nat → Nat) (y : Nat → ClassId) (a : WireA) (gs : Nat → Nat → Nat) (sz : Nat) (S : WireS) (K : WireS → Prop) (hf : wp_X4_beginPause S K) : MV l yX4_beginPause wsX4_beginPause { frames := 0, cells := 0, slots := 0, locals := 0 } dC dI y [.ref a.1] (wrW y a gs S) sz (fun u => wrW y a gs u) K := by
  refine Met.ofW (cc := cX4_beginPause) (maxL := 1) (ret := none) (by decide) rfl ?_
  intro p e s m args below meth c s₁ B hml hv
  obtain ⟨rfl, hsz, hP, hK, hD0⟩ := hv
  have hx := B.exec
  have hb := B.bytes
  have hr := B.returns
  have hts := atoms_spec (ws := wsX4_beginPause) B.pre
  have hown : s.vm.findClass RX4 = some m.cls := findClass_of_methodNamed B.named
  have hlocks := B.notSynchronized
  subst hsz
  have hD := hD0.self (sz := s.heap.size)
  generalize hAe : va_A (wrW y a gs S) s.heap.size = A at hD ⊢
  have hA : ∀ q : Nat, s.heap.size ≤ q → A q := fun q h => by rw [← hAe]; exact Or.inr h
  have hS : va_S A s.heap s.heap [] := va_S.rf
  have C0 : Cx p s m [.ref a.1].toArray meth c cX4_beginPause 1 none wsX4_beginPause RX4 A dC dI y := ⟨hx, hb, hr, hml, hown, hts, hlocks, hA, hK⟩
  have w15 := hts (.fieldLink RX4 15 "SharedWire" "state" "I") (List.mem_of_getElem? (i := 1) rfl)
  have w19 := hts (.fieldLink RX4 19 "SharedWire" "stepsLeft" "I") (List.mem_of_getElem? (i := 2) rfl)
  have hinX4 : ∀ w ∈ wsX40, w ∈ wsX4_beginPause := fun w h => List.mem_cons_of_mem _ (List.mem_append_right _ (h))
  have hl := lv_entry ([.ref a.1]) (n := 1) (Nat.le_of_ble_eq_true rfl)
  rw [lg_entry_eq]
  generalize (lg_sl ([.ref a.1]) ++ List.replicate (1 - (lg_sl ([.ref a.1])).length) Slot.unset).toArray = ls at hl ⊢
  have hl : lv_has ls 1 [(0, .ref a.1)] := hl
  obtain ⟨state, left, tapeLen, tapeB, tLine, tReader, nodes⟩ := S
  clear hAe hD0
  generalize hL0 : ([] : List Loc) = locs at hS ⊢
  unfold wp_X4_beginPause at hf
  refine lv_aload_n hx hb dX4_beginPause_0 rfl (lv_at hl 0 rfl) ?_
  refine lv_iconst (v := 3) hx hb dX4_beginPause_1 (by decide) ?_
  refine va_put (D := (dC, dI)) (ci := 4) (v := .int 3) (ty := .int) (C := RX4) (T := TX4) (N := 7) hx hb hts hinX4 tyX4 tyX4_ok nmX4 hown hK.1 hP hD hS 0 rfl rfl 1 (by decide) w15 (fun _ h9 => h9) rfl (by decide +kernel) rfl rfl (Nat.le_of_ble_eq_true rfl) dX4_beginPause_2 (fun H locs hP hD hS => ?_)
  have hP : va_P (dC, dI) vwCl (wrW y a gs (3, left, tapeLen, tapeB, tLine, tReader, nodes)) H := hP
  have hD : va_D A (wrW y a gs (3, left, tapeLen, tapeB, tLine, tReader, nodes)) := hD
  refine lv_aload_n hx hb dX4_beginPause_5 rfl (lv_at hl 0 rfl) ?_
  refine lv_iconst (v := 3) hx hb dX4_beginPause_6 (by decide) ?_
  refine va_put (D := (dC, dI)) (ci := 4) (v := .int 3) (ty := .int) (C := RX4) (T := TX4) (N := 7) hx hb hts hinX4 tyX4 tyX4_ok nmX4 hown hK.1 hP hD hS 0 rfl rfl 2 (by decide) w19 (fun _ h9 => h9) rfl (by decide +kernel) rfl rfl (Nat.le_of_ble_eq_true rfl) dX4_beginPause_7 (fun H locs hP hD hS => ?_)
  have hP : va_P (dC, dI) vwCl (wrW y a gs (3, 3, tapeLen, tapeB, tLine, tReader, nodes)) H := hP
  have hD : va_D A (wrW y a gs (3, 3, tapeLen, tapeB, tLine, tReader, nodes)) := hD
  exact W.vret hx hb hr (fun t ht hW => ⟨⟨(3, 3, tapeLen, tapeB, tLine, tReader, nodes), rfl, hf, by rw [ht]; exact hP, hD⟩, hS.F ht⟩) hS.2.2 dX4_beginPause_10

def wp_X4_brokenStep_36 (K : Int32 → WireS → Prop) : WireS → Int32 → Prop := fun (state, left, tapeLen, tapeB, tLine, tReader, nodes) v1 => K v1 (state, left, tapeLen, tapeB, tLine, tReader, nodes)
def wp_X4_brokenStep_14 (K : Int32 → WireS → Prop) : WireS → Int32 → Prop := fun (state, left, tapeLen, tapeB, tLine, tReader, nodes) k0 => ((¬ left - 1 = 0 → wp_X4_brokenStep_36 K (state, left - 1, tapeLen, tapeB, tLine, tReader, nodes) k0) ∧ (left - 1 = 0 → wp_X4_beginPause (state, left - 1, tapeLen, tapeB, tLine, tReader, nodes) (fun u3 => wp_X4_brokenStep_36 K u3 k0)))
def wp_X4_brokenStep : WireS → (Int32 → WireS → Prop) → Prop := fun (state, left, tapeLen, tapeB, tLine, tReader, nodes) K => ((left ≤ 8 → wp_X4_brokenStep_14 K (state, left, tapeLen, tapeB, tLine, tReader, nodes) 1) ∧ (¬ left ≤ 8 → wp_X4_brokenStep_14 K (state, left, tapeLen, tapeB, tLine, tReader, nodes) 0))
set_option maxHeartbeats 4000000 in
set_option maxRecDepth 100000 in
theorem j_X4_brokenStep_36 {p : Program} {l : Launch} {e : Env} {s : State} {m : MethodId} {args : Array Value} {below : List Frame} {meth : Method} {c : Code} {dC : Nat → ClassId} {dI : Nat → Nat → Nat} {y : Nat → ClassId} {A : Nat → Prop} (C0 : Cx p s m args meth c cX4_brokenStep 2 (some .int) wsX4_brokenStep RX4 A dC dI y) (a : WireA) (gs : Nat → Nat → Nat) (K : Int32 → WireS → Prop) : ∀ (S : WireS) (v1 : Int32) (H : Heap) (locs : List Loc) (ls : Array Slot), va_P (dC, dI) vwCl (wrW y a gs S) H → va_D A (wrW y a gs S) → va_S A s.heap H locs → lv_has ls 2 [(1, .int v1)] → wp_X4_brokenStep_36 K S v1 → W p l e ({ frames := 1, cells := 0, slots := 0, locals := 20 } : Room) s m args below meth c H locs 0 0 (MQ below (va_Qi K (BW dC dI A (fun u => wrW y a gs u)) A) args s 0 0 A) (F0 m 36 ls []) := by
  obtain ⟨hx, hb, hr, hml, hown, hts, hlocks, hA, hK⟩ := id C0
  intro S v1 H locs ls hP hD hS hl hf
  obtain ⟨state, left, tapeLen, tapeB, tLine, tReader, nodes⟩ := S
  unfold wp_X4_brokenStep_36 at hf
  refine lv_iload_n hx hb dX4_brokenStep_36 rfl (lv_at hl 0 rfl) ?_
  exact W.iret (v := v1) hx hb hr (fun t ht hW => ⟨⟨v1, (state, left, tapeLen, tapeB, tLine, tReader, nodes), rfl, hf, by rw [ht]; exact hP, hD⟩, hS.F ht⟩) hS.2.2 dX4_brokenStep_37
set_option maxHeartbeats 4000000 in
set_option maxRecDepth 100000 in
theorem j_X4_brokenStep_14 {p : Program} {l : Launch} {e : Env} {s : State} {m : MethodId} {args : Array Value} {below : List Frame} {meth : Method} {c : Code} {dC : Nat → ClassId} {dI : Nat → Nat → Nat} {y : Nat → ClassId} {A : Nat → Prop} (C0 : Cx p s m args meth c cX4_brokenStep 2 (some .int) wsX4_brokenStep RX4 A dC dI y) (a : WireA) (gs : Nat → Nat → Nat) (K : Int32 → WireS → Prop) : ∀ (S : WireS) (k0 : Int32) (H : Heap) (locs : List Loc) (ls : Array Slot), va_P (dC, dI) vwCl (wrW y a gs S) H → va_D A (wrW y a gs S) → va_S A s.heap H locs → lv_has ls 2 [(0, .ref a.1)] → wp_X4_brokenStep_14 K S k0 → W p l e ({ frames := 1, cells := 0, slots := 0, locals := 20 } : Room) s m args below meth c H locs 0 0 (MQ below (va_Qi K (BW dC dI A (fun u => wrW y a gs u)) A) args s 0 0 A) (F0 m 14 ls [.int k0]) := by
  obtain ⟨hx, hb, hr, hml, hown, hts, hlocks, hA, hK⟩ := id C0
  have w19 := hts (.fieldLink RX4 19 "SharedWire" "stepsLeft" "I") (List.mem_of_getElem? (i := 1) rfl)
  have hinX4 : ∀ w ∈ wsX40, w ∈ wsX4_brokenStep := fun w h => List.mem_cons_of_mem _ (List.mem_append_right _ (h))
  intro S k0 H locs ls hP hD hS hl hf
  obtain ⟨state, left, tapeLen, tapeB, tLine, tReader, nodes⟩ := S
  unfold wp_X4_brokenStep_14 at hf
  refine lv_istore_n (lv' := [(1, .int k0), (0, .ref a.1)]) hx hb dX4_brokenStep_14 rfl hl (by decide) rfl (fun ls hl => ?_)
  refine lv_aload_n hx hb dX4_brokenStep_15 rfl (lv_at hl 1 rfl) ?_
  refine lv_dup hx hb dX4_brokenStep_16 rfl ?_
  refine va_get (D := (dC, dI)) (ci := 4) (v := .int left) (C := RX4) (T := TX4) (N := 7) hx hb hts hinX4 hown hK.1 hP 0 rfl rfl 2 (by decide) w19 (fun _ h9 => h9) rfl dX4_brokenStep_17 ?_
  refine lv_iconst (v := 1) hx hb dX4_brokenStep_20 (by decide) ?_
  refine lv_isub hx hb dX4_brokenStep_21 ?_
  refine va_put (D := (dC, dI)) (ci := 4) (v := .int (left - 1)) (ty := .int) (C := RX4) (T := TX4) (N := 7) hx hb hts hinX4 tyX4 tyX4_ok nmX4 hown hK.1 hP hD hS 0 rfl rfl 2 (by decide) w19 (fun _ h9 => h9) rfl (by decide +kernel) rfl rfl (Nat.le_of_ble_eq_true rfl) dX4_brokenStep_22 (fun H locs hP hD hS => ?_)
  have hP : va_P (dC, dI) vwCl (wrW y a gs (state, left - 1, tapeLen, tapeB, tLine, tReader, nodes)) H := hP
  have hD : va_D A (wrW y a gs (state, left - 1, tapeLen, tapeB, tLine, tReader, nodes)) := hD
  refine lv_aload_n hx hb dX4_brokenStep_25 rfl (lv_at hl 1 rfl) ?_
  refine va_get (D := (dC, dI)) (ci := 4) (v := .int (left - 1)) (C := RX4) (T := TX4) (N := 7) hx hb hts hinX4 hown hK.1 hP 0 rfl rfl 2 (by decide) w19 (fun _ h9 => h9) rfl dX4_brokenStep_26 ?_
  refine lv_if_ne (tgt := 36) hx hb dX4_brokenStep_29 (by decide) (fun c2 => ?_) (fun c2 => ?_)
  · replace hf := hf.1 c2
    exact j_X4_brokenStep_36 C0 a gs K (state, left - 1, tapeLen, tapeB, tLine, tReader, nodes) k0 H locs ls hP hD hS (lv_sub hl [0] rfl) hf
  · replace hf := hf.2 c2
    refine lv_aload_n hx hb dX4_brokenStep_32 rfl (lv_at hl 1 rfl) ?_
    refine k0v (As := []) (rest := []) ⟨hx, hb, hml, hown, hts⟩ (c_X4_beginPause l dC dI y a gs H.size (state, left - 1, tapeLen, tapeB, tLine, tReader, nodes) _ hf) (cwV 0 hts gX4_brokenStep_X4_beginPause rfl rfl rfl (by decide +kernel) ⟨Nat.le_of_ble_eq_true rfl, Nat.le_of_ble_eq_true rfl⟩) hK hP hD (va_recv hK.1 hP (ci := 4) (q0 := 0) rfl rfl) hS hA rfl hl.1 rfl (Nat.le_of_ble_eq_true rfl) dX4_brokenStep_33 ⟨Nat.zero_le _, Nat.zero_le _⟩ (fun u3 H locs hf hP hD hS => ?_)
    have hP : va_P (dC, dI) vwCl (wrW y a gs u3) H := hP
    have hD : va_D A (wrW y a gs u3) := hD
    exact j_X4_brokenStep_36 C0 a gs K u3 k0 H locs ls hP hD hS (lv_sub hl [0] rfl) hf
set_option maxHeartbeats 4000000 in
set_option maxRecDepth 100000 in
theorem c_X4_brokenStep (l : Launch) (dC : Nat → ClassId) (dI : Nat → Nat → Nat) (y : Nat → ClassId) (a : WireA) (gs : Nat → Nat → Nat) (sz : Nat) (S : WireS) (K : Int32 → WireS → Prop) (hf : wp_X4_brokenStep S K) : MI l yX4_brokenStep wsX4_brokenStep { frames := 1, cells := 0, slots := 0, locals := 20 } dC dI y [.ref a.1] (wrW y a gs S) sz (fun u => wrW y a gs u) K := by
  refine Met.ofW (cc := cX4_brokenStep) (maxL := 2) (ret := (some .int)) (by decide) rfl ?_
  intro p e s m args below meth c s₁ B hml hv
  obtain ⟨rfl, hsz, hP, hK, hD0⟩ := hv
  have hx := B.exec
  have hb := B.bytes
  have hr := B.returns
  have hts := atoms_spec (ws := wsX4_brokenStep) B.pre
  have hown : s.vm.findClass RX4 = some m.cls := findClass_of_methodNamed B.named
  have hlocks := B.notSynchronized
  subst hsz
  have hD := hD0.self (sz := s.heap.size)
  generalize hAe : va_A (wrW y a gs S) s.heap.size = A at hD ⊢
  have hA : ∀ q : Nat, s.heap.size ≤ q → A q := fun q h => by rw [← hAe]; exact Or.inr h
  have hS : va_S A s.heap s.heap [] := va_S.rf
  have C0 : Cx p s m [.ref a.1].toArray meth c cX4_brokenStep 2 (some .int) wsX4_brokenStep RX4 A dC dI y := ⟨hx, hb, hr, hml, hown, hts, hlocks, hA, hK⟩
  have w19 := hts (.fieldLink RX4 19 "SharedWire" "stepsLeft" "I") (List.mem_of_getElem? (i := 1) rfl)
  have hinX4 : ∀ w ∈ wsX40, w ∈ wsX4_brokenStep := fun w h => List.mem_cons_of_mem _ (List.mem_append_right _ (h))
  have hl := lv_entry ([.ref a.1]) (n := 2) (Nat.le_of_ble_eq_true rfl)
  rw [lg_entry_eq]
  generalize (lg_sl ([.ref a.1]) ++ List.replicate (2 - (lg_sl ([.ref a.1])).length) Slot.unset).toArray = ls at hl ⊢
  have hl : lv_has ls 2 [(0, .ref a.1)] := hl
  obtain ⟨state, left, tapeLen, tapeB, tLine, tReader, nodes⟩ := S
  clear hAe hD0
  generalize hL0 : ([] : List Loc) = locs at hS ⊢
  unfold wp_X4_brokenStep at hf
  refine lv_aload_n hx hb dX4_brokenStep_0 rfl (lv_at hl 0 rfl) ?_
  refine va_get (D := (dC, dI)) (ci := 4) (v := .int left) (C := RX4) (T := TX4) (N := 7) hx hb hts hinX4 hown hK.1 hP 0 rfl rfl 2 (by decide) w19 (fun _ h9 => h9) rfl dX4_brokenStep_1 ?_
  refine lv_bipush (v := 8) hx hb dX4_brokenStep_4 (by decide) ?_
  refine lv_icmp_le (tgt := 13) hx hb dX4_brokenStep_6 (by decide) (fun c1 => ?_) (fun c1 => ?_)
  · replace hf := hf.1 c1
    refine lv_iconst (v := 1) hx hb dX4_brokenStep_13 (by decide) ?_
    exact j_X4_brokenStep_14 C0 a gs K (state, left, tapeLen, tapeB, tLine, tReader, nodes) 1 s.heap locs ls hP hD hS (lv_sub hl [0] rfl) hf
  · replace hf := hf.2 c1
    refine lv_iconst (v := 0) hx hb dX4_brokenStep_9 (by decide) ?_
    refine lv_goto (tgt := 14) hx hb dX4_brokenStep_10 (by decide) ?_
    exact j_X4_brokenStep_14 C0 a gs K (state, left, tapeLen, tapeB, tLine, tReader, nodes) 0 s.heap locs ls hP hD hS (lv_sub hl [0] rfl) hf

def wp_X4_pauseStep_22 (K : Int32 → WireS → Prop) : WireS → Prop := fun (state, left, tapeLen, tapeB, tLine, tReader, nodes) => K 1 (state, left, tapeLen, tapeB, tLine, tReader, nodes)
def wp_X4_pauseStep : WireS → (Int32 → WireS → Prop) → Prop := fun (state, left, tapeLen, tapeB, tLine, tReader, nodes) K => ((¬ left - 1 = 0 → wp_X4_pauseStep_22 K (state, left - 1, tapeLen, tapeB, tLine, tReader, nodes)) ∧ (left - 1 = 0 → wp_X4_pauseStep_22 K (0, left - 1, tapeLen, tapeB, tLine, tReader, nodes)))
set_option maxHeartbeats 4000000 in
set_option maxRecDepth 100000 in
theorem j_X4_pauseStep_22 {p : Program} {l : Launch} {e : Env} {s : State} {m : MethodId} {args : Array Value} {below : List Frame} {meth : Method} {c : Code} {dC : Nat → ClassId} {dI : Nat → Nat → Nat} {y : Nat → ClassId} {A : Nat → Prop} (C0 : Cx p s m args meth c cX4_pauseStep 1 (some .int) wsX4_pauseStep RX4 A dC dI y) (a : WireA) (gs : Nat → Nat → Nat) (K : Int32 → WireS → Prop) : ∀ (S : WireS) (H : Heap) (locs : List Loc) (ls : Array Slot), va_P (dC, dI) vwCl (wrW y a gs S) H → va_D A (wrW y a gs S) → va_S A s.heap H locs → lv_has ls 1 [] → wp_X4_pauseStep_22 K S → W p l e ({ frames := 0, cells := 0, slots := 0, locals := 0 } : Room) s m args below meth c H locs 0 0 (MQ below (va_Qi K (BW dC dI A (fun u => wrW y a gs u)) A) args s 0 0 A) (F0 m 22 ls []) := by
  obtain ⟨hx, hb, hr, hml, hown, hts, hlocks, hA, hK⟩ := id C0
  intro S H locs ls hP hD hS hl hf
  obtain ⟨state, left, tapeLen, tapeB, tLine, tReader, nodes⟩ := S
  unfold wp_X4_pauseStep_22 at hf
  refine lv_iconst (v := 1) hx hb dX4_pauseStep_22 (by decide) ?_
  exact W.iret (v := 1) hx hb hr (fun t ht hW => ⟨⟨1, (state, left, tapeLen, tapeB, tLine, tReader, nodes), rfl, hf, by rw [ht]; exact hP, hD⟩, hS.F ht⟩) hS.2.2 dX4_pauseStep_23
set_option maxHeartbeats 4000000 in
set_option maxRecDepth 100000 in
theorem c_X4_pauseStep (l : Launch) (dC : Nat → ClassId) (dI : Nat → Nat → Nat) (y : Nat → ClassId) (a : WireA) (gs : Nat → Nat → Nat) (sz : Nat) (S : WireS) (K : Int32 → WireS → Prop) (hf : wp_X4_pauseStep S K) : MI l yX4_pauseStep wsX4_pauseStep { frames := 0, cells := 0, slots := 0, locals := 0 } dC dI y [.ref a.1] (wrW y a gs S) sz (fun u => wrW y a gs u) K := by
  refine Met.ofW (cc := cX4_pauseStep) (maxL := 1) (ret := (some .int)) (by decide) rfl ?_
  intro p e s m args below meth c s₁ B hml hv
  obtain ⟨rfl, hsz, hP, hK, hD0⟩ := hv
  have hx := B.exec
  have hb := B.bytes
  have hr := B.returns
  have hts := atoms_spec (ws := wsX4_pauseStep) B.pre
  have hown : s.vm.findClass RX4 = some m.cls := findClass_of_methodNamed B.named
  have hlocks := B.notSynchronized
  subst hsz
  have hD := hD0.self (sz := s.heap.size)
  generalize hAe : va_A (wrW y a gs S) s.heap.size = A at hD ⊢
  have hA : ∀ q : Nat, s.heap.size ≤ q → A q := fun q h => by rw [← hAe]; exact Or.inr h
  have hS : va_S A s.heap s.heap [] := va_S.rf
  have C0 : Cx p s m [.ref a.1].toArray meth c cX4_pauseStep 1 (some .int) wsX4_pauseStep RX4 A dC dI y := ⟨hx, hb, hr, hml, hown, hts, hlocks, hA, hK⟩
  have w15 := hts (.fieldLink RX4 15 "SharedWire" "state" "I") (List.mem_of_getElem? (i := 2) rfl)
  have w19 := hts (.fieldLink RX4 19 "SharedWire" "stepsLeft" "I") (List.mem_of_getElem? (i := 1) rfl)
  have hinX4 : ∀ w ∈ wsX40, w ∈ wsX4_pauseStep := fun w h => List.mem_cons_of_mem _ (List.mem_append_right _ (h))
  have hl := lv_entry ([.ref a.1]) (n := 1) (Nat.le_of_ble_eq_true rfl)
  rw [lg_entry_eq]
  generalize (lg_sl ([.ref a.1]) ++ List.replicate (1 - (lg_sl ([.ref a.1])).length) Slot.unset).toArray = ls at hl ⊢
  have hl : lv_has ls 1 [(0, .ref a.1)] := hl
  obtain ⟨state, left, tapeLen, tapeB, tLine, tReader, nodes⟩ := S
  clear hAe hD0
  generalize hL0 : ([] : List Loc) = locs at hS ⊢
  unfold wp_X4_pauseStep at hf
  refine lv_aload_n hx hb dX4_pauseStep_0 rfl (lv_at hl 0 rfl) ?_
  refine lv_dup hx hb dX4_pauseStep_1 rfl ?_
  refine va_get (D := (dC, dI)) (ci := 4) (v := .int left) (C := RX4) (T := TX4) (N := 7) hx hb hts hinX4 hown hK.1 hP 0 rfl rfl 2 (by decide) w19 (fun _ h9 => h9) rfl dX4_pauseStep_2 ?_
  refine lv_iconst (v := 1) hx hb dX4_pauseStep_5 (by decide) ?_
  refine lv_isub hx hb dX4_pauseStep_6 ?_
  refine va_put (D := (dC, dI)) (ci := 4) (v := .int (left - 1)) (ty := .int) (C := RX4) (T := TX4) (N := 7) hx hb hts hinX4 tyX4 tyX4_ok nmX4 hown hK.1 hP hD hS 0 rfl rfl 2 (by decide) w19 (fun _ h9 => h9) rfl (by decide +kernel) rfl rfl (Nat.le_of_ble_eq_true rfl) dX4_pauseStep_7 (fun H locs hP hD hS => ?_)
  have hP : va_P (dC, dI) vwCl (wrW y a gs (state, left - 1, tapeLen, tapeB, tLine, tReader, nodes)) H := hP
  have hD : va_D A (wrW y a gs (state, left - 1, tapeLen, tapeB, tLine, tReader, nodes)) := hD
  refine lv_aload_n hx hb dX4_pauseStep_10 rfl (lv_at hl 0 rfl) ?_
  refine va_get (D := (dC, dI)) (ci := 4) (v := .int (left - 1)) (C := RX4) (T := TX4) (N := 7) hx hb hts hinX4 hown hK.1 hP 0 rfl rfl 2 (by decide) w19 (fun _ h9 => h9) rfl dX4_pauseStep_11 ?_
  refine lv_if_ne (tgt := 22) hx hb dX4_pauseStep_14 (by decide) (fun c1 => ?_) (fun c1 => ?_)
  · replace hf := hf.1 c1
    exact j_X4_pauseStep_22 C0 a gs K (state, left - 1, tapeLen, tapeB, tLine, tReader, nodes) H locs ls hP hD hS (lv_sub hl [] rfl) hf
  · replace hf := hf.2 c1
    refine lv_aload_n hx hb dX4_pauseStep_17 rfl (lv_at hl 0 rfl) ?_
    refine lv_iconst (v := 0) hx hb dX4_pauseStep_18 (by decide) ?_
    refine va_put (D := (dC, dI)) (ci := 4) (v := .int 0) (ty := .int) (C := RX4) (T := TX4) (N := 7) hx hb hts hinX4 tyX4 tyX4_ok nmX4 hown hK.1 hP hD hS 0 rfl rfl 1 (by decide) w15 (fun _ h9 => h9) rfl (by decide +kernel) rfl rfl (Nat.le_of_ble_eq_true rfl) dX4_pauseStep_19 (fun H locs hP hD hS => ?_)
    have hP : va_P (dC, dI) vwCl (wrW y a gs (0, left - 1, tapeLen, tapeB, tLine, tReader, nodes)) H := hP
    have hD : va_D A (wrW y a gs (0, left - 1, tapeLen, tapeB, tLine, tReader, nodes)) := hD
    exact j_X4_pauseStep_22 C0 a gs K (0, left - 1, tapeLen, tapeB, tLine, tReader, nodes) H locs ls hP hD hS (lv_sub hl [] rfl) hf

def wp_X4_read_9 (K : Int32 → WireS → Prop) : Nat → WireS → Int32 → Prop
  | 0, _, _ => False
  | n + 1, (state, left, tapeLen, tapeB, tLine, tReader, nodes), v1 => ((tapeLen ≤ v1 → wp_X3_isFinished tReader (fun r3 => ((r3 = 0 → K (4000 + tapeLen) (state, left, tapeLen, tapeB, tLine, tReader, nodes)) ∧ (¬ r3 = 0 → K 0 (state, left, tapeLen, tapeB, tLine, tReader, nodes))))) ∧ (¬ tapeLen ≤ v1 → wp_X3_isFinished tReader (fun r6 => ((r6 = 0 → (vp_in v1 200 ∧ wp_X3_take tReader (tapeB v1.toNatClampNeg) (fun r10 u11 => ((r10 = 0 → (∀ n13 : Int32, n13 = v1 + 1 → wp_X4_read_9 K n (state, left, tapeLen, tapeB, tLine, u11, nodes) n13)) ∧ (¬ r10 = 0 → K ((1000 * r10) + v1) (state, left, tapeLen, tapeB, tLine, u11, nodes)))))) ∧ (¬ r6 = 0 → K (5000 + v1) (state, left, tapeLen, tapeB, tLine, tReader, nodes))))))
def wp_X4_read : WireS → (Int32 → WireS → Prop) → Prop := fun (state, left, tapeLen, tapeB, tLine, tReader, nodes) K => wp_X3_begin tReader (fun u1 => wp_X4_read_9 K 1000 (state, left, tapeLen, tapeB, tLine, u1, nodes) 0)
set_option maxHeartbeats 4000000 in
set_option maxRecDepth 100000 in
theorem j_X4_read_9 {p : Program} {l : Launch} {e : Env} {s : State} {m : MethodId} {args : Array Value} {below : List Frame} {meth : Method} {c : Code} {dC : Nat → ClassId} {dI : Nat → Nat → Nat} {y : Nat → ClassId} {A : Nat → Prop} (C0 : Cx p s m args meth c cX4_read 3 (some .int) wsX4_read RX4 A dC dI y) (a : WireA) (gs : Nat → Nat → Nat) (K : Int32 → WireS → Prop) : ∀ n : Nat, ∀ (S : WireS) (v1 : Int32) (H : Heap) (locs : List Loc) (ls : Array Slot), va_P (dC, dI) vwCl (wrW y a gs S) H → va_D A (wrW y a gs S) → va_S A s.heap H locs → lv_has ls 3 [(0, .ref a.1), (1, .int v1)] → wp_X4_read_9 K n S v1 → W p l e ({ frames := 4, cells := 0, slots := 0, locals := 87 } : Room) s m args below meth c H locs 0 0 (MQ below (va_Qi K (BW dC dI A (fun u => wrW y a gs u)) A) args s 0 0 A) (F0 m 9 ls []) := by
  obtain ⟨hx, hb, hr, hml, hown, hts, hlocks, hA, hK⟩ := id C0
  have w22 := hts (Cond.fieldLink RX4 22 "SharedWire" "tapeBits" "[I") (List.mem_of_getElem? (i := 3) rfl)
  have w26 := hts (Cond.fieldLink RX4 26 "SharedWire" "tapeLength" "I") (List.mem_of_getElem? (i := 2) rfl)
  have w39 := hts (Cond.fieldLink RX4 39 "SharedWire" "tapeReader" "LSharedWire$Reader;") (List.mem_of_getElem? (i := 1) rfl)
  have hinX4 : ∀ w ∈ wsX40, w ∈ wsX4_read := fun w h => List.mem_cons_of_mem _ (List.mem_append_left _ (List.mem_append_left _ (List.mem_append_right _ (h))))
  intro n
  induction n with
  | zero =>
    intro S v1 H locs ls hP hD hS hl hf
    exact False.elim (by unfold wp_X4_read_9 at hf; exact hf)
  | succ n ih =>
    intro S v1 H locs ls hP hD hS hl hf
    obtain ⟨state, left, tapeLen, tapeB, tLine, tReader, nodes⟩ := S
    unfold wp_X4_read_9 at hf
    refine lv_iload_n hx hb dX4_read_9 rfl (lv_at hl 1 rfl) ?_
    refine lv_aload_n hx hb dX4_read_10 rfl (lv_at hl 0 rfl) ?_
    refine va_get (D := (dC, dI)) (ci := 4) (v := .int tapeLen) (C := RX4) (T := TX4) (N := 7) hx hb hts hinX4 hown hK.1 hP 0 rfl rfl 4 (by decide) w26 (fun _ h9 => h9) rfl dX4_read_11 ?_
    refine lv_icmp_ge (tgt := 65) hx hb dX4_read_14 (by decide) (fun c2 => ?_) (fun c2 => ?_)
    · replace hf := hf.1 c2
      refine lv_aload_n hx hb dX4_read_65 rfl (lv_at hl 0 rfl) ?_
      refine va_get (D := (dC, dI)) (ci := 4) (v := .ref a.2.2.2.2.1.1) (C := RX4) (T := TX4) (N := 7) hx hb hts hinX4 hown hK.1 hP 0 rfl rfl 6 (by decide) w39 (fun _ h9 => h9) rfl dX4_read_66 ?_
      refine kVi (As := []) (rest := []) (pre := (wrW y a gs (state, left, tapeLen, tapeB, tLine, tReader, nodes)).take 6) (post := (wrW y a gs (state, left, tapeLen, tapeB, tLine, tReader, nodes)).drop 8) ⟨hx, hb, hml, hown, hts⟩ (c_X3_isFinished l dC dI y a.2.2.2.2.1 H.size tReader _ hf) (cwV 0 hts gX4_read_X3_isFinished rfl rfl rfl (by decide +kernel) ⟨Nat.le_of_ble_eq_true rfl, Nat.le_of_ble_eq_true rfl⟩) hK hP hD (va_recv hK.1 hP (ci := 3) (q0 := 6) rfl rfl) hS hA rfl hl.1 rfl (Nat.le_of_ble_eq_true rfl) dX4_read_69 ⟨Nat.zero_le _, Nat.zero_le _⟩ (fun r3 u4 H locs hf hP hD hS => ?_)
      obtain ⟨hf, e9⟩ := hf
      have e9 := e9.symm
      subst e9
      have hP : va_P (dC, dI) vwCl (wrW y a gs (state, left, tapeLen, tapeB, tLine, tReader, nodes)) H := hP
      have hD : va_D A (wrW y a gs (state, left, tapeLen, tapeB, tLine, tReader, nodes)) := hD
      refine lv_if_eq (tgt := 79) hx hb dX4_read_72 (by decide) (fun c5 => ?_) (fun c5 => ?_)
      · replace hf := hf.1 c5
        refine lv_sipush (v := 4000) hx hb dX4_read_79 (by decide) ?_
        refine lv_aload_n hx hb dX4_read_82 rfl (lv_at hl 0 rfl) ?_
        refine va_get (D := (dC, dI)) (ci := 4) (v := .int tapeLen) (C := RX4) (T := TX4) (N := 7) hx hb hts hinX4 hown hK.1 hP 0 rfl rfl 4 (by decide) w26 (fun _ h9 => h9) rfl dX4_read_83 ?_
        refine lv_iadd hx hb dX4_read_86 ?_
        exact W.iret (v := 4000 + tapeLen) hx hb hr (fun t ht hW => ⟨⟨4000 + tapeLen, (state, left, tapeLen, tapeB, tLine, tReader, nodes), rfl, hf, by rw [ht]; exact hP, hD⟩, hS.F ht⟩) hS.2.2 dX4_read_87
      · replace hf := hf.2 c5
        refine lv_iconst (v := 0) hx hb dX4_read_75 (by decide) ?_
        refine lv_goto (tgt := 87) hx hb dX4_read_76 (by decide) ?_
        exact W.iret (v := 0) hx hb hr (fun t ht hW => ⟨⟨0, (state, left, tapeLen, tapeB, tLine, tReader, nodes), rfl, hf, by rw [ht]; exact hP, hD⟩, hS.F ht⟩) hS.2.2 dX4_read_87
    · replace hf := hf.2 c2
      refine lv_aload_n hx hb dX4_read_17 rfl (lv_at hl 0 rfl) ?_
      refine va_get (D := (dC, dI)) (ci := 4) (v := .ref a.2.2.2.2.1.1) (C := RX4) (T := TX4) (N := 7) hx hb hts hinX4 hown hK.1 hP 0 rfl rfl 6 (by decide) w39 (fun _ h9 => h9) rfl dX4_read_18 ?_
      refine kVi (As := []) (rest := []) (pre := (wrW y a gs (state, left, tapeLen, tapeB, tLine, tReader, nodes)).take 6) (post := (wrW y a gs (state, left, tapeLen, tapeB, tLine, tReader, nodes)).drop 8) ⟨hx, hb, hml, hown, hts⟩ (c_X3_isFinished l dC dI y a.2.2.2.2.1 H.size tReader _ hf) (cwV 0 hts gX4_read_X3_isFinished rfl rfl rfl (by decide +kernel) ⟨Nat.le_of_ble_eq_true rfl, Nat.le_of_ble_eq_true rfl⟩) hK hP hD (va_recv hK.1 hP (ci := 3) (q0 := 6) rfl rfl) hS hA rfl hl.1 rfl (Nat.le_of_ble_eq_true rfl) dX4_read_21 ⟨Nat.zero_le _, Nat.zero_le _⟩ (fun r6 u7 H locs hf hP hD hS => ?_)
      obtain ⟨hf, e9⟩ := hf
      have e9 := e9.symm
      subst e9
      have hP : va_P (dC, dI) vwCl (wrW y a gs (state, left, tapeLen, tapeB, tLine, tReader, nodes)) H := hP
      have hD : va_D A (wrW y a gs (state, left, tapeLen, tapeB, tLine, tReader, nodes)) := hD
      refine lv_if_eq (tgt := 33) hx hb dX4_read_24 (by decide) (fun c8 => ?_) (fun c8 => ?_)
      · replace hf := hf.1 c8
        refine lv_aload_n hx hb dX4_read_33 rfl (lv_at hl 0 rfl) ?_
        refine va_get (D := (dC, dI)) (ci := 4) (v := .ref a.2.2.2.2.1.1) (C := RX4) (T := TX4) (N := 7) hx hb hts hinX4 hown hK.1 hP 0 rfl rfl 6 (by decide) w39 (fun _ h9 => h9) rfl dX4_read_34 ?_
        refine lv_aload_n hx hb dX4_read_37 rfl (lv_at hl 0 rfl) ?_
        refine va_get (D := (dC, dI)) (ci := 4) (v := .ref a.2.2.1) (C := RX4) (T := TX4) (N := 7) hx hb hts hinX4 hown hK.1 hP 0 rfl rfl 3 (by decide) w22 (fun _ h9 => h9) rfl dX4_read_38 ?_
        refine lv_iload_n hx hb dX4_read_41 rfl (lv_at hl 1 rfl) ?_
        have g9 := hf.1
        replace hf := hf.2
        refine ar_ild (f := tapeB) (j := v1.toNatClampNeg) hx hb hK.1 hP 2 0 rfl rfl rfl g9 dX4_read_42 ?_
        refine kVi (As := [.int (tapeB v1.toNatClampNeg)]) (rest := []) (pre := (wrW y a gs (state, left, tapeLen, tapeB, tLine, tReader, nodes)).take 6) (post := (wrW y a gs (state, left, tapeLen, tapeB, tLine, tReader, nodes)).drop 8) ⟨hx, hb, hml, hown, hts⟩ (c_X3_take l dC dI y a.2.2.2.2.1 H.size tReader (tapeB v1.toNatClampNeg) _ hf) (cwV 1 hts gX4_read_X3_take rfl rfl rfl (by decide +kernel) ⟨Nat.le_of_ble_eq_true rfl, Nat.le_of_ble_eq_true rfl⟩) hK hP hD (va_recv hK.1 hP (ci := 3) (q0 := 6) rfl rfl) hS hA rfl hl.1 rfl (Nat.le_of_ble_eq_true rfl) dX4_read_43 ⟨Nat.zero_le _, Nat.zero_le _⟩ (fun r10 u11 H locs hf hP hD hS => ?_)
        have hP : va_P (dC, dI) vwCl (wrW y a gs (state, left, tapeLen, tapeB, tLine, u11, nodes)) H := hP
        have hD : va_D A (wrW y a gs (state, left, tapeLen, tapeB, tLine, u11, nodes)) := hD
        refine lv_istore_n (lv' := [(2, .int r10), (0, .ref a.1), (1, .int v1)]) hx hb dX4_read_46 rfl hl (by decide) rfl (fun ls hl => ?_)
        refine lv_iload_n hx hb dX4_read_47 rfl (lv_at hl 0 rfl) ?_
        refine lv_if_eq (tgt := 59) hx hb dX4_read_48 (by decide) (fun c12 => ?_) (fun c12 => ?_)
        · replace hf := hf.1 c12
          obtain ⟨n13, en13⟩ : ∃ z : Int32, z = v1 + 1 := ⟨_, rfl⟩
          replace hf := hf n13 en13
          refine lv_iinc (v := n13) (lv' := [(1, .int n13), (2, .int r10), (0, .ref a.1)]) hx hb dX4_read_59 hl (k := 2) rfl (by rw [en13]; rfl) (by decide) rfl (fun ls hl => ?_)
          refine lv_goto (tgt := 9) hx hb dX4_read_62 (by decide) ?_
          exact ih (state, left, tapeLen, tapeB, tLine, u11, nodes) n13 H locs ls hP hD hS (lv_sub hl [2, 0] rfl) hf
        · replace hf := hf.2 c12
          refine lv_sipush (v := 1000) hx hb dX4_read_51 (by decide) ?_
          refine lv_iload_n hx hb dX4_read_54 rfl (lv_at hl 0 rfl) ?_
          refine lv_imul hx hb dX4_read_55 ?_
          refine lv_iload_n hx hb dX4_read_56 rfl (lv_at hl 2 rfl) ?_
          refine lv_iadd hx hb dX4_read_57 ?_
          exact W.iret (v := (1000 * r10) + v1) hx hb hr (fun t ht hW => ⟨⟨(1000 * r10) + v1, (state, left, tapeLen, tapeB, tLine, u11, nodes), rfl, hf, by rw [ht]; exact hP, hD⟩, hS.F ht⟩) hS.2.2 dX4_read_58
      · replace hf := hf.2 c8
        refine lv_sipush (v := 5000) hx hb dX4_read_27 (by decide) ?_
        refine lv_iload_n hx hb dX4_read_30 rfl (lv_at hl 1 rfl) ?_
        refine lv_iadd hx hb dX4_read_31 ?_
        exact W.iret (v := 5000 + v1) hx hb hr (fun t ht hW => ⟨⟨5000 + v1, (state, left, tapeLen, tapeB, tLine, tReader, nodes), rfl, hf, by rw [ht]; exact hP, hD⟩, hS.F ht⟩) hS.2.2 dX4_read_32
set_option maxHeartbeats 4000000 in
set_option maxRecDepth 100000 in
theorem c_X4_read (l : Launch) (dC : Nat → ClassId) (dI : Nat → Nat → Nat) (y : Nat → ClassId) (a : WireA) (gs : Nat → Nat → Nat) (sz : Nat) (S : WireS) (K : Int32 → WireS → Prop) (hf : wp_X4_read S K) : MI l yX4_read wsX4_read { frames := 4, cells := 0, slots := 0, locals := 87 } dC dI y [.ref a.1] (wrW y a gs S) sz (fun u => wrW y a gs u) K := by
  refine Met.ofW (cc := cX4_read) (maxL := 3) (ret := (some .int)) (by decide) rfl ?_
  intro p e s m args below meth c s₁ B hml hv
  obtain ⟨rfl, hsz, hP, hK, hD0⟩ := hv
  have hx := B.exec
  have hb := B.bytes
  have hr := B.returns
  have hts := atoms_spec (ws := wsX4_read) B.pre
  have hown : s.vm.findClass RX4 = some m.cls := findClass_of_methodNamed B.named
  have hlocks := B.notSynchronized
  subst hsz
  have hD := hD0.self (sz := s.heap.size)
  generalize hAe : va_A (wrW y a gs S) s.heap.size = A at hD ⊢
  have hA : ∀ q : Nat, s.heap.size ≤ q → A q := fun q h => by rw [← hAe]; exact Or.inr h
  have hS : va_S A s.heap s.heap [] := va_S.rf
  have C0 : Cx p s m [.ref a.1].toArray meth c cX4_read 3 (some .int) wsX4_read RX4 A dC dI y := ⟨hx, hb, hr, hml, hown, hts, hlocks, hA, hK⟩
  have w39 := hts (Cond.fieldLink RX4 39 "SharedWire" "tapeReader" "LSharedWire$Reader;") (List.mem_of_getElem? (i := 1) rfl)
  have hinX4 : ∀ w ∈ wsX40, w ∈ wsX4_read := fun w h => List.mem_cons_of_mem _ (List.mem_append_left _ (List.mem_append_left _ (List.mem_append_right _ (h))))
  have hl := lv_entry ([.ref a.1]) (n := 3) (Nat.le_of_ble_eq_true rfl)
  rw [lg_entry_eq]
  generalize (lg_sl ([.ref a.1]) ++ List.replicate (3 - (lg_sl ([.ref a.1])).length) Slot.unset).toArray = ls at hl ⊢
  have hl : lv_has ls 3 [(0, .ref a.1)] := hl
  obtain ⟨state, left, tapeLen, tapeB, tLine, tReader, nodes⟩ := S
  clear hAe hD0
  generalize hL0 : ([] : List Loc) = locs at hS ⊢
  unfold wp_X4_read at hf
  refine lv_aload_n hx hb dX4_read_0 rfl (lv_at hl 0 rfl) ?_
  refine va_get (D := (dC, dI)) (ci := 4) (v := .ref a.2.2.2.2.1.1) (C := RX4) (T := TX4) (N := 7) hx hb hts hinX4 hown hK.1 hP 0 rfl rfl 6 (by decide) w39 (fun _ h9 => h9) rfl dX4_read_1 ?_
  refine kVv (As := []) (rest := []) (pre := (wrW y a gs (state, left, tapeLen, tapeB, tLine, tReader, nodes)).take 6) (post := (wrW y a gs (state, left, tapeLen, tapeB, tLine, tReader, nodes)).drop 8) ⟨hx, hb, hml, hown, hts⟩ (c_X3_begin l dC dI y a.2.2.2.2.1 s.heap.size tReader _ hf) (cwV 0 hts gX4_read_X3_begin rfl rfl rfl (by decide +kernel) ⟨Nat.le_of_ble_eq_true rfl, Nat.le_of_ble_eq_true rfl⟩) hK hP hD (va_recv hK.1 hP (ci := 3) (q0 := 6) rfl rfl) hS hA rfl hl.1 rfl (Nat.le_of_ble_eq_true rfl) dX4_read_4 ⟨Nat.zero_le _, Nat.zero_le _⟩ (fun u1 H locs hf hP hD hS => ?_)
  have hP : va_P (dC, dI) vwCl (wrW y a gs (state, left, tapeLen, tapeB, tLine, u1, nodes)) H := hP
  have hD : va_D A (wrW y a gs (state, left, tapeLen, tapeB, tLine, u1, nodes)) := hD
  refine lv_iconst (v := 0) hx hb dX4_read_7 (by decide) ?_
  refine lv_istore_n (lv' := [(1, .int 0), (0, .ref a.1)]) hx hb dX4_read_8 rfl hl (by decide) rfl (fun ls hl => ?_)
  exact j_X4_read_9 C0 a gs K 1000 (state, left, tapeLen, tapeB, tLine, u1, nodes) 0 H locs ls hP hD hS (lv_sub hl [1, 0] rfl) hf
