def wp_X5_thrown : ModelS → (Int32 → Prop) → Prop := fun (mI, mA, mL) K => K (mI 0)
set_option maxHeartbeats 4000000 in
set_option maxRecDepth 100000 in
theorem c_X5_thrown (l : Launch) (dC : Nat → ClassId) (dI : Nat → Nat → Nat) (y : Nat → ClassId) (a : Nat → Nat) (sz : Nat) (S : ModelS) (K : Int32 → Prop) (hf : wp_X5_thrown S K) : MI l yX5_thrown wsX5_thrown { frames := 0, cells := 0, slots := 0, locals := 0 } dC dI y [.ref (a 0)] (mdW y a S) sz (fun u => mdW y a u) (fun r u => K r ∧ u = S) := by
  refine Met.ofW (cc := cX5_thrown) (maxL := 1) (ret := (some .int)) (by decide) rfl ?_
  intro p e s m args below meth c s₁ B hml hv
  obtain ⟨rfl, hsz, hP, hK, hD0⟩ := hv
  have hx := B.exec
  have hb := B.bytes
  have hr := B.returns
  have hts := atoms_spec (ws := wsX5_thrown) B.pre
  have hown : s.vm.findClass RX5 = some m.cls := findClass_of_methodNamed B.named
  have hlocks := B.notSynchronized
  subst hsz
  have hD := hD0.self (sz := s.heap.size)
  generalize hAe : va_A (mdW y a S) s.heap.size = A at hD ⊢
  have hA : ∀ q : Nat, s.heap.size ≤ q → A q := fun q h => by rw [← hAe]; exact Or.inr h
  have hS : va_S A s.heap s.heap [] := va_S.rf
  have C0 : Cx p s m [.ref (a 0)].toArray meth c cX5_thrown 1 (some .int) wsX5_thrown RX5 A dC dI y := ⟨hx, hb, hr, hml, hown, hts, hlocks, hA, hK⟩
  have w99 := hts (.fieldLink RX5 99 "SharedWireModel" "thrown" "I") (List.mem_of_getElem? (i := 1) rfl)
  have hinX5 : ∀ w ∈ wsX50, w ∈ wsX5_thrown := fun w h => List.mem_cons_of_mem _ (List.mem_append_right _ (h))
  have hl := lv_entry ([.ref (a 0)]) (n := 1) (Nat.le_of_ble_eq_true rfl)
  rw [lg_entry_eq]
  generalize (lg_sl ([.ref (a 0)]) ++ List.replicate (1 - (lg_sl ([.ref (a 0)])).length) Slot.unset).toArray = ls at hl ⊢
  have hl : lv_has ls 1 [(0, .ref (a 0))] := hl
  obtain ⟨mI, mA, mL⟩ := S
  have hSS : (mI, mA, mL) = (mI, mA, mL) := rfl
  clear hAe hD0
  generalize hL0 : ([] : List Loc) = locs at hS ⊢
  unfold wp_X5_thrown at hf
  refine lv_aload_n hx hb dX5_thrown_0 rfl (lv_at hl 0 rfl) ?_
  refine va_get (D := (dC, dI)) (ci := 5) (v := .int (mI 0)) (C := RX5) (T := TX5) (N := 35) hx hb hts hinX5 hown hK.1 hP 0 rfl rfl 0 (by decide) w99 (fun _ h9 => h9) rfl dX5_thrown_1 ?_
  exact W.iret (v := mI 0) hx hb hr (fun t ht hW => ⟨⟨mI 0, (mI, mA, mL), rfl, ⟨hf, hSS⟩, by rw [ht]; exact hP, hD⟩, hS.F ht⟩) hS.2.2 dX5_thrown_4

def wp_X5_isNode_13 (K : Int32 → Prop) : Prop := K 0
def wp_X5_isNode : Int32 → (Int32 → Prop) → Prop := fun p0 K => ((p0 < 0 → wp_X5_isNode_13 K ) ∧ (¬ p0 < 0 → ((4 ≤ p0 → wp_X5_isNode_13 K ) ∧ (¬ 4 ≤ p0 → K 1))))
set_option maxHeartbeats 4000000 in
set_option maxRecDepth 100000 in
theorem j_X5_isNode_13 {p : Program} {l : Launch} {e : Env} {s : State} {m : MethodId} {args : Array Value} {below : List Frame} {meth : Method} {c : Code} {dC : Nat → ClassId} {dI : Nat → Nat → Nat} {y : Nat → ClassId} {A : Nat → Prop} (C0 : Cx p s m args meth c cX5_isNode 1 (some .boolean) wsX5_isNode RX5 A dC dI y) (K : Int32 → Prop) : ∀ (H : Heap) (locs : List Loc) (ls : Array Slot), va_P (dC, dI) vwCl ([]) H → va_D A ([]) → va_S A s.heap H locs → lv_has ls 1 [] → wp_X5_isNode_13 K  → W p l e ({ frames := 0, cells := 0, slots := 0, locals := 0 } : Room) s m args below meth c H locs 0 0 (MQ below (va_Qi (fun r (_ : Unit) => K r) (BW dC dI A (fun _ => [])) A) args s 0 0 A) (F0 m 13 ls []) := by
  obtain ⟨hx, hb, hr, hml, hown, hts, hlocks, hA, hK⟩ := id C0
  intro H locs ls hP hD hS hl hf
  unfold wp_X5_isNode_13 at hf
  refine lv_iconst (v := 0) hx hb dX5_isNode_13 (by decide) ?_
  exact W.zret (v := 0) hx hb hr rfl (fun t ht hW => ⟨⟨0, (), rfl, hf, by rw [ht]; exact hP, hD⟩, hS.F ht⟩) hS.2.2 dX5_isNode_14
set_option maxHeartbeats 4000000 in
set_option maxRecDepth 100000 in
theorem c_X5_isNode (l : Launch) (dC : Nat → ClassId) (dI : Nat → Nat → Nat) (y : Nat → ClassId) (sz : Nat) (p0 : Int32) (K : Int32 → Prop) (hf : wp_X5_isNode p0 K) : MS l yX5_isNode wsX5_isNode { frames := 0, cells := 0, slots := 0, locals := 0 } dC dI y [.int p0] sz K := by
  refine Met.ofW (cc := cX5_isNode) (maxL := 1) (ret := (some .boolean)) (by decide) rfl ?_
  intro p e s m args below meth c s₁ B hml hv
  obtain ⟨rfl, hsz, hP, hK, hD0⟩ := hv
  have hx := B.exec
  have hb := B.bytes
  have hr := B.returns
  have hts := atoms_spec (ws := wsX5_isNode) B.pre
  have hown : s.vm.findClass RX5 = some m.cls := findClass_of_methodNamed B.named
  have hlocks := B.notSynchronized
  subst hsz
  have hD := hD0.self (sz := s.heap.size)
  generalize hAe : va_A ([]) s.heap.size = A at hD ⊢
  have hA : ∀ q : Nat, s.heap.size ≤ q → A q := fun q h => by rw [← hAe]; exact Or.inr h
  have hS : va_S A s.heap s.heap [] := va_S.rf
  have C0 : Cx p s m [.int p0].toArray meth c cX5_isNode 1 (some .boolean) wsX5_isNode RX5 A dC dI y := ⟨hx, hb, hr, hml, hown, hts, hlocks, hA, hK⟩
  have hl := lv_entry ([.int p0]) (n := 1) (Nat.le_of_ble_eq_true rfl)
  rw [lg_entry_eq]
  generalize (lg_sl ([.int p0]) ++ List.replicate (1 - (lg_sl ([.int p0])).length) Slot.unset).toArray = ls at hl ⊢
  have hl : lv_has ls 1 [(0, .int p0)] := hl
  clear hAe hD0
  generalize hL0 : ([] : List Loc) = locs at hS ⊢
  unfold wp_X5_isNode at hf
  refine lv_iload_n hx hb dX5_isNode_0 rfl (lv_at hl 0 rfl) ?_
  refine lv_if_lt (tgt := 13) hx hb dX5_isNode_1 (by decide) (fun c1 => ?_) (fun c1 => ?_)
  · replace hf := hf.1 c1
    exact j_X5_isNode_13 C0 K  s.heap locs ls hP hD hS (lv_sub hl [] rfl) hf
  · replace hf := hf.2 c1
    refine lv_iload_n hx hb dX5_isNode_4 rfl (lv_at hl 0 rfl) ?_
    refine lv_iconst (v := 4) hx hb dX5_isNode_5 (by decide) ?_
    refine lv_icmp_ge (tgt := 13) hx hb dX5_isNode_6 (by decide) (fun c2 => ?_) (fun c2 => ?_)
    · replace hf := hf.1 c2
      exact j_X5_isNode_13 C0 K  s.heap locs ls hP hD hS (lv_sub hl [] rfl) hf
    · replace hf := hf.2 c2
      refine lv_iconst (v := 1) hx hb dX5_isNode_9 (by decide) ?_
      refine lv_goto (tgt := 14) hx hb dX5_isNode_10 (by decide) ?_
      exact W.zret (v := 1) hx hb hr rfl (fun t ht hW => ⟨⟨1, (), rfl, hf, by rw [ht]; exact hP, hD⟩, hS.F ht⟩) hS.2.2 dX5_isNode_14

def wp_X5_say_4 (K : ModelS → Prop) : Nat → ModelS → Int32 → Int32 → Prop
  | 0, _, _, _ => False
  | n + 1, (mI, mA, mL), v1, v3 => ((v3 < 0 → K (mI, mA, mL)) ∧ (¬ v3 < 0 → (vp_in (mI 34) 128 ∧ (∀ n4 : Int32, n4 = v3 + (-1) → wp_X5_say_4 K n (va_up mI 34 ((mI 34) + 1), va_up mA 33 (upd (mA 33) ((mI 34).toNatClampNeg) ((v1 >>> (v3 &&& 31)) &&& 1)), mL) v1 n4))))
def wp_X5_say : ModelS → Int32 → Int32 → (ModelS → Prop) → Prop := fun (mI, mA, mL) p0 p1 K => (∀ n1 : Int32, n1 = p1 - 1 → wp_X5_say_4 K 1000 (mI, mA, mL) p0 n1)
set_option maxHeartbeats 4000000 in
set_option maxRecDepth 100000 in
theorem j_X5_say_4 {p : Program} {l : Launch} {e : Env} {s : State} {m : MethodId} {args : Array Value} {below : List Frame} {meth : Method} {c : Code} {dC : Nat → ClassId} {dI : Nat → Nat → Nat} {y : Nat → ClassId} {A : Nat → Prop} (C0 : Cx p s m args meth c cX5_say 4 none wsX5_say RX5 A dC dI y) (a : Nat → Nat) (K : ModelS → Prop) : ∀ n : Nat, ∀ (S : ModelS) (v1 : Int32) (v3 : Int32) (H : Heap) (locs : List Loc) (ls : Array Slot), va_P (dC, dI) vwCl (mdW y a S) H → va_D A (mdW y a S) → va_S A s.heap H locs → lv_has ls 4 [(0, .ref (a 0)), (1, .int v1), (3, .int v3)] → wp_X5_say_4 K n S v1 v3 → W p l e ({ frames := 0, cells := 0, slots := 0, locals := 0 } : Room) s m args below meth c H locs 0 0 (MQ below (va_Qv K (BW dC dI A (fun u => mdW y a u)) A) args s 0 0 A) (F0 m 4 ls []) := by
  obtain ⟨hx, hb, hr, hml, hown, hts, hlocks, hA, hK⟩ := id C0
  have w96 := hts (.fieldLink RX5 96 "SharedWireModel" "frame" "[I") (List.mem_of_getElem? (i := 1) rfl)
  have w103 := hts (.fieldLink RX5 103 "SharedWireModel" "frameSize" "I") (List.mem_of_getElem? (i := 2) rfl)
  have hinX5 : ∀ w ∈ wsX50, w ∈ wsX5_say := fun w h => List.mem_cons_of_mem _ (List.mem_append_right _ (h))
  intro n
  induction n with
  | zero =>
    intro S v1 v3 H locs ls hP hD hS hl hf
    exact False.elim (by unfold wp_X5_say_4 at hf; exact hf)
  | succ n ih =>
    intro S v1 v3 H locs ls hP hD hS hl hf
    obtain ⟨mI, mA, mL⟩ := S
    unfold wp_X5_say_4 at hf
    refine lv_iload_n hx hb dX5_say_4 rfl (lv_at hl 2 rfl) ?_
    refine lv_if_lt (tgt := 38) hx hb dX5_say_5 (by decide) (fun c2 => ?_) (fun c2 => ?_)
    · replace hf := hf.1 c2
      exact W.vret hx hb hr (fun t ht hW => ⟨⟨(mI, mA, mL), rfl, hf, by rw [ht]; exact hP, hD⟩, hS.F ht⟩) hS.2.2 dX5_say_38
    · replace hf := hf.2 c2
      refine lv_aload_n hx hb dX5_say_8 rfl (lv_at hl 0 rfl) ?_
      refine va_get (D := (dC, dI)) (ci := 5) (v := .ref (a 33)) (C := RX5) (T := TX5) (N := 35) hx hb hts hinX5 hown hK.1 hP 0 rfl rfl 33 (by decide) w96 (fun _ h9 => h9) rfl dX5_say_9 ?_
      refine lv_aload_n hx hb dX5_say_12 rfl (lv_at hl 0 rfl) ?_
      refine va_get (D := (dC, dI)) (ci := 5) (v := .int (mI 34)) (C := RX5) (T := TX5) (N := 35) hx hb hts hinX5 hown hK.1 hP 0 rfl rfl 34 (by decide) w103 (fun _ h9 => h9) rfl dX5_say_13 ?_
      refine lv_iload_n hx hb dX5_say_16 rfl (lv_at hl 1 rfl) ?_
      refine lv_iload_n hx hb dX5_say_17 rfl (lv_at hl 2 rfl) ?_
      refine lv_ishr hx hb dX5_say_18 ?_
      refine lv_iconst (v := 1) hx hb dX5_say_19 (by decide) ?_
      refine lv_iand hx hb dX5_say_20 ?_
      have g3 := hf.1
      replace hf := hf.2
      refine mst_33 (f := (mA 33)) (x := (v1 >>> (v3 &&& 31)) &&& 1) (j := (mI 34).toNatClampNeg) hx hb hK.1 hP hD hS rfl rfl g3 dX5_say_21 (fun H locs hP hD hS => ?_)
      refine lv_aload_n hx hb dX5_say_22 rfl (lv_at hl 0 rfl) ?_
      refine lv_dup hx hb dX5_say_23 rfl ?_
      refine va_get (D := (dC, dI)) (ci := 5) (v := .int (mI 34)) (C := RX5) (T := TX5) (N := 35) hx hb hts hinX5 hown hK.1 hP 0 rfl rfl 34 (by decide) w103 (fun _ h9 => h9) rfl dX5_say_24 ?_
      refine lv_iconst (v := 1) hx hb dX5_say_27 (by decide) ?_
      refine lv_iadd hx hb dX5_say_28 ?_
      refine mput_34 (v := (mI 34) + 1) hx hb hts hinX5 hown hK.1 hP hD hS w103 dX5_say_29 (fun H locs hP hD hS => ?_)
      obtain ⟨n4, en4⟩ : ∃ z : Int32, z = v3 + (-1) := ⟨_, rfl⟩
      replace hf := hf n4 en4
      refine lv_iinc (v := n4) (lv' := [(3, .int n4), (0, .ref (a 0)), (1, .int v1)]) hx hb dX5_say_32 hl (k := 2) rfl (by rw [en4]; rfl) (by decide) rfl (fun ls hl => ?_)
      refine lv_goto (tgt := 4) hx hb dX5_say_35 (by decide) ?_
      exact ih (va_up mI 34 ((mI 34) + 1), va_up mA 33 (upd (mA 33) ((mI 34).toNatClampNeg) ((v1 >>> (v3 &&& 31)) &&& 1)), mL) v1 n4 H locs ls hP hD hS (lv_sub hl [1, 2, 0] rfl) hf
set_option maxHeartbeats 4000000 in
set_option maxRecDepth 100000 in
theorem c_X5_say (l : Launch) (dC : Nat → ClassId) (dI : Nat → Nat → Nat) (y : Nat → ClassId) (a : Nat → Nat) (sz : Nat) (S : ModelS) (p0 : Int32) (p1 : Int32) (K : ModelS → Prop) (hf : wp_X5_say S p0 p1 K) : MV l yX5_say wsX5_say { frames := 0, cells := 0, slots := 0, locals := 0 } dC dI y [.ref (a 0), .int p0, .int p1] (mdW y a S) sz (fun u => mdW y a u) K := by
  refine Met.ofW (cc := cX5_say) (maxL := 4) (ret := none) (by decide) rfl ?_
  intro p e s m args below meth c s₁ B hml hv
  obtain ⟨rfl, hsz, hP, hK, hD0⟩ := hv
  have hx := B.exec
  have hb := B.bytes
  have hr := B.returns
  have hts := atoms_spec (ws := wsX5_say) B.pre
  have hown : s.vm.findClass RX5 = some m.cls := findClass_of_methodNamed B.named
  have hlocks := B.notSynchronized
  subst hsz
  have hD := hD0.self (sz := s.heap.size)
  generalize hAe : va_A (mdW y a S) s.heap.size = A at hD ⊢
  have hA : ∀ q : Nat, s.heap.size ≤ q → A q := fun q h => by rw [← hAe]; exact Or.inr h
  have hS : va_S A s.heap s.heap [] := va_S.rf
  have C0 : Cx p s m [.ref (a 0), .int p0, .int p1].toArray meth c cX5_say 4 none wsX5_say RX5 A dC dI y := ⟨hx, hb, hr, hml, hown, hts, hlocks, hA, hK⟩
  have hl := lv_entry ([.ref (a 0), .int p0, .int p1]) (n := 4) (Nat.le_of_ble_eq_true rfl)
  rw [lg_entry_eq]
  generalize (lg_sl ([.ref (a 0), .int p0, .int p1]) ++ List.replicate (4 - (lg_sl ([.ref (a 0), .int p0, .int p1])).length) Slot.unset).toArray = ls at hl ⊢
  have hl : lv_has ls 4 [(0, .ref (a 0)), (1, .int p0), (2, .int p1)] := hl
  obtain ⟨mI, mA, mL⟩ := S
  clear hAe hD0
  generalize hL0 : ([] : List Loc) = locs at hS ⊢
  unfold wp_X5_say at hf
  refine lv_iload_n hx hb dX5_say_0 rfl (lv_at hl 2 rfl) ?_
  refine lv_iconst (v := 1) hx hb dX5_say_1 (by decide) ?_
  refine lv_isub hx hb dX5_say_2 ?_
  refine lv_topi (fun n1 en1 => ?_)
  replace hf := hf n1 en1
  refine lv_istore_n (lv' := [(3, .int n1), (0, .ref (a 0)), (1, .int p0), (2, .int p1)]) hx hb dX5_say_3 rfl hl (by decide) rfl (fun ls hl => ?_)
  exact j_X5_say_4 C0 a K 1000 (mI, mA, mL) p0 n1 s.heap locs ls hP hD hS (lv_sub hl [1, 2, 0] rfl) hf

def wp_X5_nextCheck : Int32 → Int32 → (Int32 → Prop) → Prop := fun p0 p1 K => (∀ n1 : Int32, n1 = p1 ^^^ (p0 >>> (14 &&& 31)) → (∀ n2 : Int32, n2 = (p0 <<< (1 &&& 31)) &&& 32767 → ((¬ n1 = 1 → K n2) ∧ (n1 = 1 → K (n2 ^^^ 17817)))))
set_option maxHeartbeats 4000000 in
set_option maxRecDepth 100000 in
theorem c_X5_nextCheck (l : Launch) (dC : Nat → ClassId) (dI : Nat → Nat → Nat) (y : Nat → ClassId) (sz : Nat) (p0 : Int32) (p1 : Int32) (K : Int32 → Prop) (hf : wp_X5_nextCheck p0 p1 K) : MS l yX5_nextCheck wsX5_nextCheck { frames := 0, cells := 0, slots := 0, locals := 0 } dC dI y [.int p0, .int p1] sz K := by
  refine Met.ofW (cc := cX5_nextCheck) (maxL := 4) (ret := (some .int)) (by decide) rfl ?_
  intro p e s m args below meth c s₁ B hml hv
  obtain ⟨rfl, hsz, hP, hK, hD0⟩ := hv
  have hx := B.exec
  have hb := B.bytes
  have hr := B.returns
  have hts := atoms_spec (ws := wsX5_nextCheck) B.pre
  have hown : s.vm.findClass RX5 = some m.cls := findClass_of_methodNamed B.named
  have hlocks := B.notSynchronized
  subst hsz
  have hD := hD0.self (sz := s.heap.size)
  generalize hAe : va_A ([]) s.heap.size = A at hD ⊢
  have hA : ∀ q : Nat, s.heap.size ≤ q → A q := fun q h => by rw [← hAe]; exact Or.inr h
  have hS : va_S A s.heap s.heap [] := va_S.rf
  have C0 : Cx p s m [.int p0, .int p1].toArray meth c cX5_nextCheck 4 (some .int) wsX5_nextCheck RX5 A dC dI y := ⟨hx, hb, hr, hml, hown, hts, hlocks, hA, hK⟩
  have hl := lv_entry ([.int p0, .int p1]) (n := 4) (Nat.le_of_ble_eq_true rfl)
  rw [lg_entry_eq]
  generalize (lg_sl ([.int p0, .int p1]) ++ List.replicate (4 - (lg_sl ([.int p0, .int p1])).length) Slot.unset).toArray = ls at hl ⊢
  have hl : lv_has ls 4 [(0, .int p0), (1, .int p1)] := hl
  clear hAe hD0
  generalize hL0 : ([] : List Loc) = locs at hS ⊢
  unfold wp_X5_nextCheck at hf
  refine lv_iload_n hx hb dX5_nextCheck_0 rfl (lv_at hl 1 rfl) ?_
  refine lv_iload_n hx hb dX5_nextCheck_1 rfl (lv_at hl 0 rfl) ?_
  refine lv_bipush (v := 14) hx hb dX5_nextCheck_2 (by decide) ?_
  refine lv_ishr hx hb dX5_nextCheck_4 ?_
  refine lv_ixor hx hb dX5_nextCheck_5 ?_
  refine lv_topi (fun n1 en1 => ?_)
  replace hf := hf n1 en1
  refine lv_istore_n (lv' := [(2, .int n1), (0, .int p0), (1, .int p1)]) hx hb dX5_nextCheck_6 rfl hl (by decide) rfl (fun ls hl => ?_)
  refine lv_iload_n hx hb dX5_nextCheck_7 rfl (lv_at hl 1 rfl) ?_
  refine lv_iconst (v := 1) hx hb dX5_nextCheck_8 (by decide) ?_
  refine lv_ishl hx hb dX5_nextCheck_9 ?_
  refine lv_sipush (v := 32767) hx hb dX5_nextCheck_10 (by decide) ?_
  refine lv_iand hx hb dX5_nextCheck_13 ?_
  refine lv_topi (fun n2 en2 => ?_)
  replace hf := hf n2 en2
  refine lv_istore_n (lv' := [(3, .int n2), (2, .int n1), (0, .int p0), (1, .int p1)]) hx hb dX5_nextCheck_14 rfl hl (by decide) rfl (fun ls hl => ?_)
  refine lv_iload_n hx hb dX5_nextCheck_15 rfl (lv_at hl 1 rfl) ?_
  refine lv_iconst (v := 1) hx hb dX5_nextCheck_16 (by decide) ?_
  refine lv_icmp_ne (tgt := 28) hx hb dX5_nextCheck_17 (by decide) (fun c3 => ?_) (fun c3 => ?_)
  · replace hf := hf.1 c3
    refine lv_iload_n hx hb dX5_nextCheck_28 rfl (lv_at hl 0 rfl) ?_
    exact W.iret (v := n2) hx hb hr (fun t ht hW => ⟨⟨n2, (), rfl, hf, by rw [ht]; exact hP, hD⟩, hS.F ht⟩) hS.2.2 dX5_nextCheck_29
  · replace hf := hf.2 c3
    refine lv_iload_n hx hb dX5_nextCheck_20 rfl (lv_at hl 0 rfl) ?_
    refine lv_sipush (v := 17817) hx hb dX5_nextCheck_21 (by decide) ?_
    refine lv_ixor hx hb dX5_nextCheck_24 ?_
    refine lv_goto (tgt := 29) hx hb dX5_nextCheck_25 (by decide) ?_
    exact W.iret (v := n2 ^^^ 17817) hx hb hr (fun t ht hW => ⟨⟨n2 ^^^ 17817, (), rfl, hf, by rw [ht]; exact hP, hD⟩, hS.F ht⟩) hS.2.2 dX5_nextCheck_29

def wp_X5_lay : ModelS → Int32 → Int32 → Int32 → Int32 → (Int32 → ModelS → Prop) → Prop := fun (mI, mA, mL) p0 p1 p2 p3 K => (vp_in ((200 * p0) + p1) 1000 ∧ (vp_in ((200 * p0) + p1) 1000 ∧ K (p1 + 1) (mI, va_up (va_up mA 18 (upd (mA 18) (((200 * p0) + p1).toNatClampNeg) p2)) 19 (upd (mA 19) (((200 * p0) + p1).toNatClampNeg) p3), mL)))
set_option maxHeartbeats 4000000 in
set_option maxRecDepth 100000 in
theorem c_X5_lay (l : Launch) (dC : Nat → ClassId) (dI : Nat → Nat → Nat) (y : Nat → ClassId) (a : Nat → Nat) (sz : Nat) (S : ModelS) (p0 : Int32) (p1 : Int32) (p2 : Int32) (p3 : Int32) (K : Int32 → ModelS → Prop) (hf : wp_X5_lay S p0 p1 p2 p3 K) : MI l yX5_lay wsX5_lay { frames := 0, cells := 0, slots := 0, locals := 0 } dC dI y [.ref (a 0), .int p0, .int p1, .int p2, .int p3] (mdW y a S) sz (fun u => mdW y a u) K := by
  refine Met.ofW (cc := cX5_lay) (maxL := 5) (ret := (some .int)) (by decide) rfl ?_
  intro p e s m args below meth c s₁ B hml hv
  obtain ⟨rfl, hsz, hP, hK, hD0⟩ := hv
  have hx := B.exec
  have hb := B.bytes
  have hr := B.returns
  have hts := atoms_spec (ws := wsX5_lay) B.pre
  have hown : s.vm.findClass RX5 = some m.cls := findClass_of_methodNamed B.named
  have hlocks := B.notSynchronized
  subst hsz
  have hD := hD0.self (sz := s.heap.size)
  generalize hAe : va_A (mdW y a S) s.heap.size = A at hD ⊢
  have hA : ∀ q : Nat, s.heap.size ≤ q → A q := fun q h => by rw [← hAe]; exact Or.inr h
  have hS : va_S A s.heap s.heap [] := va_S.rf
  have C0 : Cx p s m [.ref (a 0), .int p0, .int p1, .int p2, .int p3].toArray meth c cX5_lay 5 (some .int) wsX5_lay RX5 A dC dI y := ⟨hx, hb, hr, hml, hown, hts, hlocks, hA, hK⟩
  have w57 := hts (.fieldLink RX5 57 "SharedWireModel" "wireBits" "[I") (List.mem_of_getElem? (i := 1) rfl)
  have w60 := hts (.fieldLink RX5 60 "SharedWireModel" "places" "[I") (List.mem_of_getElem? (i := 2) rfl)
  have hinX5 : ∀ w ∈ wsX50, w ∈ wsX5_lay := fun w h => List.mem_cons_of_mem _ (List.mem_append_right _ (h))
  have hl := lv_entry ([.ref (a 0), .int p0, .int p1, .int p2, .int p3]) (n := 5) (Nat.le_of_ble_eq_true rfl)
  rw [lg_entry_eq]
  generalize (lg_sl ([.ref (a 0), .int p0, .int p1, .int p2, .int p3]) ++ List.replicate (5 - (lg_sl ([.ref (a 0), .int p0, .int p1, .int p2, .int p3])).length) Slot.unset).toArray = ls at hl ⊢
  have hl : lv_has ls 5 [(0, .ref (a 0)), (1, .int p0), (2, .int p1), (3, .int p2), (4, .int p3)] := hl
  obtain ⟨mI, mA, mL⟩ := S
  clear hAe hD0
  generalize hL0 : ([] : List Loc) = locs at hS ⊢
  unfold wp_X5_lay at hf
  refine lv_aload_n hx hb dX5_lay_0 rfl (lv_at hl 0 rfl) ?_
  refine va_get (D := (dC, dI)) (ci := 5) (v := .ref (a 18)) (C := RX5) (T := TX5) (N := 35) hx hb hts hinX5 hown hK.1 hP 0 rfl rfl 18 (by decide) w57 (fun _ h9 => h9) rfl dX5_lay_1 ?_
  refine lv_sipush (v := 200) hx hb dX5_lay_4 (by decide) ?_
  refine lv_iload_n hx hb dX5_lay_7 rfl (lv_at hl 1 rfl) ?_
  refine lv_imul hx hb dX5_lay_8 ?_
  refine lv_iload_n hx hb dX5_lay_9 rfl (lv_at hl 2 rfl) ?_
  refine lv_iadd hx hb dX5_lay_10 ?_
  refine lv_iload_n hx hb dX5_lay_11 rfl (lv_at hl 3 rfl) ?_
  have g1 := hf.1
  replace hf := hf.2
  refine mst_18 (f := (mA 18)) (x := p2) (j := ((200 * p0) + p1).toNatClampNeg) hx hb hK.1 hP hD hS rfl rfl g1 dX5_lay_12 (fun H locs hP hD hS => ?_)
  refine lv_aload_n hx hb dX5_lay_13 rfl (lv_at hl 0 rfl) ?_
  refine va_get (D := (dC, dI)) (ci := 5) (v := .ref (a 19)) (C := RX5) (T := TX5) (N := 35) hx hb hts hinX5 hown hK.1 hP 0 rfl rfl 19 (by decide) w60 (fun _ h9 => h9) rfl dX5_lay_14 ?_
  refine lv_sipush (v := 200) hx hb dX5_lay_17 (by decide) ?_
  refine lv_iload_n hx hb dX5_lay_20 rfl (lv_at hl 1 rfl) ?_
  refine lv_imul hx hb dX5_lay_21 ?_
  refine lv_iload_n hx hb dX5_lay_22 rfl (lv_at hl 2 rfl) ?_
  refine lv_iadd hx hb dX5_lay_23 ?_
  refine lv_iload hx hb dX5_lay_24 (lv_at hl 4 rfl) ?_
  have g2 := hf.1
  replace hf := hf.2
  refine mst_19 (f := (mA 19)) (x := p3) (j := ((200 * p0) + p1).toNatClampNeg) hx hb hK.1 hP hD hS rfl rfl g2 dX5_lay_26 (fun H locs hP hD hS => ?_)
  refine lv_iload_n hx hb dX5_lay_27 rfl (lv_at hl 2 rfl) ?_
  refine lv_iconst (v := 1) hx hb dX5_lay_28 (by decide) ?_
  refine lv_iadd hx hb dX5_lay_29 ?_
  exact W.iret (v := p1 + 1) hx hb hr (fun t ht hW => ⟨⟨p1 + 1, (mI, va_up (va_up mA 18 (upd (mA 18) (((200 * p0) + p1).toNatClampNeg) p2)) 19 (upd (mA 19) (((200 * p0) + p1).toNatClampNeg) p3), mL), rfl, hf, by rw [ht]; exact hP, hD⟩, hS.F ht⟩) hS.2.2 dX5_lay_30

def wp_X5_make_307 (K : ModelS → Prop) : Nat → ModelS → Int32 → Int32 → Int32 → Prop
  | 0, _, _, _, _ => False
  | n + 1, (mI, mA, mL), v2, v4, v7 => ((8 ≤ v7 → (vp_in v2 5 ∧ K (mI, va_up mA 20 (upd (mA 20) v2.toNatClampNeg v4), mL))) ∧ (¬ 8 ≤ v7 → wp_X5_lay (mI, mA, mL) v2 v4 1 200 (fun r20 u21 => (∀ n22 : Int32, n22 = v7 + 1 → wp_X5_make_307 K n (u21.1, u21.2.1, u21.2.2) v2 r20 n22))))
def wp_X5_make_272 (K : ModelS → Prop) (C : ModelS → Int32 → Int32 → Int32 → Int32 → Int32 → Prop) : ModelS → Int32 → Int32 → Int32 → Int32 → Int32 → Prop := fun (mI, mA, mL) v2 v4 v5 v6 v7 => (∀ n31 : Int32, n31 = v7 + 1 → C (mI, mA, mL) v2 v4 v5 v6 n31)
def wp_X5_make_223 (K : ModelS → Prop) (C : ModelS → Int32 → Int32 → Int32 → Int32 → Int32 → Prop) : ModelS → Int32 → Int32 → Int32 → Int32 → Prop := fun (mI, mA, mL) v2 v4 v7 k0 => (vp_in v7 128 ∧ (∀ n29 : Int32, n29 = (mA 33) v7.toNatClampNeg → ((¬ k0 = 5 → wp_X5_make_272 K C (mI, mA, mL) v2 v4 k0 n29 v7) ∧ (k0 = 5 → (((mI 34) - 1 ≤ v7 → wp_X5_make_272 K C (mI, mA, mL) v2 v4 k0 n29 v7) ∧ (¬ (mI 34) - 1 ≤ v7 → (∀ n33 : Int32, n33 = 1 - n29 → wp_X5_lay (mI, mA, mL) v2 v4 n33 (-1) (fun r34 u35 => wp_X5_make_272 K C (u35.1, u35.2.1, u35.2.2) v2 r34 1 n33 v7))))))))
def wp_X5_make_176 (K : ModelS → Prop) : Nat → ModelS → Int32 → Int32 → Int32 → Int32 → Int32 → Prop
  | 0, _, _, _, _, _, _ => False
  | n + 1, (mI, mA, mL), v2, v4, v5, v6, v7 => ((mI 34 ≤ v7 → wp_X5_lay (mI, mA, mL) v2 v4 1 200 (fun r14 u15 => wp_X5_lay (u15.1, u15.2.1, u15.2.2) v2 r14 1 201 (fun r16 u17 => wp_X5_make_307 K 1000 (u17.1, u17.2.1, u17.2.2) v2 r16 0))) ∧ (¬ mI 34 ≤ v7 → (vp_in v7 128 ∧ wp_X5_lay (mI, mA, mL) v2 v4 ((mA 33) v7.toNatClampNeg) v7 (fun r24 u25 => (vp_in v7 128 ∧ ((¬ (u25.2.1 33) v7.toNatClampNeg = v6 → wp_X5_make_223 K (wp_X5_make_176 K n) (u25.1, u25.2.1, u25.2.2) v2 r24 v7 1) ∧ ((u25.2.1 33) v7.toNatClampNeg = v6 → wp_X5_make_223 K (wp_X5_make_176 K n) (u25.1, u25.2.1, u25.2.2) v2 r24 v7 (v5 + 1))))))))
def wp_X5_make_130 (K : ModelS → Prop) : Nat → ModelS → Int32 → Int32 → Int32 → Prop
  | 0, _, _, _, _ => False
  | n + 1, (mI, mA, mL), v2, v3, v4 => ((mI 34 ≤ v4 → wp_X5_say (mI, mA, mL) v3 15 (fun u12 => wp_X5_make_176 K 1000 (u12.1, u12.2.1, u12.2.2) v2 0 0 2 0)) ∧ (¬ mI 34 ≤ v4 → (vp_in v4 128 ∧ wp_X5_nextCheck v3 ((mA 33) v4.toNatClampNeg) (fun r37 => (∀ n38 : Int32, n38 = v4 + 1 → wp_X5_make_130 K n (mI, mA, mL) v2 r37 n38)))))
def wp_X5_make_87 (K : ModelS → Prop) : Nat → ModelS → Int32 → Int32 → Int32 → Prop
  | 0, _, _, _, _ => False
  | n + 1, (mI, mA, mL), v1, v2, v3 => (vp_in v1 16 ∧ (((mA 13) v1.toNatClampNeg ≤ v3 → wp_X5_make_130 K 1000 (mI, mA, mL) v2 0 0) ∧ (¬ (mA 13) v1.toNatClampNeg ≤ v3 → (vp_in v1 16 ∧ wp_X5_say (mI, mA, mL) (((((mL 12) v1.toNatClampNeg) >>> ((8 * v3).toInt64 &&& 63)) &&& 255).toInt32) 8 (fun u40 => (∀ n41 : Int32, n41 = v3 + 1 → wp_X5_make_87 K n (u40.1, u40.2.1, u40.2.2) v1 v2 n41))))))
def wp_X5_make_68 (K : ModelS → Prop) : ModelS → Int32 → Int32 → Prop := fun (mI, mA, mL) v1 v2 => wp_X5_say (mI, mA, mL) 0 3 (fun u6 => (vp_in v1 16 ∧ wp_X5_say (u6.1, u6.2.1, u6.2.2) ((u6.2.1 13) v1.toNatClampNeg) 4 (fun u8 => wp_X5_make_87 K 1000 (u8.1, u8.2.1, u8.2.2) v1 v2 0)))
def wp_X5_make_41 (K : ModelS → Prop) : ModelS → Int32 → Int32 → Prop := fun (mI, mA, mL) v1 v2 => (vp_in v1 16 ∧ wp_X5_say (mI, mA, mL) ((mA 11) v1.toNatClampNeg) 18 (fun u46 => wp_X5_make_68 K (u46.1, u46.2.1, u46.2.2) v1 v2))
def wp_X5_make : ModelS → Int32 → Int32 → (ModelS → Prop) → Prop := fun (mI, mA, mL) p0 p1 K => wp_X5_say (va_up mI 34 0, mA, mL) 0 1 (fun u1 => (vp_in p0 16 ∧ (((u1.2.1 10) p0.toNatClampNeg = 0 → (vp_in p0 16 ∧ wp_X5_say (u1.1, u1.2.1, u1.2.2) ((u1.2.1 11) p0.toNatClampNeg) 11 (fun u5 => wp_X5_make_68 K (u5.1, u5.2.1, u5.2.2) p0 p1))) ∧ (¬ (u1.2.1 10) p0.toNatClampNeg = 0 → (vp_in p0 16 ∧ wp_X5_say (u1.1, u1.2.1, u1.2.2) (((u1.2.1 11) p0.toNatClampNeg) >>> (18 &&& 31)) 11 (fun u43 => wp_X5_say (u43.1, u43.2.1, u43.2.2) 3 2 (fun u44 => wp_X5_make_41 K (u44.1, u44.2.1, u44.2.2) p0 p1)))))))
set_option maxHeartbeats 4000000 in
set_option maxRecDepth 100000 in
theorem j_X5_make_307 {p : Program} {l : Launch} {e : Env} {s : State} {m : MethodId} {args : Array Value} {below : List Frame} {meth : Method} {c : Code} {dC : Nat → ClassId} {dI : Nat → Nat → Nat} {y : Nat → ClassId} {A : Nat → Prop} (C0 : Cx p s m args meth c cX5_make 8 none wsX5_make RX5 A dC dI y) (a : Nat → Nat) (K : ModelS → Prop) : ∀ n : Nat, ∀ (S : ModelS) (v2 : Int32) (v4 : Int32) (v7 : Int32) (H : Heap) (locs : List Loc) (ls : Array Slot), va_P (dC, dI) vwCl (mdW y a S) H → va_D A (mdW y a S) → va_S A s.heap H locs → lv_has ls 8 [(0, .ref (a 0)), (2, .int v2), (4, .int v4), (7, .int v7)] → wp_X5_make_307 K n S v2 v4 v7 → W p l e ({ frames := 1, cells := 0, slots := 0, locals := 24 } : Room) s m args below meth c H locs 0 0 (MQ below (va_Qv K (BW dC dI A (fun u => mdW y a u)) A) args s 0 0 A) (F0 m 307 ls []) := by
  obtain ⟨hx, hb, hr, hml, hown, hts, hlocks, hA, hK⟩ := id C0
  have w63 := hts (.fieldLink RX5 63 "SharedWireModel" "wireSize" "[I") (List.mem_of_getElem? (i := 8) rfl)
  have hinX5 : ∀ w ∈ wsX50, w ∈ wsX5_make := fun w h => List.mem_cons_of_mem _ (List.mem_append_right _ (h))
  intro n
  induction n with
  | zero =>
    intro S v2 v4 v7 H locs ls hP hD hS hl hf
    exact False.elim (by unfold wp_X5_make_307 at hf; exact hf)
  | succ n ih =>
    intro S v2 v4 v7 H locs ls hP hD hS hl hf
    obtain ⟨mI, mA, mL⟩ := S
    unfold wp_X5_make_307 at hf
    refine lv_iload hx hb dX5_make_307 (lv_at hl 3 rfl) ?_
    refine lv_bipush (v := 8) hx hb dX5_make_309 (by decide) ?_
    refine lv_icmp_ge (tgt := 333) hx hb dX5_make_311 (by decide) (fun c18 => ?_) (fun c18 => ?_)
    · replace hf := hf.1 c18
      refine lv_aload_n hx hb dX5_make_333 rfl (lv_at hl 0 rfl) ?_
      refine va_get (D := (dC, dI)) (ci := 5) (v := .ref (a 20)) (C := RX5) (T := TX5) (N := 35) hx hb hts hinX5 hown hK.1 hP 0 rfl rfl 20 (by decide) w63 (fun _ h9 => h9) rfl dX5_make_334 ?_
      refine lv_iload_n hx hb dX5_make_337 rfl (lv_at hl 1 rfl) ?_
      refine lv_iload hx hb dX5_make_338 (lv_at hl 2 rfl) ?_
      have g19 := hf.1
      replace hf := hf.2
      refine mst_20 (f := (mA 20)) (x := v4) (j := v2.toNatClampNeg) hx hb hK.1 hP hD hS rfl rfl g19 dX5_make_340 (fun H locs hP hD hS => ?_)
      exact W.vret hx hb hr (fun t ht hW => ⟨⟨(mI, va_up mA 20 (upd (mA 20) v2.toNatClampNeg v4), mL), rfl, hf, by rw [ht]; exact hP, hD⟩, hS.F ht⟩) hS.2.2 dX5_make_341
    · replace hf := hf.2 c18
      refine lv_aload_n hx hb dX5_make_314 rfl (lv_at hl 0 rfl) ?_
      refine lv_iload_n hx hb dX5_make_315 rfl (lv_at hl 1 rfl) ?_
      refine lv_iload hx hb dX5_make_316 (lv_at hl 2 rfl) ?_
      refine lv_iconst (v := 1) hx hb dX5_make_318 (by decide) ?_
      refine lv_sipush (v := 200) hx hb dX5_make_319 (by decide) ?_
      refine k0i (As := [.int v2, .int v4, .int 1, .int 200]) (rest := []) ⟨hx, hb, hml, hown, hts⟩ (c_X5_lay l dC dI y a H.size (mI, mA, mL) v2 v4 1 200 _ hf) (cwV 4 hts gX5_make_X5_lay rfl rfl rfl (by decide +kernel) ⟨Nat.le_of_ble_eq_true rfl, Nat.le_of_ble_eq_true rfl⟩) hK hP hD (va_recv hK.1 hP (ci := 5) (q0 := 0) rfl rfl) hS hA rfl hl.1 rfl (Nat.le_of_ble_eq_true rfl) dX5_make_322 ⟨Nat.zero_le _, Nat.zero_le _⟩ (fun r20 u21 H locs hf hP hD hS => ?_)
      have hP : va_P (dC, dI) vwCl (mdW y a (u21.1, u21.2.1, u21.2.2)) H := hP
      have hD : va_D A (mdW y a (u21.1, u21.2.1, u21.2.2)) := hD
      refine lv_istore (lv' := [(4, .int r20), (0, .ref (a 0)), (2, .int v2), (7, .int v7)]) hx hb dX5_make_325 hl (by decide) rfl (fun ls hl => ?_)
      obtain ⟨n22, en22⟩ : ∃ z : Int32, z = v7 + 1 := ⟨_, rfl⟩
      replace hf := hf n22 en22
      refine lv_iinc (v := n22) (lv' := [(7, .int n22), (4, .int r20), (0, .ref (a 0)), (2, .int v2)]) hx hb dX5_make_327 hl (k := 3) rfl (by rw [en22]; rfl) (by decide) rfl (fun ls hl => ?_)
      refine lv_goto (tgt := 307) hx hb dX5_make_330 (by decide) ?_
      exact ih (u21.1, u21.2.1, u21.2.2) v2 r20 n22 H locs ls hP hD hS (lv_sub hl [2, 3, 1, 0] rfl) hf
set_option maxHeartbeats 4000000 in
set_option maxRecDepth 100000 in
theorem j_X5_make_272 {p : Program} {l : Launch} {e : Env} {s : State} {m : MethodId} {args : Array Value} {below : List Frame} {meth : Method} {c : Code} {dC : Nat → ClassId} {dI : Nat → Nat → Nat} {y : Nat → ClassId} {A : Nat → Prop} (C0 : Cx p s m args meth c cX5_make 8 none wsX5_make RX5 A dC dI y) (a : Nat → Nat) (K : ModelS → Prop) (C : ModelS → Int32 → Int32 → Int32 → Int32 → Int32 → Prop) (hC : ∀ (S : ModelS) (v2 : Int32) (v4 : Int32) (v5 : Int32) (v6 : Int32) (v7 : Int32) (H : Heap) (locs : List Loc) (ls : Array Slot), va_P (dC, dI) vwCl (mdW y a S) H → va_D A (mdW y a S) → va_S A s.heap H locs → lv_has ls 8 [(0, .ref (a 0)), (2, .int v2), (4, .int v4), (5, .int v5), (6, .int v6), (7, .int v7)] → C S v2 v4 v5 v6 v7 → W p l e ({ frames := 1, cells := 0, slots := 0, locals := 24 } : Room) s m args below meth c H locs 0 0 (MQ below (va_Qv K (BW dC dI A (fun u => mdW y a u)) A) args s 0 0 A) (F0 m 176 ls [])) : ∀ (S : ModelS) (v2 : Int32) (v4 : Int32) (v5 : Int32) (v6 : Int32) (v7 : Int32) (H : Heap) (locs : List Loc) (ls : Array Slot), va_P (dC, dI) vwCl (mdW y a S) H → va_D A (mdW y a S) → va_S A s.heap H locs → lv_has ls 8 [(0, .ref (a 0)), (2, .int v2), (4, .int v4), (5, .int v5), (6, .int v6), (7, .int v7)] → wp_X5_make_272 K C S v2 v4 v5 v6 v7 → W p l e ({ frames := 1, cells := 0, slots := 0, locals := 24 } : Room) s m args below meth c H locs 0 0 (MQ below (va_Qv K (BW dC dI A (fun u => mdW y a u)) A) args s 0 0 A) (F0 m 272 ls []) := by
  obtain ⟨hx, hb, hr, hml, hown, hts, hlocks, hA, hK⟩ := id C0
  intro S v2 v4 v5 v6 v7 H locs ls hP hD hS hl hf
  obtain ⟨mI, mA, mL⟩ := S
  unfold wp_X5_make_272 at hf
  obtain ⟨n31, en31⟩ : ∃ z : Int32, z = v7 + 1 := ⟨_, rfl⟩
  replace hf := hf n31 en31
  refine lv_iinc (v := n31) (lv' := [(7, .int n31), (0, .ref (a 0)), (2, .int v2), (4, .int v4), (5, .int v5), (6, .int v6)]) hx hb dX5_make_272 hl (k := 5) rfl (by rw [en31]; rfl) (by decide) rfl (fun ls hl => ?_)
  refine lv_goto (tgt := 176) hx hb dX5_make_275 (by decide) ?_
  exact hC (mI, mA, mL) v2 v4 v5 v6 n31 H locs ls hP hD hS (lv_sub hl [1, 2, 3, 4, 5, 0] rfl) hf
set_option maxHeartbeats 4000000 in
set_option maxRecDepth 100000 in
theorem j_X5_make_223 {p : Program} {l : Launch} {e : Env} {s : State} {m : MethodId} {args : Array Value} {below : List Frame} {meth : Method} {c : Code} {dC : Nat → ClassId} {dI : Nat → Nat → Nat} {y : Nat → ClassId} {A : Nat → Prop} (C0 : Cx p s m args meth c cX5_make 8 none wsX5_make RX5 A dC dI y) (a : Nat → Nat) (K : ModelS → Prop) (C : ModelS → Int32 → Int32 → Int32 → Int32 → Int32 → Prop) (hC : ∀ (S : ModelS) (v2 : Int32) (v4 : Int32) (v5 : Int32) (v6 : Int32) (v7 : Int32) (H : Heap) (locs : List Loc) (ls : Array Slot), va_P (dC, dI) vwCl (mdW y a S) H → va_D A (mdW y a S) → va_S A s.heap H locs → lv_has ls 8 [(0, .ref (a 0)), (2, .int v2), (4, .int v4), (5, .int v5), (6, .int v6), (7, .int v7)] → C S v2 v4 v5 v6 v7 → W p l e ({ frames := 1, cells := 0, slots := 0, locals := 24 } : Room) s m args below meth c H locs 0 0 (MQ below (va_Qv K (BW dC dI A (fun u => mdW y a u)) A) args s 0 0 A) (F0 m 176 ls [])) : ∀ (S : ModelS) (v2 : Int32) (v4 : Int32) (v7 : Int32) (k0 : Int32) (H : Heap) (locs : List Loc) (ls : Array Slot), va_P (dC, dI) vwCl (mdW y a S) H → va_D A (mdW y a S) → va_S A s.heap H locs → lv_has ls 8 [(0, .ref (a 0)), (2, .int v2), (4, .int v4), (7, .int v7)] → wp_X5_make_223 K C S v2 v4 v7 k0 → W p l e ({ frames := 1, cells := 0, slots := 0, locals := 24 } : Room) s m args below meth c H locs 0 0 (MQ below (va_Qv K (BW dC dI A (fun u => mdW y a u)) A) args s 0 0 A) (F0 m 223 ls [.int k0]) := by
  obtain ⟨hx, hb, hr, hml, hown, hts, hlocks, hA, hK⟩ := id C0
  have w96 := hts (.fieldLink RX5 96 "SharedWireModel" "frame" "[I") (List.mem_of_getElem? (i := 7) rfl)
  have w103 := hts (.fieldLink RX5 103 "SharedWireModel" "frameSize" "I") (List.mem_of_getElem? (i := 1) rfl)
  have hinX5 : ∀ w ∈ wsX50, w ∈ wsX5_make := fun w h => List.mem_cons_of_mem _ (List.mem_append_right _ (h))
  intro S v2 v4 v7 k0 H locs ls hP hD hS hl hf
  obtain ⟨mI, mA, mL⟩ := S
  unfold wp_X5_make_223 at hf
  refine lv_istore (lv' := [(5, .int k0), (0, .ref (a 0)), (2, .int v2), (4, .int v4), (7, .int v7)]) hx hb dX5_make_223 hl (by decide) rfl (fun ls hl => ?_)
  refine lv_aload_n hx hb dX5_make_225 rfl (lv_at hl 1 rfl) ?_
  refine va_get (D := (dC, dI)) (ci := 5) (v := .ref (a 33)) (C := RX5) (T := TX5) (N := 35) hx hb hts hinX5 hown hK.1 hP 0 rfl rfl 33 (by decide) w96 (fun _ h9 => h9) rfl dX5_make_226 ?_
  refine lv_iload hx hb dX5_make_229 (lv_at hl 4 rfl) ?_
  have g28 := hf.1
  replace hf := hf.2
  refine ar_ild (f := (mA 33)) (j := v7.toNatClampNeg) hx hb hK.1 hP 29 0 rfl rfl rfl g28 dX5_make_231 ?_
  refine lv_topi (fun n29 en29 => ?_)
  replace hf := hf n29 en29
  refine lv_istore (lv' := [(6, .int n29), (5, .int k0), (0, .ref (a 0)), (2, .int v2), (4, .int v4), (7, .int v7)]) hx hb dX5_make_232 hl (by decide) rfl (fun ls hl => ?_)
  refine lv_iload hx hb dX5_make_234 (lv_at hl 1 rfl) ?_
  refine lv_iconst (v := 5) hx hb dX5_make_236 (by decide) ?_
  refine lv_icmp_ne (tgt := 272) hx hb dX5_make_237 (by decide) (fun c30 => ?_) (fun c30 => ?_)
  · replace hf := hf.1 c30
    exact j_X5_make_272 C0 a K C hC (mI, mA, mL) v2 v4 k0 n29 v7 H locs ls hP hD hS (lv_sub hl [2, 3, 4, 1, 0, 5] rfl) hf
  · replace hf := hf.2 c30
    refine lv_iload hx hb dX5_make_240 (lv_at hl 5 rfl) ?_
    refine lv_aload_n hx hb dX5_make_242 rfl (lv_at hl 2 rfl) ?_
    refine va_get (D := (dC, dI)) (ci := 5) (v := .int (mI 34)) (C := RX5) (T := TX5) (N := 35) hx hb hts hinX5 hown hK.1 hP 0 rfl rfl 34 (by decide) w103 (fun _ h9 => h9) rfl dX5_make_243 ?_
    refine lv_iconst (v := 1) hx hb dX5_make_246 (by decide) ?_
    refine lv_isub hx hb dX5_make_247 ?_
    refine lv_icmp_ge (tgt := 272) hx hb dX5_make_248 (by decide) (fun c32 => ?_) (fun c32 => ?_)
    · replace hf := hf.1 c32
      exact j_X5_make_272 C0 a K C hC (mI, mA, mL) v2 v4 k0 n29 v7 H locs ls hP hD hS (lv_sub hl [2, 3, 4, 1, 0, 5] rfl) hf
    · replace hf := hf.2 c32
      refine lv_iconst (v := 1) hx hb dX5_make_251 (by decide) ?_
      refine lv_iload hx hb dX5_make_252 (lv_at hl 0 rfl) ?_
      refine lv_isub hx hb dX5_make_254 ?_
      refine lv_topi (fun n33 en33 => ?_)
      replace hf := hf n33 en33
      refine lv_istore (lv' := [(6, .int n33), (5, .int k0), (0, .ref (a 0)), (2, .int v2), (4, .int v4), (7, .int v7)]) hx hb dX5_make_255 hl (by decide) rfl (fun ls hl => ?_)
      refine lv_iconst (v := 1) hx hb dX5_make_257 (by decide) ?_
      refine lv_istore (lv' := [(5, .int 1), (6, .int n33), (0, .ref (a 0)), (2, .int v2), (4, .int v4), (7, .int v7)]) hx hb dX5_make_258 hl (by decide) rfl (fun ls hl => ?_)
      refine lv_aload_n hx hb dX5_make_260 rfl (lv_at hl 2 rfl) ?_
      refine lv_iload_n hx hb dX5_make_261 rfl (lv_at hl 3 rfl) ?_
      refine lv_iload hx hb dX5_make_262 (lv_at hl 4 rfl) ?_
      refine lv_iload hx hb dX5_make_264 (lv_at hl 1 rfl) ?_
      refine lv_iconst (v := (-1)) hx hb dX5_make_266 (by decide) ?_
      refine k0i (As := [.int v2, .int v4, .int n33, .int (-1)]) (rest := []) ⟨hx, hb, hml, hown, hts⟩ (c_X5_lay l dC dI y a H.size (mI, mA, mL) v2 v4 n33 (-1) _ hf) (cwV 4 hts gX5_make_X5_lay rfl rfl rfl (by decide +kernel) ⟨Nat.le_of_ble_eq_true rfl, Nat.le_of_ble_eq_true rfl⟩) hK hP hD (va_recv hK.1 hP (ci := 5) (q0 := 0) rfl rfl) hS hA rfl hl.1 rfl (Nat.le_of_ble_eq_true rfl) dX5_make_267 ⟨Nat.zero_le _, Nat.zero_le _⟩ (fun r34 u35 H locs hf hP hD hS => ?_)
      have hP : va_P (dC, dI) vwCl (mdW y a (u35.1, u35.2.1, u35.2.2)) H := hP
      have hD : va_D A (mdW y a (u35.1, u35.2.1, u35.2.2)) := hD
      refine lv_istore (lv' := [(4, .int r34), (5, .int 1), (6, .int n33), (0, .ref (a 0)), (2, .int v2), (7, .int v7)]) hx hb dX5_make_270 hl (by decide) rfl (fun ls hl => ?_)
      exact j_X5_make_272 C0 a K C hC (u35.1, u35.2.1, u35.2.2) v2 r34 1 n33 v7 H locs ls hP hD hS (lv_sub hl [3, 4, 0, 1, 2, 5] rfl) hf
set_option maxHeartbeats 4000000 in
set_option maxRecDepth 100000 in
theorem j_X5_make_176 {p : Program} {l : Launch} {e : Env} {s : State} {m : MethodId} {args : Array Value} {below : List Frame} {meth : Method} {c : Code} {dC : Nat → ClassId} {dI : Nat → Nat → Nat} {y : Nat → ClassId} {A : Nat → Prop} (C0 : Cx p s m args meth c cX5_make 8 none wsX5_make RX5 A dC dI y) (a : Nat → Nat) (K : ModelS → Prop) : ∀ n : Nat, ∀ (S : ModelS) (v2 : Int32) (v4 : Int32) (v5 : Int32) (v6 : Int32) (v7 : Int32) (H : Heap) (locs : List Loc) (ls : Array Slot), va_P (dC, dI) vwCl (mdW y a S) H → va_D A (mdW y a S) → va_S A s.heap H locs → lv_has ls 8 [(0, .ref (a 0)), (2, .int v2), (4, .int v4), (5, .int v5), (6, .int v6), (7, .int v7)] → wp_X5_make_176 K n S v2 v4 v5 v6 v7 → W p l e ({ frames := 1, cells := 0, slots := 0, locals := 24 } : Room) s m args below meth c H locs 0 0 (MQ below (va_Qv K (BW dC dI A (fun u => mdW y a u)) A) args s 0 0 A) (F0 m 176 ls []) := by
  obtain ⟨hx, hb, hr, hml, hown, hts, hlocks, hA, hK⟩ := id C0
  have w96 := hts (.fieldLink RX5 96 "SharedWireModel" "frame" "[I") (List.mem_of_getElem? (i := 7) rfl)
  have w103 := hts (.fieldLink RX5 103 "SharedWireModel" "frameSize" "I") (List.mem_of_getElem? (i := 1) rfl)
  have hinX5 : ∀ w ∈ wsX50, w ∈ wsX5_make := fun w h => List.mem_cons_of_mem _ (List.mem_append_right _ (h))
  intro n
  induction n with
  | zero =>
    intro S v2 v4 v5 v6 v7 H locs ls hP hD hS hl hf
    exact False.elim (by unfold wp_X5_make_176 at hf; exact hf)
  | succ n ih =>
    intro S v2 v4 v5 v6 v7 H locs ls hP hD hS hl hf
    obtain ⟨mI, mA, mL⟩ := S
    unfold wp_X5_make_176 at hf
    refine lv_iload hx hb dX5_make_176 (lv_at hl 5 rfl) ?_
    refine lv_aload_n hx hb dX5_make_178 rfl (lv_at hl 0 rfl) ?_
    refine va_get (D := (dC, dI)) (ci := 5) (v := .int (mI 34)) (C := RX5) (T := TX5) (N := 35) hx hb hts hinX5 hown hK.1 hP 0 rfl rfl 34 (by decide) w103 (fun _ h9 => h9) rfl dX5_make_179 ?_
    refine lv_icmp_ge (tgt := 278) hx hb dX5_make_182 (by decide) (fun c13 => ?_) (fun c13 => ?_)
    · replace hf := hf.1 c13
      refine lv_aload_n hx hb dX5_make_278 rfl (lv_at hl 0 rfl) ?_
      refine lv_iload_n hx hb dX5_make_279 rfl (lv_at hl 1 rfl) ?_
      refine lv_iload hx hb dX5_make_280 (lv_at hl 2 rfl) ?_
      refine lv_iconst (v := 1) hx hb dX5_make_282 (by decide) ?_
      refine lv_sipush (v := 200) hx hb dX5_make_283 (by decide) ?_
      refine k0i (As := [.int v2, .int v4, .int 1, .int 200]) (rest := []) ⟨hx, hb, hml, hown, hts⟩ (c_X5_lay l dC dI y a H.size (mI, mA, mL) v2 v4 1 200 _ hf) (cwV 4 hts gX5_make_X5_lay rfl rfl rfl (by decide +kernel) ⟨Nat.le_of_ble_eq_true rfl, Nat.le_of_ble_eq_true rfl⟩) hK hP hD (va_recv hK.1 hP (ci := 5) (q0 := 0) rfl rfl) hS hA rfl hl.1 rfl (Nat.le_of_ble_eq_true rfl) dX5_make_286 ⟨Nat.zero_le _, Nat.zero_le _⟩ (fun r14 u15 H locs hf hP hD hS => ?_)
      have hP : va_P (dC, dI) vwCl (mdW y a (u15.1, u15.2.1, u15.2.2)) H := hP
      have hD : va_D A (mdW y a (u15.1, u15.2.1, u15.2.2)) := hD
      refine lv_istore (lv' := [(4, .int r14), (0, .ref (a 0)), (2, .int v2), (5, .int v5), (6, .int v6), (7, .int v7)]) hx hb dX5_make_289 hl (by decide) rfl (fun ls hl => ?_)
      refine lv_aload_n hx hb dX5_make_291 rfl (lv_at hl 1 rfl) ?_
      refine lv_iload_n hx hb dX5_make_292 rfl (lv_at hl 2 rfl) ?_
      refine lv_iload hx hb dX5_make_293 (lv_at hl 0 rfl) ?_
      refine lv_iconst (v := 1) hx hb dX5_make_295 (by decide) ?_
      refine lv_sipush (v := 201) hx hb dX5_make_296 (by decide) ?_
      refine k0i (As := [.int v2, .int r14, .int 1, .int 201]) (rest := []) ⟨hx, hb, hml, hown, hts⟩ (c_X5_lay l dC dI y a H.size (u15.1, u15.2.1, u15.2.2) v2 r14 1 201 _ hf) (cwV 4 hts gX5_make_X5_lay rfl rfl rfl (by decide +kernel) ⟨Nat.le_of_ble_eq_true rfl, Nat.le_of_ble_eq_true rfl⟩) hK hP hD (va_recv hK.1 hP (ci := 5) (q0 := 0) rfl rfl) hS hA rfl hl.1 rfl (Nat.le_of_ble_eq_true rfl) dX5_make_299 ⟨Nat.zero_le _, Nat.zero_le _⟩ (fun r16 u17 H locs hf hP hD hS => ?_)
      have hP : va_P (dC, dI) vwCl (mdW y a (u17.1, u17.2.1, u17.2.2)) H := hP
      have hD : va_D A (mdW y a (u17.1, u17.2.1, u17.2.2)) := hD
      refine lv_istore (lv' := [(4, .int r16), (0, .ref (a 0)), (2, .int v2), (5, .int v5), (6, .int v6), (7, .int v7)]) hx hb dX5_make_302 hl (by decide) rfl (fun ls hl => ?_)
      refine lv_iconst (v := 0) hx hb dX5_make_304 (by decide) ?_
      refine lv_istore (lv' := [(7, .int 0), (4, .int r16), (0, .ref (a 0)), (2, .int v2), (5, .int v5), (6, .int v6)]) hx hb dX5_make_305 hl (by decide) rfl (fun ls hl => ?_)
      exact j_X5_make_307 C0 a K 1000 (u17.1, u17.2.1, u17.2.2) v2 r16 0 H locs ls hP hD hS (lv_sub hl [2, 3, 1, 0] rfl) hf
    · replace hf := hf.2 c13
      refine lv_aload_n hx hb dX5_make_185 rfl (lv_at hl 0 rfl) ?_
      refine lv_iload_n hx hb dX5_make_186 rfl (lv_at hl 1 rfl) ?_
      refine lv_iload hx hb dX5_make_187 (lv_at hl 2 rfl) ?_
      refine lv_aload_n hx hb dX5_make_189 rfl (lv_at hl 0 rfl) ?_
      refine va_get (D := (dC, dI)) (ci := 5) (v := .ref (a 33)) (C := RX5) (T := TX5) (N := 35) hx hb hts hinX5 hown hK.1 hP 0 rfl rfl 33 (by decide) w96 (fun _ h9 => h9) rfl dX5_make_190 ?_
      refine lv_iload hx hb dX5_make_193 (lv_at hl 5 rfl) ?_
      have g23 := hf.1
      replace hf := hf.2
      refine ar_ild (f := (mA 33)) (j := v7.toNatClampNeg) hx hb hK.1 hP 29 0 rfl rfl rfl g23 dX5_make_195 ?_
      refine lv_iload hx hb dX5_make_196 (lv_at hl 5 rfl) ?_
      refine k0i (As := [.int v2, .int v4, .int ((mA 33) v7.toNatClampNeg), .int v7]) (rest := []) ⟨hx, hb, hml, hown, hts⟩ (c_X5_lay l dC dI y a H.size (mI, mA, mL) v2 v4 ((mA 33) v7.toNatClampNeg) v7 _ hf) (cwV 4 hts gX5_make_X5_lay rfl rfl rfl (by decide +kernel) ⟨Nat.le_of_ble_eq_true rfl, Nat.le_of_ble_eq_true rfl⟩) hK hP hD (va_recv hK.1 hP (ci := 5) (q0 := 0) rfl rfl) hS hA rfl hl.1 rfl (Nat.le_of_ble_eq_true rfl) dX5_make_198 ⟨Nat.zero_le _, Nat.zero_le _⟩ (fun r24 u25 H locs hf hP hD hS => ?_)
      have hP : va_P (dC, dI) vwCl (mdW y a (u25.1, u25.2.1, u25.2.2)) H := hP
      have hD : va_D A (mdW y a (u25.1, u25.2.1, u25.2.2)) := hD
      refine lv_istore (lv' := [(4, .int r24), (0, .ref (a 0)), (2, .int v2), (5, .int v5), (6, .int v6), (7, .int v7)]) hx hb dX5_make_201 hl (by decide) rfl (fun ls hl => ?_)
      refine lv_aload_n hx hb dX5_make_203 rfl (lv_at hl 1 rfl) ?_
      refine va_get (D := (dC, dI)) (ci := 5) (v := .ref (a 33)) (C := RX5) (T := TX5) (N := 35) hx hb hts hinX5 hown hK.1 hP 0 rfl rfl 33 (by decide) w96 (fun _ h9 => h9) rfl dX5_make_204 ?_
      refine lv_iload hx hb dX5_make_207 (lv_at hl 5 rfl) ?_
      have g26 := hf.1
      replace hf := hf.2
      refine ar_ild (f := (u25.2.1 33)) (j := v7.toNatClampNeg) hx hb hK.1 hP 29 0 rfl rfl rfl g26 dX5_make_209 ?_
      refine lv_iload hx hb dX5_make_210 (lv_at hl 4 rfl) ?_
      refine lv_icmp_ne (tgt := 222) hx hb dX5_make_212 (by decide) (fun c27 => ?_) (fun c27 => ?_)
      · replace hf := hf.1 c27
        refine lv_iconst (v := 1) hx hb dX5_make_222 (by decide) ?_
        exact j_X5_make_223 C0 a K (wp_X5_make_176 K n) ih (u25.1, u25.2.1, u25.2.2) v2 r24 v7 1 H locs ls hP hD hS (lv_sub hl [1, 2, 0, 5] rfl) hf
      · replace hf := hf.2 c27
        refine lv_iload hx hb dX5_make_215 (lv_at hl 3 rfl) ?_
        refine lv_iconst (v := 1) hx hb dX5_make_217 (by decide) ?_
        refine lv_iadd hx hb dX5_make_218 ?_
        refine lv_goto (tgt := 223) hx hb dX5_make_219 (by decide) ?_
        exact j_X5_make_223 C0 a K (wp_X5_make_176 K n) ih (u25.1, u25.2.1, u25.2.2) v2 r24 v7 (v5 + 1) H locs ls hP hD hS (lv_sub hl [1, 2, 0, 5] rfl) hf
set_option maxHeartbeats 4000000 in
set_option maxRecDepth 100000 in
theorem j_X5_make_130 {p : Program} {l : Launch} {e : Env} {s : State} {m : MethodId} {args : Array Value} {below : List Frame} {meth : Method} {c : Code} {dC : Nat → ClassId} {dI : Nat → Nat → Nat} {y : Nat → ClassId} {A : Nat → Prop} (C0 : Cx p s m args meth c cX5_make 8 none wsX5_make RX5 A dC dI y) (a : Nat → Nat) (K : ModelS → Prop) : ∀ n : Nat, ∀ (S : ModelS) (v2 : Int32) (v3 : Int32) (v4 : Int32) (H : Heap) (locs : List Loc) (ls : Array Slot), va_P (dC, dI) vwCl (mdW y a S) H → va_D A (mdW y a S) → va_S A s.heap H locs → lv_has ls 8 [(0, .ref (a 0)), (2, .int v2), (3, .int v3), (4, .int v4)] → wp_X5_make_130 K n S v2 v3 v4 → W p l e ({ frames := 1, cells := 0, slots := 0, locals := 24 } : Room) s m args below meth c H locs 0 0 (MQ below (va_Qv K (BW dC dI A (fun u => mdW y a u)) A) args s 0 0 A) (F0 m 130 ls []) := by
  obtain ⟨hx, hb, hr, hml, hown, hts, hlocks, hA, hK⟩ := id C0
  have w96 := hts (.fieldLink RX5 96 "SharedWireModel" "frame" "[I") (List.mem_of_getElem? (i := 7) rfl)
  have w103 := hts (.fieldLink RX5 103 "SharedWireModel" "frameSize" "I") (List.mem_of_getElem? (i := 1) rfl)
  have hinX5 : ∀ w ∈ wsX50, w ∈ wsX5_make := fun w h => List.mem_cons_of_mem _ (List.mem_append_right _ (h))
  intro n
  induction n with
  | zero =>
    intro S v2 v3 v4 H locs ls hP hD hS hl hf
    exact False.elim (by unfold wp_X5_make_130 at hf; exact hf)
  | succ n ih =>
    intro S v2 v3 v4 H locs ls hP hD hS hl hf
    obtain ⟨mI, mA, mL⟩ := S
    unfold wp_X5_make_130 at hf
    refine lv_iload hx hb dX5_make_130 (lv_at hl 3 rfl) ?_
    refine lv_aload_n hx hb dX5_make_132 rfl (lv_at hl 0 rfl) ?_
    refine va_get (D := (dC, dI)) (ci := 5) (v := .int (mI 34)) (C := RX5) (T := TX5) (N := 35) hx hb hts hinX5 hown hK.1 hP 0 rfl rfl 34 (by decide) w103 (fun _ h9 => h9) rfl dX5_make_133 ?_
    refine lv_icmp_ge (tgt := 157) hx hb dX5_make_136 (by decide) (fun c11 => ?_) (fun c11 => ?_)
    · replace hf := hf.1 c11
      refine lv_aload_n hx hb dX5_make_157 rfl (lv_at hl 0 rfl) ?_
      refine lv_iload_n hx hb dX5_make_158 rfl (lv_at hl 2 rfl) ?_
      refine lv_bipush (v := 15) hx hb dX5_make_159 (by decide) ?_
      refine k0v (As := [.int v3, .int 15]) (rest := []) ⟨hx, hb, hml, hown, hts⟩ (c_X5_say l dC dI y a H.size (mI, mA, mL) v3 15 _ hf) (cwV 2 hts gX5_make_X5_say rfl rfl rfl (by decide +kernel) ⟨Nat.le_of_ble_eq_true rfl, Nat.le_of_ble_eq_true rfl⟩) hK hP hD (va_recv hK.1 hP (ci := 5) (q0 := 0) rfl rfl) hS hA rfl hl.1 rfl (Nat.le_of_ble_eq_true rfl) dX5_make_161 ⟨Nat.zero_le _, Nat.zero_le _⟩ (fun u12 H locs hf hP hD hS => ?_)
      have hP : va_P (dC, dI) vwCl (mdW y a (u12.1, u12.2.1, u12.2.2)) H := hP
      have hD : va_D A (mdW y a (u12.1, u12.2.1, u12.2.2)) := hD
      refine lv_iconst (v := 0) hx hb dX5_make_164 (by decide) ?_
      refine lv_istore (lv' := [(4, .int 0), (0, .ref (a 0)), (2, .int v2), (3, .int v3)]) hx hb dX5_make_165 hl (by decide) rfl (fun ls hl => ?_)
      refine lv_iconst (v := 0) hx hb dX5_make_167 (by decide) ?_
      refine lv_istore (lv' := [(5, .int 0), (4, .int 0), (0, .ref (a 0)), (2, .int v2), (3, .int v3)]) hx hb dX5_make_168 hl (by decide) rfl (fun ls hl => ?_)
      refine lv_iconst (v := 2) hx hb dX5_make_170 (by decide) ?_
      refine lv_istore (lv' := [(6, .int 2), (5, .int 0), (4, .int 0), (0, .ref (a 0)), (2, .int v2), (3, .int v3)]) hx hb dX5_make_171 hl (by decide) rfl (fun ls hl => ?_)
      refine lv_iconst (v := 0) hx hb dX5_make_173 (by decide) ?_
      refine lv_istore (lv' := [(7, .int 0), (6, .int 2), (5, .int 0), (4, .int 0), (0, .ref (a 0)), (2, .int v2), (3, .int v3)]) hx hb dX5_make_174 hl (by decide) rfl (fun ls hl => ?_)
      exact j_X5_make_176 C0 a K 1000 (u12.1, u12.2.1, u12.2.2) v2 0 0 2 0 H locs ls hP hD hS (lv_sub hl [4, 5, 3, 2, 1, 0] rfl) hf
    · replace hf := hf.2 c11
      refine lv_iload_n hx hb dX5_make_139 rfl (lv_at hl 2 rfl) ?_
      refine lv_aload_n hx hb dX5_make_140 rfl (lv_at hl 0 rfl) ?_
      refine va_get (D := (dC, dI)) (ci := 5) (v := .ref (a 33)) (C := RX5) (T := TX5) (N := 35) hx hb hts hinX5 hown hK.1 hP 0 rfl rfl 33 (by decide) w96 (fun _ h9 => h9) rfl dX5_make_141 ?_
      refine lv_iload hx hb dX5_make_144 (lv_at hl 3 rfl) ?_
      have g36 := hf.1
      replace hf := hf.2
      refine ar_ild (f := (mA 33)) (j := v4.toNatClampNeg) hx hb hK.1 hP 29 0 rfl rfl rfl g36 dX5_make_146 ?_
      refine kSi (As := [.int v3, .int ((mA 33) v4.toNatClampNeg)]) (rest := []) ⟨hx, hb, hml, hown, hts⟩ (c_X5_nextCheck l dC dI y H.size v3 ((mA 33) v4.toNatClampNeg) _ hf) (va_cwS 2 hts gX5_make_X5_nextCheck rfl rfl rfl (by decide +kernel) ⟨Nat.le_of_ble_eq_true rfl, Nat.le_of_ble_eq_true rfl⟩) hK hP hD hS hA rfl hl.1 rfl (Nat.le_of_ble_eq_true rfl) dX5_make_147 ⟨Nat.zero_le _, Nat.zero_le _⟩ (fun r37 H locs hf hP hD hS => ?_)
      refine lv_istore_n (lv' := [(3, .int r37), (0, .ref (a 0)), (2, .int v2), (4, .int v4)]) hx hb dX5_make_150 rfl hl (by decide) rfl (fun ls hl => ?_)
      obtain ⟨n38, en38⟩ : ∃ z : Int32, z = v4 + 1 := ⟨_, rfl⟩
      replace hf := hf n38 en38
      refine lv_iinc (v := n38) (lv' := [(4, .int n38), (3, .int r37), (0, .ref (a 0)), (2, .int v2)]) hx hb dX5_make_151 hl (k := 3) rfl (by rw [en38]; rfl) (by decide) rfl (fun ls hl => ?_)
      refine lv_goto (tgt := 130) hx hb dX5_make_154 (by decide) ?_
      exact ih (mI, mA, mL) v2 r37 n38 H locs ls hP hD hS (lv_sub hl [2, 3, 1, 0] rfl) hf
set_option maxHeartbeats 4000000 in
set_option maxRecDepth 100000 in
theorem j_X5_make_87 {p : Program} {l : Launch} {e : Env} {s : State} {m : MethodId} {args : Array Value} {below : List Frame} {meth : Method} {c : Code} {dC : Nat → ClassId} {dI : Nat → Nat → Nat} {y : Nat → ClassId} {A : Nat → Prop} (C0 : Cx p s m args meth c cX5_make 8 none wsX5_make RX5 A dC dI y) (a : Nat → Nat) (K : ModelS → Prop) : ∀ n : Nat, ∀ (S : ModelS) (v1 : Int32) (v2 : Int32) (v3 : Int32) (H : Heap) (locs : List Loc) (ls : Array Slot), va_P (dC, dI) vwCl (mdW y a S) H → va_D A (mdW y a S) → va_S A s.heap H locs → lv_has ls 8 [(0, .ref (a 0)), (1, .int v1), (2, .int v2), (3, .int v3)] → wp_X5_make_87 K n S v1 v2 v3 → W p l e ({ frames := 1, cells := 0, slots := 0, locals := 24 } : Room) s m args below meth c H locs 0 0 (MQ below (va_Qv K (BW dC dI A (fun u => mdW y a u)) A) args s 0 0 A) (F0 m 87 ls []) := by
  obtain ⟨hx, hb, hr, hml, hown, hts, hlocks, hA, hK⟩ := id C0
  have w38 := hts (.fieldLink RX5 38 "SharedWireModel" "data" "[J") (List.mem_of_getElem? (i := 5) rfl)
  have w42 := hts (.fieldLink RX5 42 "SharedWireModel" "bytes" "[I") (List.mem_of_getElem? (i := 4) rfl)
  have w110 := hts (.constantLong RX5 110 (255)) (List.mem_of_getElem? (i := 6) rfl)
  have hinX5 : ∀ w ∈ wsX50, w ∈ wsX5_make := fun w h => List.mem_cons_of_mem _ (List.mem_append_right _ (h))
  intro n
  induction n with
  | zero =>
    intro S v1 v2 v3 H locs ls hP hD hS hl hf
    exact False.elim (by unfold wp_X5_make_87 at hf; exact hf)
  | succ n ih =>
    intro S v1 v2 v3 H locs ls hP hD hS hl hf
    obtain ⟨mI, mA, mL⟩ := S
    unfold wp_X5_make_87 at hf
    refine lv_iload_n hx hb dX5_make_87 rfl (lv_at hl 3 rfl) ?_
    refine lv_aload_n hx hb dX5_make_88 rfl (lv_at hl 0 rfl) ?_
    refine va_get (D := (dC, dI)) (ci := 5) (v := .ref (a 13)) (C := RX5) (T := TX5) (N := 35) hx hb hts hinX5 hown hK.1 hP 0 rfl rfl 13 (by decide) w42 (fun _ h9 => h9) rfl dX5_make_89 ?_
    refine lv_iload_n hx hb dX5_make_92 rfl (lv_at hl 1 rfl) ?_
    have g9 := hf.1
    replace hf := hf.2
    refine ar_ild (f := (mA 13)) (j := v1.toNatClampNeg) hx hb hK.1 hP 11 0 rfl rfl rfl g9 dX5_make_93 ?_
    refine lv_icmp_ge (tgt := 125) hx hb dX5_make_94 (by decide) (fun c10 => ?_) (fun c10 => ?_)
    · replace hf := hf.1 c10
      refine lv_iconst (v := 0) hx hb dX5_make_125 (by decide) ?_
      refine lv_istore_n (lv' := [(3, .int 0), (0, .ref (a 0)), (1, .int v1), (2, .int v2)]) hx hb dX5_make_126 rfl hl (by decide) rfl (fun ls hl => ?_)
      refine lv_iconst (v := 0) hx hb dX5_make_127 (by decide) ?_
      refine lv_istore (lv' := [(4, .int 0), (3, .int 0), (0, .ref (a 0)), (1, .int v1), (2, .int v2)]) hx hb dX5_make_128 hl (by decide) rfl (fun ls hl => ?_)
      exact j_X5_make_130 C0 a K 1000 (mI, mA, mL) v2 0 0 H locs ls hP hD hS (lv_sub hl [2, 4, 1, 0] rfl) hf
    · replace hf := hf.2 c10
      refine lv_aload_n hx hb dX5_make_97 rfl (lv_at hl 0 rfl) ?_
      refine lv_aload_n hx hb dX5_make_98 rfl (lv_at hl 0 rfl) ?_
      refine va_get (D := (dC, dI)) (ci := 5) (v := .ref (a 12)) (C := RX5) (T := TX5) (N := 35) hx hb hts hinX5 hown hK.1 hP 0 rfl rfl 12 (by decide) w38 (fun _ h9 => h9) rfl dX5_make_99 ?_
      refine lv_iload_n hx hb dX5_make_102 rfl (lv_at hl 1 rfl) ?_
      have g39 := hf.1
      replace hf := hf.2
      refine ar_lld (f := (mL 12)) (j := v1.toNatClampNeg) hx hb hK.1 hP 10 1 rfl rfl rfl g39 dX5_make_103 ?_
      refine lv_bipush (v := 8) hx hb dX5_make_104 (by decide) ?_
      refine lv_iload_n hx hb dX5_make_106 rfl (lv_at hl 3 rfl) ?_
      refine lv_imul hx hb dX5_make_107 ?_
      refine lv_lshr (v := ((mL 12) v1.toNatClampNeg) >>> ((8 * v3).toInt64 &&& 63)) hx hb dX5_make_108 rfl ?_
      refine lv_ldc2 (v := 255) hx hb hown w110 dX5_make_109 ?_
      refine lv_land hx hb dX5_make_112 ?_
      refine lv_l2i (v := ((((mL 12) v1.toNatClampNeg) >>> ((8 * v3).toInt64 &&& 63)) &&& 255).toInt32) hx hb dX5_make_113 rfl ?_
      refine lv_bipush (v := 8) hx hb dX5_make_114 (by decide) ?_
      refine k0v (As := [.int (((((mL 12) v1.toNatClampNeg) >>> ((8 * v3).toInt64 &&& 63)) &&& 255).toInt32), .int 8]) (rest := []) ⟨hx, hb, hml, hown, hts⟩ (c_X5_say l dC dI y a H.size (mI, mA, mL) (((((mL 12) v1.toNatClampNeg) >>> ((8 * v3).toInt64 &&& 63)) &&& 255).toInt32) 8 _ hf) (cwV 2 hts gX5_make_X5_say rfl rfl rfl (by decide +kernel) ⟨Nat.le_of_ble_eq_true rfl, Nat.le_of_ble_eq_true rfl⟩) hK hP hD (va_recv hK.1 hP (ci := 5) (q0 := 0) rfl rfl) hS hA rfl hl.1 rfl (Nat.le_of_ble_eq_true rfl) dX5_make_116 ⟨Nat.zero_le _, Nat.zero_le _⟩ (fun u40 H locs hf hP hD hS => ?_)
      have hP : va_P (dC, dI) vwCl (mdW y a (u40.1, u40.2.1, u40.2.2)) H := hP
      have hD : va_D A (mdW y a (u40.1, u40.2.1, u40.2.2)) := hD
      obtain ⟨n41, en41⟩ : ∃ z : Int32, z = v3 + 1 := ⟨_, rfl⟩
      replace hf := hf n41 en41
      refine lv_iinc (v := n41) (lv' := [(3, .int n41), (0, .ref (a 0)), (1, .int v1), (2, .int v2)]) hx hb dX5_make_119 hl (k := 3) rfl (by rw [en41]; rfl) (by decide) rfl (fun ls hl => ?_)
      refine lv_goto (tgt := 87) hx hb dX5_make_122 (by decide) ?_
      exact ih (u40.1, u40.2.1, u40.2.2) v1 v2 n41 H locs ls hP hD hS (lv_sub hl [1, 2, 3, 0] rfl) hf
set_option maxHeartbeats 4000000 in
set_option maxRecDepth 100000 in
theorem j_X5_make_68 {p : Program} {l : Launch} {e : Env} {s : State} {m : MethodId} {args : Array Value} {below : List Frame} {meth : Method} {c : Code} {dC : Nat → ClassId} {dI : Nat → Nat → Nat} {y : Nat → ClassId} {A : Nat → Prop} (C0 : Cx p s m args meth c cX5_make 8 none wsX5_make RX5 A dC dI y) (a : Nat → Nat) (K : ModelS → Prop) : ∀ (S : ModelS) (v1 : Int32) (v2 : Int32) (H : Heap) (locs : List Loc) (ls : Array Slot), va_P (dC, dI) vwCl (mdW y a S) H → va_D A (mdW y a S) → va_S A s.heap H locs → lv_has ls 8 [(0, .ref (a 0)), (1, .int v1), (2, .int v2)] → wp_X5_make_68 K S v1 v2 → W p l e ({ frames := 1, cells := 0, slots := 0, locals := 24 } : Room) s m args below meth c H locs 0 0 (MQ below (va_Qv K (BW dC dI A (fun u => mdW y a u)) A) args s 0 0 A) (F0 m 68 ls []) := by
  obtain ⟨hx, hb, hr, hml, hown, hts, hlocks, hA, hK⟩ := id C0
  have w42 := hts (.fieldLink RX5 42 "SharedWireModel" "bytes" "[I") (List.mem_of_getElem? (i := 4) rfl)
  have hinX5 : ∀ w ∈ wsX50, w ∈ wsX5_make := fun w h => List.mem_cons_of_mem _ (List.mem_append_right _ (h))
  intro S v1 v2 H locs ls hP hD hS hl hf
  obtain ⟨mI, mA, mL⟩ := S
  unfold wp_X5_make_68 at hf
  refine lv_aload_n hx hb dX5_make_68 rfl (lv_at hl 0 rfl) ?_
  refine lv_iconst (v := 0) hx hb dX5_make_69 (by decide) ?_
  refine lv_iconst (v := 3) hx hb dX5_make_70 (by decide) ?_
  refine k0v (As := [.int 0, .int 3]) (rest := []) ⟨hx, hb, hml, hown, hts⟩ (c_X5_say l dC dI y a H.size (mI, mA, mL) 0 3 _ hf) (cwV 2 hts gX5_make_X5_say rfl rfl rfl (by decide +kernel) ⟨Nat.le_of_ble_eq_true rfl, Nat.le_of_ble_eq_true rfl⟩) hK hP hD (va_recv hK.1 hP (ci := 5) (q0 := 0) rfl rfl) hS hA rfl hl.1 rfl (Nat.le_of_ble_eq_true rfl) dX5_make_71 ⟨Nat.zero_le _, Nat.zero_le _⟩ (fun u6 H locs hf hP hD hS => ?_)
  have hP : va_P (dC, dI) vwCl (mdW y a (u6.1, u6.2.1, u6.2.2)) H := hP
  have hD : va_D A (mdW y a (u6.1, u6.2.1, u6.2.2)) := hD
  refine lv_aload_n hx hb dX5_make_74 rfl (lv_at hl 0 rfl) ?_
  refine lv_aload_n hx hb dX5_make_75 rfl (lv_at hl 0 rfl) ?_
  refine va_get (D := (dC, dI)) (ci := 5) (v := .ref (a 13)) (C := RX5) (T := TX5) (N := 35) hx hb hts hinX5 hown hK.1 hP 0 rfl rfl 13 (by decide) w42 (fun _ h9 => h9) rfl dX5_make_76 ?_
  refine lv_iload_n hx hb dX5_make_79 rfl (lv_at hl 1 rfl) ?_
  have g7 := hf.1
  replace hf := hf.2
  refine ar_ild (f := (u6.2.1 13)) (j := v1.toNatClampNeg) hx hb hK.1 hP 11 0 rfl rfl rfl g7 dX5_make_80 ?_
  refine lv_iconst (v := 4) hx hb dX5_make_81 (by decide) ?_
  refine k0v (As := [.int ((u6.2.1 13) v1.toNatClampNeg), .int 4]) (rest := []) ⟨hx, hb, hml, hown, hts⟩ (c_X5_say l dC dI y a H.size (u6.1, u6.2.1, u6.2.2) ((u6.2.1 13) v1.toNatClampNeg) 4 _ hf) (cwV 2 hts gX5_make_X5_say rfl rfl rfl (by decide +kernel) ⟨Nat.le_of_ble_eq_true rfl, Nat.le_of_ble_eq_true rfl⟩) hK hP hD (va_recv hK.1 hP (ci := 5) (q0 := 0) rfl rfl) hS hA rfl hl.1 rfl (Nat.le_of_ble_eq_true rfl) dX5_make_82 ⟨Nat.zero_le _, Nat.zero_le _⟩ (fun u8 H locs hf hP hD hS => ?_)
  have hP : va_P (dC, dI) vwCl (mdW y a (u8.1, u8.2.1, u8.2.2)) H := hP
  have hD : va_D A (mdW y a (u8.1, u8.2.1, u8.2.2)) := hD
  refine lv_iconst (v := 0) hx hb dX5_make_85 (by decide) ?_
  refine lv_istore_n (lv' := [(3, .int 0), (0, .ref (a 0)), (1, .int v1), (2, .int v2)]) hx hb dX5_make_86 rfl hl (by decide) rfl (fun ls hl => ?_)
  exact j_X5_make_87 C0 a K 1000 (u8.1, u8.2.1, u8.2.2) v1 v2 0 H locs ls hP hD hS (lv_sub hl [1, 2, 3, 0] rfl) hf
set_option maxHeartbeats 4000000 in
set_option maxRecDepth 100000 in
theorem j_X5_make_41 {p : Program} {l : Launch} {e : Env} {s : State} {m : MethodId} {args : Array Value} {below : List Frame} {meth : Method} {c : Code} {dC : Nat → ClassId} {dI : Nat → Nat → Nat} {y : Nat → ClassId} {A : Nat → Prop} (C0 : Cx p s m args meth c cX5_make 8 none wsX5_make RX5 A dC dI y) (a : Nat → Nat) (K : ModelS → Prop) : ∀ (S : ModelS) (v1 : Int32) (v2 : Int32) (H : Heap) (locs : List Loc) (ls : Array Slot), va_P (dC, dI) vwCl (mdW y a S) H → va_D A (mdW y a S) → va_S A s.heap H locs → lv_has ls 8 [(0, .ref (a 0)), (1, .int v1), (2, .int v2)] → wp_X5_make_41 K S v1 v2 → W p l e ({ frames := 1, cells := 0, slots := 0, locals := 24 } : Room) s m args below meth c H locs 0 0 (MQ below (va_Qv K (BW dC dI A (fun u => mdW y a u)) A) args s 0 0 A) (F0 m 41 ls []) := by
  obtain ⟨hx, hb, hr, hml, hown, hts, hlocks, hA, hK⟩ := id C0
  have w35 := hts (.fieldLink RX5 35 "SharedWireModel" "identifiers" "[I") (List.mem_of_getElem? (i := 3) rfl)
  have hinX5 : ∀ w ∈ wsX50, w ∈ wsX5_make := fun w h => List.mem_cons_of_mem _ (List.mem_append_right _ (h))
  intro S v1 v2 H locs ls hP hD hS hl hf
  obtain ⟨mI, mA, mL⟩ := S
  unfold wp_X5_make_41 at hf
  refine lv_aload_n hx hb dX5_make_41 rfl (lv_at hl 0 rfl) ?_
  refine lv_aload_n hx hb dX5_make_42 rfl (lv_at hl 0 rfl) ?_
  refine va_get (D := (dC, dI)) (ci := 5) (v := .ref (a 11)) (C := RX5) (T := TX5) (N := 35) hx hb hts hinX5 hown hK.1 hP 0 rfl rfl 11 (by decide) w35 (fun _ h9 => h9) rfl dX5_make_43 ?_
  refine lv_iload_n hx hb dX5_make_46 rfl (lv_at hl 1 rfl) ?_
  have g45 := hf.1
  replace hf := hf.2
  refine ar_ild (f := (mA 11)) (j := v1.toNatClampNeg) hx hb hK.1 hP 9 0 rfl rfl rfl g45 dX5_make_47 ?_
  refine lv_bipush (v := 18) hx hb dX5_make_48 (by decide) ?_
  refine k0v (As := [.int ((mA 11) v1.toNatClampNeg), .int 18]) (rest := []) ⟨hx, hb, hml, hown, hts⟩ (c_X5_say l dC dI y a H.size (mI, mA, mL) ((mA 11) v1.toNatClampNeg) 18 _ hf) (cwV 2 hts gX5_make_X5_say rfl rfl rfl (by decide +kernel) ⟨Nat.le_of_ble_eq_true rfl, Nat.le_of_ble_eq_true rfl⟩) hK hP hD (va_recv hK.1 hP (ci := 5) (q0 := 0) rfl rfl) hS hA rfl hl.1 rfl (Nat.le_of_ble_eq_true rfl) dX5_make_50 ⟨Nat.zero_le _, Nat.zero_le _⟩ (fun u46 H locs hf hP hD hS => ?_)
  have hP : va_P (dC, dI) vwCl (mdW y a (u46.1, u46.2.1, u46.2.2)) H := hP
  have hD : va_D A (mdW y a (u46.1, u46.2.1, u46.2.2)) := hD
  refine lv_goto (tgt := 68) hx hb dX5_make_53 (by decide) ?_
  exact j_X5_make_68 C0 a K (u46.1, u46.2.1, u46.2.2) v1 v2 H locs ls hP hD hS (lv_sub hl [0, 1, 2] rfl) hf
set_option maxHeartbeats 4000000 in
set_option maxRecDepth 100000 in
theorem c_X5_make (l : Launch) (dC : Nat → ClassId) (dI : Nat → Nat → Nat) (y : Nat → ClassId) (a : Nat → Nat) (sz : Nat) (S : ModelS) (p0 : Int32) (p1 : Int32) (K : ModelS → Prop) (hf : wp_X5_make S p0 p1 K) : MV l yX5_make wsX5_make { frames := 1, cells := 0, slots := 0, locals := 24 } dC dI y [.ref (a 0), .int p0, .int p1] (mdW y a S) sz (fun u => mdW y a u) K := by
  refine Met.ofW (cc := cX5_make) (maxL := 8) (ret := none) (by decide) rfl ?_
  intro p e s m args below meth c s₁ B hml hv
  obtain ⟨rfl, hsz, hP, hK, hD0⟩ := hv
  have hx := B.exec
  have hb := B.bytes
  have hr := B.returns
  have hts := atoms_spec (ws := wsX5_make) B.pre
  have hown : s.vm.findClass RX5 = some m.cls := findClass_of_methodNamed B.named
  have hlocks := B.notSynchronized
  subst hsz
  have hD := hD0.self (sz := s.heap.size)
  generalize hAe : va_A (mdW y a S) s.heap.size = A at hD ⊢
  have hA : ∀ q : Nat, s.heap.size ≤ q → A q := fun q h => by rw [← hAe]; exact Or.inr h
  have hS : va_S A s.heap s.heap [] := va_S.rf
  have C0 : Cx p s m [.ref (a 0), .int p0, .int p1].toArray meth c cX5_make 8 none wsX5_make RX5 A dC dI y := ⟨hx, hb, hr, hml, hown, hts, hlocks, hA, hK⟩
  have w31 := hts (.fieldLink RX5 31 "SharedWireModel" "longs" "[Z") (List.mem_of_getElem? (i := 2) rfl)
  have w35 := hts (.fieldLink RX5 35 "SharedWireModel" "identifiers" "[I") (List.mem_of_getElem? (i := 3) rfl)
  have w103 := hts (.fieldLink RX5 103 "SharedWireModel" "frameSize" "I") (List.mem_of_getElem? (i := 1) rfl)
  have hinX5 : ∀ w ∈ wsX50, w ∈ wsX5_make := fun w h => List.mem_cons_of_mem _ (List.mem_append_right _ (h))
  have hl := lv_entry ([.ref (a 0), .int p0, .int p1]) (n := 8) (Nat.le_of_ble_eq_true rfl)
  rw [lg_entry_eq]
  generalize (lg_sl ([.ref (a 0), .int p0, .int p1]) ++ List.replicate (8 - (lg_sl ([.ref (a 0), .int p0, .int p1])).length) Slot.unset).toArray = ls at hl ⊢
  have hl : lv_has ls 8 [(0, .ref (a 0)), (1, .int p0), (2, .int p1)] := hl
  obtain ⟨mI, mA, mL⟩ := S
  clear hAe hD0
  generalize hL0 : ([] : List Loc) = locs at hS ⊢
  unfold wp_X5_make at hf
  refine lv_aload_n hx hb dX5_make_0 rfl (lv_at hl 0 rfl) ?_
  refine lv_iconst (v := 0) hx hb dX5_make_1 (by decide) ?_
  refine mput_34 (v := 0) hx hb hts hinX5 hown hK.1 hP hD hS w103 dX5_make_2 (fun H locs hP hD hS => ?_)
  refine lv_aload_n hx hb dX5_make_5 rfl (lv_at hl 0 rfl) ?_
  refine lv_iconst (v := 0) hx hb dX5_make_6 (by decide) ?_
  refine lv_iconst (v := 1) hx hb dX5_make_7 (by decide) ?_
  refine k0v (As := [.int 0, .int 1]) (rest := []) ⟨hx, hb, hml, hown, hts⟩ (c_X5_say l dC dI y a H.size (va_up mI 34 0, mA, mL) 0 1 _ hf) (cwV 2 hts gX5_make_X5_say rfl rfl rfl (by decide +kernel) ⟨Nat.le_of_ble_eq_true rfl, Nat.le_of_ble_eq_true rfl⟩) hK hP hD (va_recv hK.1 hP (ci := 5) (q0 := 0) rfl rfl) hS hA rfl hl.1 rfl (Nat.le_of_ble_eq_true rfl) dX5_make_8 ⟨Nat.zero_le _, Nat.zero_le _⟩ (fun u1 H locs hf hP hD hS => ?_)
  have hP : va_P (dC, dI) vwCl (mdW y a (u1.1, u1.2.1, u1.2.2)) H := hP
  have hD : va_D A (mdW y a (u1.1, u1.2.1, u1.2.2)) := hD
  refine lv_aload_n hx hb dX5_make_11 rfl (lv_at hl 0 rfl) ?_
  refine va_get (D := (dC, dI)) (ci := 5) (v := .ref (a 10)) (C := RX5) (T := TX5) (N := 35) hx hb hts hinX5 hown hK.1 hP 0 rfl rfl 10 (by decide) w31 (fun _ h9 => h9) rfl dX5_make_12 ?_
  refine lv_iload_n hx hb dX5_make_15 rfl (lv_at hl 1 rfl) ?_
  have g2 := hf.1
  replace hf := hf.2
  refine ar_zld (f := (u1.2.1 10)) (j := p0.toNatClampNeg) hx hb hK.1 hP 8 2 rfl rfl rfl g2 dX5_make_16 ?_
  refine lv_if_eq (tgt := 56) hx hb dX5_make_17 (by decide) (fun c3 => ?_) (fun c3 => ?_)
  · replace hf := hf.1 c3
    refine lv_aload_n hx hb dX5_make_56 rfl (lv_at hl 0 rfl) ?_
    refine lv_aload_n hx hb dX5_make_57 rfl (lv_at hl 0 rfl) ?_
    refine va_get (D := (dC, dI)) (ci := 5) (v := .ref (a 11)) (C := RX5) (T := TX5) (N := 35) hx hb hts hinX5 hown hK.1 hP 0 rfl rfl 11 (by decide) w35 (fun _ h9 => h9) rfl dX5_make_58 ?_
    refine lv_iload_n hx hb dX5_make_61 rfl (lv_at hl 1 rfl) ?_
    have g4 := hf.1
    replace hf := hf.2
    refine ar_ild (f := (u1.2.1 11)) (j := p0.toNatClampNeg) hx hb hK.1 hP 9 0 rfl rfl rfl g4 dX5_make_62 ?_
    refine lv_bipush (v := 11) hx hb dX5_make_63 (by decide) ?_
    refine k0v (As := [.int ((u1.2.1 11) p0.toNatClampNeg), .int 11]) (rest := []) ⟨hx, hb, hml, hown, hts⟩ (c_X5_say l dC dI y a H.size (u1.1, u1.2.1, u1.2.2) ((u1.2.1 11) p0.toNatClampNeg) 11 _ hf) (cwV 2 hts gX5_make_X5_say rfl rfl rfl (by decide +kernel) ⟨Nat.le_of_ble_eq_true rfl, Nat.le_of_ble_eq_true rfl⟩) hK hP hD (va_recv hK.1 hP (ci := 5) (q0 := 0) rfl rfl) hS hA rfl hl.1 rfl (Nat.le_of_ble_eq_true rfl) dX5_make_65 ⟨Nat.zero_le _, Nat.zero_le _⟩ (fun u5 H locs hf hP hD hS => ?_)
    have hP : va_P (dC, dI) vwCl (mdW y a (u5.1, u5.2.1, u5.2.2)) H := hP
    have hD : va_D A (mdW y a (u5.1, u5.2.1, u5.2.2)) := hD
    exact j_X5_make_68 C0 a K (u5.1, u5.2.1, u5.2.2) p0 p1 H locs ls hP hD hS (lv_sub hl [0, 1, 2] rfl) hf
  · replace hf := hf.2 c3
    refine lv_aload_n hx hb dX5_make_20 rfl (lv_at hl 0 rfl) ?_
    refine lv_aload_n hx hb dX5_make_21 rfl (lv_at hl 0 rfl) ?_
    refine va_get (D := (dC, dI)) (ci := 5) (v := .ref (a 11)) (C := RX5) (T := TX5) (N := 35) hx hb hts hinX5 hown hK.1 hP 0 rfl rfl 11 (by decide) w35 (fun _ h9 => h9) rfl dX5_make_22 ?_
    refine lv_iload_n hx hb dX5_make_25 rfl (lv_at hl 1 rfl) ?_
    have g42 := hf.1
    replace hf := hf.2
    refine ar_ild (f := (u1.2.1 11)) (j := p0.toNatClampNeg) hx hb hK.1 hP 9 0 rfl rfl rfl g42 dX5_make_26 ?_
    refine lv_bipush (v := 18) hx hb dX5_make_27 (by decide) ?_
    refine lv_ishr hx hb dX5_make_29 ?_
    refine lv_bipush (v := 11) hx hb dX5_make_30 (by decide) ?_
    refine k0v (As := [.int (((u1.2.1 11) p0.toNatClampNeg) >>> (18 &&& 31)), .int 11]) (rest := []) ⟨hx, hb, hml, hown, hts⟩ (c_X5_say l dC dI y a H.size (u1.1, u1.2.1, u1.2.2) (((u1.2.1 11) p0.toNatClampNeg) >>> (18 &&& 31)) 11 _ hf) (cwV 2 hts gX5_make_X5_say rfl rfl rfl (by decide +kernel) ⟨Nat.le_of_ble_eq_true rfl, Nat.le_of_ble_eq_true rfl⟩) hK hP hD (va_recv hK.1 hP (ci := 5) (q0 := 0) rfl rfl) hS hA rfl hl.1 rfl (Nat.le_of_ble_eq_true rfl) dX5_make_32 ⟨Nat.zero_le _, Nat.zero_le _⟩ (fun u43 H locs hf hP hD hS => ?_)
    have hP : va_P (dC, dI) vwCl (mdW y a (u43.1, u43.2.1, u43.2.2)) H := hP
    have hD : va_D A (mdW y a (u43.1, u43.2.1, u43.2.2)) := hD
    refine lv_aload_n hx hb dX5_make_35 rfl (lv_at hl 0 rfl) ?_
    refine lv_iconst (v := 3) hx hb dX5_make_36 (by decide) ?_
    refine lv_iconst (v := 2) hx hb dX5_make_37 (by decide) ?_
    refine k0v (As := [.int 3, .int 2]) (rest := []) ⟨hx, hb, hml, hown, hts⟩ (c_X5_say l dC dI y a H.size (u43.1, u43.2.1, u43.2.2) 3 2 _ hf) (cwV 2 hts gX5_make_X5_say rfl rfl rfl (by decide +kernel) ⟨Nat.le_of_ble_eq_true rfl, Nat.le_of_ble_eq_true rfl⟩) hK hP hD (va_recv hK.1 hP (ci := 5) (q0 := 0) rfl rfl) hS hA rfl hl.1 rfl (Nat.le_of_ble_eq_true rfl) dX5_make_38 ⟨Nat.zero_le _, Nat.zero_le _⟩ (fun u44 H locs hf hP hD hS => ?_)
    have hP : va_P (dC, dI) vwCl (mdW y a (u44.1, u44.2.1, u44.2.2)) H := hP
    have hD : va_D A (mdW y a (u44.1, u44.2.1, u44.2.2)) := hD
    exact j_X5_make_41 C0 a K (u44.1, u44.2.1, u44.2.2) p0 p1 H locs ls hP hD hS (lv_sub hl [0, 1, 2] rfl) hf

def wp_X5_begin_30 (K : ModelS → Prop) : ModelS → Int32 → Prop := fun (mI, mA, mL) v1 => (vp_in v1 5 ∧ K (mI, va_up mA 30 (upd (mA 30) v1.toNatClampNeg 0), mL))
def wp_X5_begin : ModelS → Int32 → (ModelS → Prop) → Prop := fun (mI, mA, mL) p0 K => (vp_in p0 5 ∧ (vp_in p0 5 ∧ (vp_in p0 5 ∧ (vp_in p0 5 ∧ wp_X5_begin_30 K (mI, va_up (va_up (va_up (va_up mA 26 (upd (mA 26) p0.toNatClampNeg 0)) 27 (upd (mA 27) p0.toNatClampNeg 0)) 28 (upd (mA 28) p0.toNatClampNeg 2)) 29 (upd (mA 29) p0.toNatClampNeg 999), mL) p0))))
set_option maxHeartbeats 4000000 in
set_option maxRecDepth 100000 in
theorem j_X5_begin_30 {p : Program} {l : Launch} {e : Env} {s : State} {m : MethodId} {args : Array Value} {below : List Frame} {meth : Method} {c : Code} {dC : Nat → ClassId} {dI : Nat → Nat → Nat} {y : Nat → ClassId} {A : Nat → Prop} (C0 : Cx p s m args meth c cX5_begin 2 none wsX5_begin RX5 A dC dI y) (a : Nat → Nat) (K : ModelS → Prop) : ∀ (S : ModelS) (v1 : Int32) (H : Heap) (locs : List Loc) (ls : Array Slot), va_P (dC, dI) vwCl (mdW y a S) H → va_D A (mdW y a S) → va_S A s.heap H locs → lv_has ls 2 [(0, .ref (a 0)), (1, .int v1)] → wp_X5_begin_30 K S v1 → W p l e ({ frames := 0, cells := 0, slots := 0, locals := 0 } : Room) s m args below meth c H locs 0 0 (MQ below (va_Qv K (BW dC dI A (fun u => mdW y a u)) A) args s 0 0 A) (F0 m 30 ls []) := by
  obtain ⟨hx, hb, hr, hml, hown, hts, hlocks, hA, hK⟩ := id C0
  have w90 := hts (.fieldLink RX5 90 "SharedWireModel" "tail" "[I") (List.mem_of_getElem? (i := 5) rfl)
  have hinX5 : ∀ w ∈ wsX50, w ∈ wsX5_begin := fun w h => List.mem_cons_of_mem _ (List.mem_append_right _ (h))
  intro S v1 H locs ls hP hD hS hl hf
  obtain ⟨mI, mA, mL⟩ := S
  unfold wp_X5_begin_30 at hf
  refine lv_aload_n hx hb dX5_begin_30 rfl (lv_at hl 0 rfl) ?_
  refine va_get (D := (dC, dI)) (ci := 5) (v := .ref (a 30)) (C := RX5) (T := TX5) (N := 35) hx hb hts hinX5 hown hK.1 hP 0 rfl rfl 30 (by decide) w90 (fun _ h9 => h9) rfl dX5_begin_31 ?_
  refine lv_iload_n hx hb dX5_begin_34 rfl (lv_at hl 1 rfl) ?_
  refine lv_iconst (v := 0) hx hb dX5_begin_35 (by decide) ?_
  have g5 := hf.1
  replace hf := hf.2
  refine mst_30 (f := (mA 30)) (x := 0) (j := v1.toNatClampNeg) hx hb hK.1 hP hD hS rfl rfl g5 dX5_begin_36 (fun H locs hP hD hS => ?_)
  exact W.vret hx hb hr (fun t ht hW => ⟨⟨(mI, va_up mA 30 (upd (mA 30) v1.toNatClampNeg 0), mL), rfl, hf, by rw [ht]; exact hP, hD⟩, hS.F ht⟩) hS.2.2 dX5_begin_37
set_option maxHeartbeats 4000000 in
set_option maxRecDepth 100000 in
theorem c_X5_begin (l : Launch) (dC : Nat → ClassId) (dI : Nat → Nat → Nat) (y : Nat → ClassId) (a : Nat → Nat) (sz : Nat) (S : ModelS) (p0 : Int32) (K : ModelS → Prop) (hf : wp_X5_begin S p0 K) : MV l yX5_begin wsX5_begin { frames := 0, cells := 0, slots := 0, locals := 0 } dC dI y [.ref (a 0), .int p0] (mdW y a S) sz (fun u => mdW y a u) K := by
  refine Met.ofW (cc := cX5_begin) (maxL := 2) (ret := none) (by decide) rfl ?_
  intro p e s m args below meth c s₁ B hml hv
  obtain ⟨rfl, hsz, hP, hK, hD0⟩ := hv
  have hx := B.exec
  have hb := B.bytes
  have hr := B.returns
  have hts := atoms_spec (ws := wsX5_begin) B.pre
  have hown : s.vm.findClass RX5 = some m.cls := findClass_of_methodNamed B.named
  have hlocks := B.notSynchronized
  subst hsz
  have hD := hD0.self (sz := s.heap.size)
  generalize hAe : va_A (mdW y a S) s.heap.size = A at hD ⊢
  have hA : ∀ q : Nat, s.heap.size ≤ q → A q := fun q h => by rw [← hAe]; exact Or.inr h
  have hS : va_S A s.heap s.heap [] := va_S.rf
  have C0 : Cx p s m [.ref (a 0), .int p0].toArray meth c cX5_begin 2 none wsX5_begin RX5 A dC dI y := ⟨hx, hb, hr, hml, hown, hts, hlocks, hA, hK⟩
  have w78 := hts (.fieldLink RX5 78 "SharedWireModel" "count" "[I") (List.mem_of_getElem? (i := 1) rfl)
  have w81 := hts (.fieldLink RX5 81 "SharedWireModel" "run" "[I") (List.mem_of_getElem? (i := 2) rfl)
  have w84 := hts (.fieldLink RX5 84 "SharedWireModel" "last" "[I") (List.mem_of_getElem? (i := 3) rfl)
  have w87 := hts (.fieldLink RX5 87 "SharedWireModel" "need" "[I") (List.mem_of_getElem? (i := 4) rfl)
  have hinX5 : ∀ w ∈ wsX50, w ∈ wsX5_begin := fun w h => List.mem_cons_of_mem _ (List.mem_append_right _ (h))
  have hl := lv_entry ([.ref (a 0), .int p0]) (n := 2) (Nat.le_of_ble_eq_true rfl)
  rw [lg_entry_eq]
  generalize (lg_sl ([.ref (a 0), .int p0]) ++ List.replicate (2 - (lg_sl ([.ref (a 0), .int p0])).length) Slot.unset).toArray = ls at hl ⊢
  have hl : lv_has ls 2 [(0, .ref (a 0)), (1, .int p0)] := hl
  obtain ⟨mI, mA, mL⟩ := S
  clear hAe hD0
  generalize hL0 : ([] : List Loc) = locs at hS ⊢
  unfold wp_X5_begin at hf
  refine lv_aload_n hx hb dX5_begin_0 rfl (lv_at hl 0 rfl) ?_
  refine va_get (D := (dC, dI)) (ci := 5) (v := .ref (a 26)) (C := RX5) (T := TX5) (N := 35) hx hb hts hinX5 hown hK.1 hP 0 rfl rfl 26 (by decide) w78 (fun _ h9 => h9) rfl dX5_begin_1 ?_
  refine lv_iload_n hx hb dX5_begin_4 rfl (lv_at hl 1 rfl) ?_
  refine lv_iconst (v := 0) hx hb dX5_begin_5 (by decide) ?_
  have g1 := hf.1
  replace hf := hf.2
  refine mst_26 (f := (mA 26)) (x := 0) (j := p0.toNatClampNeg) hx hb hK.1 hP hD hS rfl rfl g1 dX5_begin_6 (fun H locs hP hD hS => ?_)
  refine lv_aload_n hx hb dX5_begin_7 rfl (lv_at hl 0 rfl) ?_
  refine va_get (D := (dC, dI)) (ci := 5) (v := .ref (a 27)) (C := RX5) (T := TX5) (N := 35) hx hb hts hinX5 hown hK.1 hP 0 rfl rfl 27 (by decide) w81 (fun _ h9 => h9) rfl dX5_begin_8 ?_
  refine lv_iload_n hx hb dX5_begin_11 rfl (lv_at hl 1 rfl) ?_
  refine lv_iconst (v := 0) hx hb dX5_begin_12 (by decide) ?_
  have g2 := hf.1
  replace hf := hf.2
  refine mst_27 (f := (mA 27)) (x := 0) (j := p0.toNatClampNeg) hx hb hK.1 hP hD hS rfl rfl g2 dX5_begin_13 (fun H locs hP hD hS => ?_)
  refine lv_aload_n hx hb dX5_begin_14 rfl (lv_at hl 0 rfl) ?_
  refine va_get (D := (dC, dI)) (ci := 5) (v := .ref (a 28)) (C := RX5) (T := TX5) (N := 35) hx hb hts hinX5 hown hK.1 hP 0 rfl rfl 28 (by decide) w84 (fun _ h9 => h9) rfl dX5_begin_15 ?_
  refine lv_iload_n hx hb dX5_begin_18 rfl (lv_at hl 1 rfl) ?_
  refine lv_iconst (v := 2) hx hb dX5_begin_19 (by decide) ?_
  have g3 := hf.1
  replace hf := hf.2
  refine mst_28 (f := (mA 28)) (x := 2) (j := p0.toNatClampNeg) hx hb hK.1 hP hD hS rfl rfl g3 dX5_begin_20 (fun H locs hP hD hS => ?_)
  refine lv_aload_n hx hb dX5_begin_21 rfl (lv_at hl 0 rfl) ?_
  refine va_get (D := (dC, dI)) (ci := 5) (v := .ref (a 29)) (C := RX5) (T := TX5) (N := 35) hx hb hts hinX5 hown hK.1 hP 0 rfl rfl 29 (by decide) w87 (fun _ h9 => h9) rfl dX5_begin_22 ?_
  refine lv_iload_n hx hb dX5_begin_25 rfl (lv_at hl 1 rfl) ?_
  refine lv_sipush (v := 999) hx hb dX5_begin_26 (by decide) ?_
  have g4 := hf.1
  replace hf := hf.2
  refine mst_29 (f := (mA 29)) (x := 999) (j := p0.toNatClampNeg) hx hb hK.1 hP hD hS rfl rfl g4 dX5_begin_29 (fun H locs hP hD hS => ?_)
  exact j_X5_begin_30 C0 a K (mI, va_up (va_up (va_up (va_up mA 26 (upd (mA 26) p0.toNatClampNeg 0)) 27 (upd (mA 27) p0.toNatClampNeg 0)) 28 (upd (mA 28) p0.toNatClampNeg 2)) 29 (upd (mA 29) p0.toNatClampNeg 999), mL) p0 H locs ls hP hD hS (lv_sub hl [0, 1] rfl) hf

def wp_X5_isLong : ModelS → Int32 → (Int32 → Prop) → Prop := fun (mI, mA, mL) p0 K => (vp_in ((128 * p0) + 13) 640 ∧ ((¬ (mA 25) (((128 * p0) + 13).toNatClampNeg) = 1 → K 0) ∧ ((mA 25) (((128 * p0) + 13).toNatClampNeg) = 1 → K 1)))
set_option maxHeartbeats 4000000 in
set_option maxRecDepth 100000 in
theorem c_X5_isLong (l : Launch) (dC : Nat → ClassId) (dI : Nat → Nat → Nat) (y : Nat → ClassId) (a : Nat → Nat) (sz : Nat) (S : ModelS) (p0 : Int32) (K : Int32 → Prop) (hf : wp_X5_isLong S p0 K) : MI l yX5_isLong wsX5_isLong { frames := 0, cells := 0, slots := 0, locals := 0 } dC dI y [.ref (a 0), .int p0] (mdW y a S) sz (fun u => mdW y a u) (fun r u => K r ∧ u = S) := by
  refine Met.ofW (cc := cX5_isLong) (maxL := 2) (ret := (some .boolean)) (by decide) rfl ?_
  intro p e s m args below meth c s₁ B hml hv
  obtain ⟨rfl, hsz, hP, hK, hD0⟩ := hv
  have hx := B.exec
  have hb := B.bytes
  have hr := B.returns
  have hts := atoms_spec (ws := wsX5_isLong) B.pre
  have hown : s.vm.findClass RX5 = some m.cls := findClass_of_methodNamed B.named
  have hlocks := B.notSynchronized
  subst hsz
  have hD := hD0.self (sz := s.heap.size)
  generalize hAe : va_A (mdW y a S) s.heap.size = A at hD ⊢
  have hA : ∀ q : Nat, s.heap.size ≤ q → A q := fun q h => by rw [← hAe]; exact Or.inr h
  have hS : va_S A s.heap s.heap [] := va_S.rf
  have C0 : Cx p s m [.ref (a 0), .int p0].toArray meth c cX5_isLong 2 (some .boolean) wsX5_isLong RX5 A dC dI y := ⟨hx, hb, hr, hml, hown, hts, hlocks, hA, hK⟩
  have w75 := hts (.fieldLink RX5 75 "SharedWireModel" "bits" "[I") (List.mem_of_getElem? (i := 1) rfl)
  have hinX5 : ∀ w ∈ wsX50, w ∈ wsX5_isLong := fun w h => List.mem_cons_of_mem _ (List.mem_append_right _ (h))
  have hl := lv_entry ([.ref (a 0), .int p0]) (n := 2) (Nat.le_of_ble_eq_true rfl)
  rw [lg_entry_eq]
  generalize (lg_sl ([.ref (a 0), .int p0]) ++ List.replicate (2 - (lg_sl ([.ref (a 0), .int p0])).length) Slot.unset).toArray = ls at hl ⊢
  have hl : lv_has ls 2 [(0, .ref (a 0)), (1, .int p0)] := hl
  obtain ⟨mI, mA, mL⟩ := S
  have hSS : (mI, mA, mL) = (mI, mA, mL) := rfl
  clear hAe hD0
  generalize hL0 : ([] : List Loc) = locs at hS ⊢
  unfold wp_X5_isLong at hf
  refine lv_aload_n hx hb dX5_isLong_0 rfl (lv_at hl 0 rfl) ?_
  refine va_get (D := (dC, dI)) (ci := 5) (v := .ref (a 25)) (C := RX5) (T := TX5) (N := 35) hx hb hts hinX5 hown hK.1 hP 0 rfl rfl 25 (by decide) w75 (fun _ h9 => h9) rfl dX5_isLong_1 ?_
  refine lv_sipush (v := 128) hx hb dX5_isLong_4 (by decide) ?_
  refine lv_iload_n hx hb dX5_isLong_7 rfl (lv_at hl 1 rfl) ?_
  refine lv_imul hx hb dX5_isLong_8 ?_
  refine lv_bipush (v := 13) hx hb dX5_isLong_9 (by decide) ?_
  refine lv_iadd hx hb dX5_isLong_11 ?_
  have g1 := hf.1
  replace hf := hf.2
  refine ar_ild (f := (mA 25)) (j := ((128 * p0) + 13).toNatClampNeg) hx hb hK.1 hP 22 0 rfl rfl rfl g1 dX5_isLong_12 ?_
  refine lv_iconst (v := 1) hx hb dX5_isLong_13 (by decide) ?_
  refine lv_icmp_ne (tgt := 21) hx hb dX5_isLong_14 (by decide) (fun c2 => ?_) (fun c2 => ?_)
  · replace hf := hf.1 c2
    refine lv_iconst (v := 0) hx hb dX5_isLong_21 (by decide) ?_
    exact W.zret (v := 0) (ty := .boolean) hx hb hr rfl (fun t ht hW => ⟨⟨0, (mI, mA, mL), rfl, ⟨hf, hSS⟩, by rw [ht]; exact hP, hD⟩, hS.F ht⟩) hS.2.2 dX5_isLong_22
  · replace hf := hf.2 c2
    refine lv_iconst (v := 1) hx hb dX5_isLong_17 (by decide) ?_
    refine lv_goto (tgt := 22) hx hb dX5_isLong_18 (by decide) ?_
    exact W.zret (v := 1) (ty := .boolean) hx hb hr rfl (fun t ht hW => ⟨⟨1, (mI, mA, mL), rfl, ⟨hf, hSS⟩, by rw [ht]; exact hP, hD⟩, hS.F ht⟩) hS.2.2 dX5_isLong_22

def wp_X5_number_6 (K : Int32 → Prop) : Nat → ModelS → Int32 → Int32 → Int32 → Int32 → Int32 → Prop
  | 0, _, _, _, _, _, _ => False
  | n + 1, (mI, mA, mL), v1, v2, v3, v4, v5 => ((v3 ≤ v5 → K v4) ∧ (¬ v3 ≤ v5 → (vp_in (((128 * v1) + v2) + v5) 640 ∧ (∀ n3 : Int32, n3 = (2 * v4) + ((mA 25) ((((128 * v1) + v2) + v5).toNatClampNeg)) → (∀ n4 : Int32, n4 = v5 + 1 → wp_X5_number_6 K n (mI, mA, mL) v1 v2 v3 n3 n4)))))
def wp_X5_number : ModelS → Int32 → Int32 → Int32 → (Int32 → Prop) → Prop := fun (mI, mA, mL) p0 p1 p2 K => wp_X5_number_6 K 1000 (mI, mA, mL) p0 p1 p2 0 0
set_option maxHeartbeats 4000000 in
set_option maxRecDepth 100000 in
theorem j_X5_number_6 {p : Program} {l : Launch} {e : Env} {s : State} {m : MethodId} {args : Array Value} {below : List Frame} {meth : Method} {c : Code} {dC : Nat → ClassId} {dI : Nat → Nat → Nat} {y : Nat → ClassId} {A : Nat → Prop} (C0 : Cx p s m args meth c cX5_number 6 (some .int) wsX5_number RX5 A dC dI y) (a : Nat → Nat) (K : Int32 → Prop) (S0 : ModelS) : ∀ n : Nat, ∀ (S : ModelS) (v1 : Int32) (v2 : Int32) (v3 : Int32) (v4 : Int32) (v5 : Int32) (H : Heap) (locs : List Loc) (ls : Array Slot), va_P (dC, dI) vwCl (mdW y a S) H → va_D A (mdW y a S) → va_S A s.heap H locs → lv_has ls 6 [(0, .ref (a 0)), (1, .int v1), (2, .int v2), (3, .int v3), (4, .int v4), (5, .int v5)] → S = S0 → wp_X5_number_6 K n S v1 v2 v3 v4 v5 → W p l e ({ frames := 0, cells := 0, slots := 0, locals := 0 } : Room) s m args below meth c H locs 0 0 (MQ below (va_Qi (fun r u => K r ∧ u = S0) (BW dC dI A (fun u => mdW y a u)) A) args s 0 0 A) (F0 m 6 ls []) := by
  obtain ⟨hx, hb, hr, hml, hown, hts, hlocks, hA, hK⟩ := id C0
  have w75 := hts (.fieldLink RX5 75 "SharedWireModel" "bits" "[I") (List.mem_of_getElem? (i := 1) rfl)
  have hinX5 : ∀ w ∈ wsX50, w ∈ wsX5_number := fun w h => List.mem_cons_of_mem _ (List.mem_append_right _ (h))
  intro n
  induction n with
  | zero =>
    intro S v1 v2 v3 v4 v5 H locs ls hP hD hS hl hSS hf
    exact False.elim (by unfold wp_X5_number_6 at hf; exact hf)
  | succ n ih =>
    intro S v1 v2 v3 v4 v5 H locs ls hP hD hS hl hSS hf
    obtain ⟨mI, mA, mL⟩ := S
    unfold wp_X5_number_6 at hf
    refine lv_iload hx hb dX5_number_6 (lv_at hl 5 rfl) ?_
    refine lv_iload_n hx hb dX5_number_8 rfl (lv_at hl 3 rfl) ?_
    refine lv_icmp_ge (tgt := 40) hx hb dX5_number_9 (by decide) (fun c1 => ?_) (fun c1 => ?_)
    · replace hf := hf.1 c1
      refine lv_iload hx hb dX5_number_40 (lv_at hl 4 rfl) ?_
      exact W.iret (v := v4) hx hb hr (fun t ht hW => ⟨⟨v4, (mI, mA, mL), rfl, ⟨hf, hSS⟩, by rw [ht]; exact hP, hD⟩, hS.F ht⟩) hS.2.2 dX5_number_42
    · replace hf := hf.2 c1
      refine lv_iconst (v := 2) hx hb dX5_number_12 (by decide) ?_
      refine lv_iload hx hb dX5_number_13 (lv_at hl 4 rfl) ?_
      refine lv_imul hx hb dX5_number_15 ?_
      refine lv_aload_n hx hb dX5_number_16 rfl (lv_at hl 0 rfl) ?_
      refine va_get (D := (dC, dI)) (ci := 5) (v := .ref (a 25)) (C := RX5) (T := TX5) (N := 35) hx hb hts hinX5 hown hK.1 hP 0 rfl rfl 25 (by decide) w75 (fun _ h9 => h9) rfl dX5_number_17 ?_
      refine lv_sipush (v := 128) hx hb dX5_number_20 (by decide) ?_
      refine lv_iload_n hx hb dX5_number_23 rfl (lv_at hl 1 rfl) ?_
      refine lv_imul hx hb dX5_number_24 ?_
      refine lv_iload_n hx hb dX5_number_25 rfl (lv_at hl 2 rfl) ?_
      refine lv_iadd hx hb dX5_number_26 ?_
      refine lv_iload hx hb dX5_number_27 (lv_at hl 5 rfl) ?_
      refine lv_iadd hx hb dX5_number_29 ?_
      have g2 := hf.1
      replace hf := hf.2
      refine ar_ild (f := (mA 25)) (j := (((128 * v1) + v2) + v5).toNatClampNeg) hx hb hK.1 hP 22 0 rfl rfl rfl g2 dX5_number_30 ?_
      refine lv_iadd hx hb dX5_number_31 ?_
      refine lv_topi (fun n3 en3 => ?_)
      replace hf := hf n3 en3
      refine lv_istore (lv' := [(4, .int n3), (0, .ref (a 0)), (1, .int v1), (2, .int v2), (3, .int v3), (5, .int v5)]) hx hb dX5_number_32 hl (by decide) rfl (fun ls hl => ?_)
      obtain ⟨n4, en4⟩ : ∃ z : Int32, z = v5 + 1 := ⟨_, rfl⟩
      replace hf := hf n4 en4
      refine lv_iinc (v := n4) (lv' := [(5, .int n4), (4, .int n3), (0, .ref (a 0)), (1, .int v1), (2, .int v2), (3, .int v3)]) hx hb dX5_number_34 hl (k := 5) rfl (by rw [en4]; rfl) (by decide) rfl (fun ls hl => ?_)
      refine lv_goto (tgt := 6) hx hb dX5_number_37 (by decide) ?_
      exact ih (mI, mA, mL) v1 v2 v3 n3 n4 H locs ls hP hD hS (lv_sub hl [2, 3, 4, 5, 1, 0] rfl) hSS hf
set_option maxHeartbeats 4000000 in
set_option maxRecDepth 100000 in
theorem c_X5_number (l : Launch) (dC : Nat → ClassId) (dI : Nat → Nat → Nat) (y : Nat → ClassId) (a : Nat → Nat) (sz : Nat) (S : ModelS) (p0 : Int32) (p1 : Int32) (p2 : Int32) (K : Int32 → Prop) (hf : wp_X5_number S p0 p1 p2 K) : MI l yX5_number wsX5_number { frames := 0, cells := 0, slots := 0, locals := 0 } dC dI y [.ref (a 0), .int p0, .int p1, .int p2] (mdW y a S) sz (fun u => mdW y a u) (fun r u => K r ∧ u = S) := by
  refine Met.ofW (cc := cX5_number) (maxL := 6) (ret := (some .int)) (by decide) rfl ?_
  intro p e s m args below meth c s₁ B hml hv
  obtain ⟨rfl, hsz, hP, hK, hD0⟩ := hv
  have hx := B.exec
  have hb := B.bytes
  have hr := B.returns
  have hts := atoms_spec (ws := wsX5_number) B.pre
  have hown : s.vm.findClass RX5 = some m.cls := findClass_of_methodNamed B.named
  have hlocks := B.notSynchronized
  subst hsz
  have hD := hD0.self (sz := s.heap.size)
  generalize hAe : va_A (mdW y a S) s.heap.size = A at hD ⊢
  have hA : ∀ q : Nat, s.heap.size ≤ q → A q := fun q h => by rw [← hAe]; exact Or.inr h
  have hS : va_S A s.heap s.heap [] := va_S.rf
  have C0 : Cx p s m [.ref (a 0), .int p0, .int p1, .int p2].toArray meth c cX5_number 6 (some .int) wsX5_number RX5 A dC dI y := ⟨hx, hb, hr, hml, hown, hts, hlocks, hA, hK⟩
  have hl := lv_entry ([.ref (a 0), .int p0, .int p1, .int p2]) (n := 6) (Nat.le_of_ble_eq_true rfl)
  rw [lg_entry_eq]
  generalize (lg_sl ([.ref (a 0), .int p0, .int p1, .int p2]) ++ List.replicate (6 - (lg_sl ([.ref (a 0), .int p0, .int p1, .int p2])).length) Slot.unset).toArray = ls at hl ⊢
  have hl : lv_has ls 6 [(0, .ref (a 0)), (1, .int p0), (2, .int p1), (3, .int p2)] := hl
  obtain ⟨mI, mA, mL⟩ := S
  have hSS : (mI, mA, mL) = (mI, mA, mL) := rfl
  clear hAe hD0
  generalize hL0 : ([] : List Loc) = locs at hS ⊢
  unfold wp_X5_number at hf
  refine lv_iconst (v := 0) hx hb dX5_number_0 (by decide) ?_
  refine lv_istore (lv' := [(4, .int 0), (0, .ref (a 0)), (1, .int p0), (2, .int p1), (3, .int p2)]) hx hb dX5_number_1 hl (by decide) rfl (fun ls hl => ?_)
  refine lv_iconst (v := 0) hx hb dX5_number_3 (by decide) ?_
  refine lv_istore (lv' := [(5, .int 0), (4, .int 0), (0, .ref (a 0)), (1, .int p0), (2, .int p1), (3, .int p2)]) hx hb dX5_number_4 hl (by decide) rfl (fun ls hl => ?_)
  exact j_X5_number_6 C0 a K _ 1000 (mI, mA, mL) p0 p1 p2 0 0 s.heap locs ls hP hD hS (lv_sub hl [2, 3, 4, 5, 1, 0] rfl) hSS hf

def wp_X5_bytesOf_17 (K : Int32 → Prop) : ModelS → Int32 → Int32 → Prop := fun (mI, mA, mL) k0 k1 => wp_X5_number (mI, mA, mL) k1 k0 4 (fun r4 => ((r4 ≤ 8 → K r4) ∧ (¬ r4 ≤ 8 → K 8)))
def wp_X5_bytesOf : ModelS → Int32 → (Int32 → Prop) → Prop := fun (mI, mA, mL) p0 K => wp_X5_isLong (mI, mA, mL) p0 (fun r1 => ((r1 = 0 → wp_X5_bytesOf_17 K (mI, mA, mL) 15 p0) ∧ (¬ r1 = 0 → wp_X5_bytesOf_17 K (mI, mA, mL) 35 p0)))
set_option maxHeartbeats 4000000 in
set_option maxRecDepth 100000 in
theorem j_X5_bytesOf_17 {p : Program} {l : Launch} {e : Env} {s : State} {m : MethodId} {args : Array Value} {below : List Frame} {meth : Method} {c : Code} {dC : Nat → ClassId} {dI : Nat → Nat → Nat} {y : Nat → ClassId} {A : Nat → Prop} (C0 : Cx p s m args meth c cX5_bytesOf 3 (some .int) wsX5_bytesOf RX5 A dC dI y) (a : Nat → Nat) (K : Int32 → Prop) (S0 : ModelS) : ∀ (S : ModelS) (k0 : Int32) (k1 : Int32) (H : Heap) (locs : List Loc) (ls : Array Slot), va_P (dC, dI) vwCl (mdW y a S) H → va_D A (mdW y a S) → va_S A s.heap H locs → lv_has ls 3 [] → S = S0 → wp_X5_bytesOf_17 K S k0 k1 → W p l e ({ frames := 1, cells := 0, slots := 0, locals := 25 } : Room) s m args below meth c H locs 0 0 (MQ below (va_Qi (fun r u => K r ∧ u = S0) (BW dC dI A (fun u => mdW y a u)) A) args s 0 0 A) (F0 m 17 ls [.int k0, .int k1, .ref (a 0)]) := by
  obtain ⟨hx, hb, hr, hml, hown, hts, hlocks, hA, hK⟩ := id C0
  intro S k0 k1 H locs ls hP hD hS hl hSS hf
  obtain ⟨mI, mA, mL⟩ := S
  unfold wp_X5_bytesOf_17 at hf
  refine lv_iconst (v := 4) hx hb dX5_bytesOf_17 (by decide) ?_
  refine k0i (As := [.int k1, .int k0, .int 4]) (rest := []) ⟨hx, hb, hml, hown, hts⟩ (c_X5_number l dC dI y a H.size (mI, mA, mL) k1 k0 4 _ hf) (cwV 3 hts gX5_bytesOf_X5_number rfl rfl rfl (by decide +kernel) ⟨Nat.le_of_ble_eq_true rfl, Nat.le_of_ble_eq_true rfl⟩) hK hP hD (va_recv hK.1 hP (ci := 5) (q0 := 0) rfl rfl) hS hA rfl hl.1 rfl (Nat.le_of_ble_eq_true rfl) dX5_bytesOf_18 ⟨Nat.zero_le _, Nat.zero_le _⟩ (fun r4 u5 H locs hf hP hD hS => ?_)
  obtain ⟨hf, e9⟩ := hf
  have e9 := e9.symm
  subst e9
  have hP : va_P (dC, dI) vwCl (mdW y a (mI, mA, mL)) H := hP
  have hD : va_D A (mdW y a (mI, mA, mL)) := hD
  refine lv_istore_n (lv' := [(2, .int r4)]) hx hb dX5_bytesOf_21 rfl hl (by decide) rfl (fun ls hl => ?_)
  refine lv_iload_n hx hb dX5_bytesOf_22 rfl (lv_at hl 0 rfl) ?_
  refine lv_bipush (v := 8) hx hb dX5_bytesOf_23 (by decide) ?_
  refine lv_icmp_le (tgt := 33) hx hb dX5_bytesOf_25 (by decide) (fun c6 => ?_) (fun c6 => ?_)
  · replace hf := hf.1 c6
    refine lv_iload_n hx hb dX5_bytesOf_33 rfl (lv_at hl 0 rfl) ?_
    exact W.iret (v := r4) hx hb hr (fun t ht hW => ⟨⟨r4, (mI, mA, mL), rfl, ⟨hf, hSS⟩, by rw [ht]; exact hP, hD⟩, hS.F ht⟩) hS.2.2 dX5_bytesOf_34
  · replace hf := hf.2 c6
    refine lv_bipush (v := 8) hx hb dX5_bytesOf_28 (by decide) ?_
    refine lv_goto (tgt := 34) hx hb dX5_bytesOf_30 (by decide) ?_
    exact W.iret (v := 8) hx hb hr (fun t ht hW => ⟨⟨8, (mI, mA, mL), rfl, ⟨hf, hSS⟩, by rw [ht]; exact hP, hD⟩, hS.F ht⟩) hS.2.2 dX5_bytesOf_34
set_option maxHeartbeats 4000000 in
set_option maxRecDepth 100000 in
theorem c_X5_bytesOf (l : Launch) (dC : Nat → ClassId) (dI : Nat → Nat → Nat) (y : Nat → ClassId) (a : Nat → Nat) (sz : Nat) (S : ModelS) (p0 : Int32) (K : Int32 → Prop) (hf : wp_X5_bytesOf S p0 K) : MI l yX5_bytesOf wsX5_bytesOf { frames := 1, cells := 0, slots := 0, locals := 25 } dC dI y [.ref (a 0), .int p0] (mdW y a S) sz (fun u => mdW y a u) (fun r u => K r ∧ u = S) := by
  refine Met.ofW (cc := cX5_bytesOf) (maxL := 3) (ret := (some .int)) (by decide) rfl ?_
  intro p e s m args below meth c s₁ B hml hv
  obtain ⟨rfl, hsz, hP, hK, hD0⟩ := hv
  have hx := B.exec
  have hb := B.bytes
  have hr := B.returns
  have hts := atoms_spec (ws := wsX5_bytesOf) B.pre
  have hown : s.vm.findClass RX5 = some m.cls := findClass_of_methodNamed B.named
  have hlocks := B.notSynchronized
  subst hsz
  have hD := hD0.self (sz := s.heap.size)
  generalize hAe : va_A (mdW y a S) s.heap.size = A at hD ⊢
  have hA : ∀ q : Nat, s.heap.size ≤ q → A q := fun q h => by rw [← hAe]; exact Or.inr h
  have hS : va_S A s.heap s.heap [] := va_S.rf
  have C0 : Cx p s m [.ref (a 0), .int p0].toArray meth c cX5_bytesOf 3 (some .int) wsX5_bytesOf RX5 A dC dI y := ⟨hx, hb, hr, hml, hown, hts, hlocks, hA, hK⟩
  have hl := lv_entry ([.ref (a 0), .int p0]) (n := 3) (Nat.le_of_ble_eq_true rfl)
  rw [lg_entry_eq]
  generalize (lg_sl ([.ref (a 0), .int p0]) ++ List.replicate (3 - (lg_sl ([.ref (a 0), .int p0])).length) Slot.unset).toArray = ls at hl ⊢
  have hl : lv_has ls 3 [(0, .ref (a 0)), (1, .int p0)] := hl
  obtain ⟨mI, mA, mL⟩ := S
  have hSS : (mI, mA, mL) = (mI, mA, mL) := rfl
  clear hAe hD0
  generalize hL0 : ([] : List Loc) = locs at hS ⊢
  unfold wp_X5_bytesOf at hf
  refine lv_aload_n hx hb dX5_bytesOf_0 rfl (lv_at hl 0 rfl) ?_
  refine lv_iload_n hx hb dX5_bytesOf_1 rfl (lv_at hl 1 rfl) ?_
  refine lv_aload_n hx hb dX5_bytesOf_2 rfl (lv_at hl 0 rfl) ?_
  refine lv_iload_n hx hb dX5_bytesOf_3 rfl (lv_at hl 1 rfl) ?_
  refine k0i (As := [.int p0]) (rest := [.int p0, .ref (a 0)]) ⟨hx, hb, hml, hown, hts⟩ (c_X5_isLong l dC dI y a s.heap.size (mI, mA, mL) p0 _ hf) (cwV 1 hts gX5_bytesOf_X5_isLong rfl rfl rfl (by decide +kernel) ⟨Nat.le_of_ble_eq_true rfl, Nat.le_of_ble_eq_true rfl⟩) hK hP hD (va_recv hK.1 hP (ci := 5) (q0 := 0) rfl rfl) hS hA rfl hl.1 rfl (Nat.le_of_ble_eq_true rfl) dX5_bytesOf_4 ⟨Nat.zero_le _, Nat.zero_le _⟩ (fun r1 u2 H locs hf hP hD hS => ?_)
  obtain ⟨hf, e9⟩ := hf
  have e9 := e9.symm
  subst e9
  have hP : va_P (dC, dI) vwCl (mdW y a (mI, mA, mL)) H := hP
  have hD : va_D A (mdW y a (mI, mA, mL)) := hD
  refine lv_if_eq (tgt := 15) hx hb dX5_bytesOf_7 (by decide) (fun c3 => ?_) (fun c3 => ?_)
  · replace hf := hf.1 c3
    refine lv_bipush (v := 15) hx hb dX5_bytesOf_15 (by decide) ?_
    exact j_X5_bytesOf_17 C0 a K _ (mI, mA, mL) 15 p0 H locs ls hP hD hS (lv_sub hl [] rfl) hSS hf
  · replace hf := hf.2 c3
    refine lv_bipush (v := 35) hx hb dX5_bytesOf_10 (by decide) ?_
    refine lv_goto (tgt := 17) hx hb dX5_bytesOf_12 (by decide) ?_
    exact j_X5_bytesOf_17 C0 a K _ (mI, mA, mL) 35 p0 H locs ls hP hD hS (lv_sub hl [] rfl) hSS hf

def wp_X5_isRight_4 (K : Int32 → Prop) : Nat → ModelS → Int32 → Int32 → Int32 → Prop
  | 0, _, _, _, _ => False
  | n + 1, (mI, mA, mL), v1, v2, v3 => (vp_in v1 5 ∧ ((((mA 29) v1.toNatClampNeg) - 15 ≤ v3 → (vp_in v1 5 ∧ wp_X5_number (mI, mA, mL) v1 (((mA 29) v1.toNatClampNeg) - 15) 15 (fun r4 => ((¬ v2 = r4 → K 0) ∧ (v2 = r4 → K 1))))) ∧ (¬ ((mA 29) v1.toNatClampNeg) - 15 ≤ v3 → (vp_in ((128 * v1) + v3) 640 ∧ wp_X5_nextCheck v2 ((mA 25) (((128 * v1) + v3).toNatClampNeg)) (fun r8 => (∀ n9 : Int32, n9 = v3 + 1 → wp_X5_isRight_4 K n (mI, mA, mL) v1 r8 n9))))))
def wp_X5_isRight : ModelS → Int32 → (Int32 → Prop) → Prop := fun (mI, mA, mL) p0 K => wp_X5_isRight_4 K 1000 (mI, mA, mL) p0 0 0
set_option maxHeartbeats 4000000 in
set_option maxRecDepth 100000 in
theorem j_X5_isRight_4 {p : Program} {l : Launch} {e : Env} {s : State} {m : MethodId} {args : Array Value} {below : List Frame} {meth : Method} {c : Code} {dC : Nat → ClassId} {dI : Nat → Nat → Nat} {y : Nat → ClassId} {A : Nat → Prop} (C0 : Cx p s m args meth c cX5_isRight 4 (some .boolean) wsX5_isRight RX5 A dC dI y) (a : Nat → Nat) (K : Int32 → Prop) (S0 : ModelS) : ∀ n : Nat, ∀ (S : ModelS) (v1 : Int32) (v2 : Int32) (v3 : Int32) (H : Heap) (locs : List Loc) (ls : Array Slot), va_P (dC, dI) vwCl (mdW y a S) H → va_D A (mdW y a S) → va_S A s.heap H locs → lv_has ls 4 [(0, .ref (a 0)), (1, .int v1), (2, .int v2), (3, .int v3)] → S = S0 → wp_X5_isRight_4 K n S v1 v2 v3 → W p l e ({ frames := 1, cells := 0, slots := 0, locals := 25 } : Room) s m args below meth c H locs 0 0 (MQ below (va_Qi (fun r u => K r ∧ u = S0) (BW dC dI A (fun u => mdW y a u)) A) args s 0 0 A) (F0 m 4 ls []) := by
  obtain ⟨hx, hb, hr, hml, hown, hts, hlocks, hA, hK⟩ := id C0
  have w75 := hts (.fieldLink RX5 75 "SharedWireModel" "bits" "[I") (List.mem_of_getElem? (i := 2) rfl)
  have w87 := hts (.fieldLink RX5 87 "SharedWireModel" "need" "[I") (List.mem_of_getElem? (i := 1) rfl)
  have hinX5 : ∀ w ∈ wsX50, w ∈ wsX5_isRight := fun w h => List.mem_cons_of_mem _ (List.mem_append_right _ (h))
  intro n
  induction n with
  | zero =>
    intro S v1 v2 v3 H locs ls hP hD hS hl hSS hf
    exact False.elim (by unfold wp_X5_isRight_4 at hf; exact hf)
  | succ n ih =>
    intro S v1 v2 v3 H locs ls hP hD hS hl hSS hf
    obtain ⟨mI, mA, mL⟩ := S
    unfold wp_X5_isRight_4 at hf
    refine lv_iload_n hx hb dX5_isRight_4 rfl (lv_at hl 3 rfl) ?_
    refine lv_aload_n hx hb dX5_isRight_5 rfl (lv_at hl 0 rfl) ?_
    refine va_get (D := (dC, dI)) (ci := 5) (v := .ref (a 29)) (C := RX5) (T := TX5) (N := 35) hx hb hts hinX5 hown hK.1 hP 0 rfl rfl 29 (by decide) w87 (fun _ h9 => h9) rfl dX5_isRight_6 ?_
    refine lv_iload_n hx hb dX5_isRight_9 rfl (lv_at hl 1 rfl) ?_
    have g1 := hf.1
    replace hf := hf.2
    refine ar_ild (f := (mA 29)) (j := v1.toNatClampNeg) hx hb hK.1 hP 26 0 rfl rfl rfl g1 dX5_isRight_10 ?_
    refine lv_bipush (v := 15) hx hb dX5_isRight_11 (by decide) ?_
    refine lv_isub hx hb dX5_isRight_13 ?_
    refine lv_icmp_ge (tgt := 40) hx hb dX5_isRight_14 (by decide) (fun c2 => ?_) (fun c2 => ?_)
    · replace hf := hf.1 c2
      refine lv_iload_n hx hb dX5_isRight_40 rfl (lv_at hl 2 rfl) ?_
      refine lv_aload_n hx hb dX5_isRight_41 rfl (lv_at hl 0 rfl) ?_
      refine lv_iload_n hx hb dX5_isRight_42 rfl (lv_at hl 1 rfl) ?_
      refine lv_aload_n hx hb dX5_isRight_43 rfl (lv_at hl 0 rfl) ?_
      refine va_get (D := (dC, dI)) (ci := 5) (v := .ref (a 29)) (C := RX5) (T := TX5) (N := 35) hx hb hts hinX5 hown hK.1 hP 0 rfl rfl 29 (by decide) w87 (fun _ h9 => h9) rfl dX5_isRight_44 ?_
      refine lv_iload_n hx hb dX5_isRight_47 rfl (lv_at hl 1 rfl) ?_
      have g3 := hf.1
      replace hf := hf.2
      refine ar_ild (f := (mA 29)) (j := v1.toNatClampNeg) hx hb hK.1 hP 26 0 rfl rfl rfl g3 dX5_isRight_48 ?_
      refine lv_bipush (v := 15) hx hb dX5_isRight_49 (by decide) ?_
      refine lv_isub hx hb dX5_isRight_51 ?_
      refine lv_bipush (v := 15) hx hb dX5_isRight_52 (by decide) ?_
      refine k0i (As := [.int v1, .int (((mA 29) v1.toNatClampNeg) - 15), .int 15]) (rest := [.int v2]) ⟨hx, hb, hml, hown, hts⟩ (c_X5_number l dC dI y a H.size (mI, mA, mL) v1 (((mA 29) v1.toNatClampNeg) - 15) 15 _ hf) (cwV 3 hts gX5_isRight_X5_number rfl rfl rfl (by decide +kernel) ⟨Nat.le_of_ble_eq_true rfl, Nat.le_of_ble_eq_true rfl⟩) hK hP hD (va_recv hK.1 hP (ci := 5) (q0 := 0) rfl rfl) hS hA rfl hl.1 rfl (Nat.le_of_ble_eq_true rfl) dX5_isRight_54 ⟨Nat.zero_le _, Nat.zero_le _⟩ (fun r4 u5 H locs hf hP hD hS => ?_)
      obtain ⟨hf, e9⟩ := hf
      have e9 := e9.symm
      subst e9
      have hP : va_P (dC, dI) vwCl (mdW y a (mI, mA, mL)) H := hP
      have hD : va_D A (mdW y a (mI, mA, mL)) := hD
      refine lv_icmp_ne (tgt := 64) hx hb dX5_isRight_57 (by decide) (fun c6 => ?_) (fun c6 => ?_)
      · replace hf := hf.1 c6
        refine lv_iconst (v := 0) hx hb dX5_isRight_64 (by decide) ?_
        exact W.zret (v := 0) (ty := .boolean) hx hb hr rfl (fun t ht hW => ⟨⟨0, (mI, mA, mL), rfl, ⟨hf, hSS⟩, by rw [ht]; exact hP, hD⟩, hS.F ht⟩) hS.2.2 dX5_isRight_65
      · replace hf := hf.2 c6
        refine lv_iconst (v := 1) hx hb dX5_isRight_60 (by decide) ?_
        refine lv_goto (tgt := 65) hx hb dX5_isRight_61 (by decide) ?_
        exact W.zret (v := 1) (ty := .boolean) hx hb hr rfl (fun t ht hW => ⟨⟨1, (mI, mA, mL), rfl, ⟨hf, hSS⟩, by rw [ht]; exact hP, hD⟩, hS.F ht⟩) hS.2.2 dX5_isRight_65
    · replace hf := hf.2 c2
      refine lv_iload_n hx hb dX5_isRight_17 rfl (lv_at hl 2 rfl) ?_
      refine lv_aload_n hx hb dX5_isRight_18 rfl (lv_at hl 0 rfl) ?_
      refine va_get (D := (dC, dI)) (ci := 5) (v := .ref (a 25)) (C := RX5) (T := TX5) (N := 35) hx hb hts hinX5 hown hK.1 hP 0 rfl rfl 25 (by decide) w75 (fun _ h9 => h9) rfl dX5_isRight_19 ?_
      refine lv_sipush (v := 128) hx hb dX5_isRight_22 (by decide) ?_
      refine lv_iload_n hx hb dX5_isRight_25 rfl (lv_at hl 1 rfl) ?_
      refine lv_imul hx hb dX5_isRight_26 ?_
      refine lv_iload_n hx hb dX5_isRight_27 rfl (lv_at hl 3 rfl) ?_
      refine lv_iadd hx hb dX5_isRight_28 ?_
      have g7 := hf.1
      replace hf := hf.2
      refine ar_ild (f := (mA 25)) (j := ((128 * v1) + v3).toNatClampNeg) hx hb hK.1 hP 22 0 rfl rfl rfl g7 dX5_isRight_29 ?_
      refine kSi (As := [.int v2, .int ((mA 25) (((128 * v1) + v3).toNatClampNeg))]) (rest := []) ⟨hx, hb, hml, hown, hts⟩ (c_X5_nextCheck l dC dI y H.size v2 ((mA 25) (((128 * v1) + v3).toNatClampNeg)) _ hf) (va_cwS 2 hts gX5_isRight_X5_nextCheck rfl rfl rfl (by decide +kernel) ⟨Nat.le_of_ble_eq_true rfl, Nat.le_of_ble_eq_true rfl⟩) hK hP hD hS hA rfl hl.1 rfl (Nat.le_of_ble_eq_true rfl) dX5_isRight_30 ⟨Nat.zero_le _, Nat.zero_le _⟩ (fun r8 H locs hf hP hD hS => ?_)
      refine lv_istore_n (lv' := [(2, .int r8), (0, .ref (a 0)), (1, .int v1), (3, .int v3)]) hx hb dX5_isRight_33 rfl hl (by decide) rfl (fun ls hl => ?_)
      obtain ⟨n9, en9⟩ : ∃ z : Int32, z = v3 + 1 := ⟨_, rfl⟩
      replace hf := hf n9 en9
      refine lv_iinc (v := n9) (lv' := [(3, .int n9), (2, .int r8), (0, .ref (a 0)), (1, .int v1)]) hx hb dX5_isRight_34 hl (k := 3) rfl (by rw [en9]; rfl) (by decide) rfl (fun ls hl => ?_)
      refine lv_goto (tgt := 4) hx hb dX5_isRight_37 (by decide) ?_
      exact ih (mI, mA, mL) v1 r8 n9 H locs ls hP hD hS (lv_sub hl [2, 3, 1, 0] rfl) hSS hf
set_option maxHeartbeats 4000000 in
set_option maxRecDepth 100000 in
theorem c_X5_isRight (l : Launch) (dC : Nat → ClassId) (dI : Nat → Nat → Nat) (y : Nat → ClassId) (a : Nat → Nat) (sz : Nat) (S : ModelS) (p0 : Int32) (K : Int32 → Prop) (hf : wp_X5_isRight S p0 K) : MI l yX5_isRight wsX5_isRight { frames := 1, cells := 0, slots := 0, locals := 25 } dC dI y [.ref (a 0), .int p0] (mdW y a S) sz (fun u => mdW y a u) (fun r u => K r ∧ u = S) := by
  refine Met.ofW (cc := cX5_isRight) (maxL := 4) (ret := (some .boolean)) (by decide) rfl ?_
  intro p e s m args below meth c s₁ B hml hv
  obtain ⟨rfl, hsz, hP, hK, hD0⟩ := hv
  have hx := B.exec
  have hb := B.bytes
  have hr := B.returns
  have hts := atoms_spec (ws := wsX5_isRight) B.pre
  have hown : s.vm.findClass RX5 = some m.cls := findClass_of_methodNamed B.named
  have hlocks := B.notSynchronized
  subst hsz
  have hD := hD0.self (sz := s.heap.size)
  generalize hAe : va_A (mdW y a S) s.heap.size = A at hD ⊢
  have hA : ∀ q : Nat, s.heap.size ≤ q → A q := fun q h => by rw [← hAe]; exact Or.inr h
  have hS : va_S A s.heap s.heap [] := va_S.rf
  have C0 : Cx p s m [.ref (a 0), .int p0].toArray meth c cX5_isRight 4 (some .boolean) wsX5_isRight RX5 A dC dI y := ⟨hx, hb, hr, hml, hown, hts, hlocks, hA, hK⟩
  have hl := lv_entry ([.ref (a 0), .int p0]) (n := 4) (Nat.le_of_ble_eq_true rfl)
  rw [lg_entry_eq]
  generalize (lg_sl ([.ref (a 0), .int p0]) ++ List.replicate (4 - (lg_sl ([.ref (a 0), .int p0])).length) Slot.unset).toArray = ls at hl ⊢
  have hl : lv_has ls 4 [(0, .ref (a 0)), (1, .int p0)] := hl
  obtain ⟨mI, mA, mL⟩ := S
  have hSS : (mI, mA, mL) = (mI, mA, mL) := rfl
  clear hAe hD0
  generalize hL0 : ([] : List Loc) = locs at hS ⊢
  unfold wp_X5_isRight at hf
  refine lv_iconst (v := 0) hx hb dX5_isRight_0 (by decide) ?_
  refine lv_istore_n (lv' := [(2, .int 0), (0, .ref (a 0)), (1, .int p0)]) hx hb dX5_isRight_1 rfl hl (by decide) rfl (fun ls hl => ?_)
  refine lv_iconst (v := 0) hx hb dX5_isRight_2 (by decide) ?_
  refine lv_istore_n (lv' := [(3, .int 0), (2, .int 0), (0, .ref (a 0)), (1, .int p0)]) hx hb dX5_isRight_3 rfl hl (by decide) rfl (fun ls hl => ?_)
  exact j_X5_isRight_4 C0 a K _ 1000 (mI, mA, mL) p0 0 0 s.heap locs ls hP hD hS (lv_sub hl [2, 3, 1, 0] rfl) hSS hf

def wp_X5_takeTail_43 (K : Int32 → ModelS → Prop) : ModelS → Int32 → Prop := fun (mI, mA, mL) v3 => ((¬ v3 = 9 → K 0 (mI, mA, mL)) ∧ (v3 = 9 → K 9 (mI, mA, mL)))
def wp_X5_takeTail_32 (K : Int32 → ModelS → Prop) : ModelS → Int32 → Int32 → Prop := fun (mI, mA, mL) v2 v3 => ((v3 = 1 → wp_X5_takeTail_43 K (mI, mA, mL) v3) ∧ (¬ v3 = 1 → ((¬ v2 = 0 → wp_X5_takeTail_43 K (mI, mA, mL) v3) ∧ (v2 = 0 → K 3 (mI, mA, mL)))))
def wp_X5_takeTail : ModelS → Int32 → Int32 → (Int32 → ModelS → Prop) → Prop := fun (mI, mA, mL) p0 p1 K => (vp_in p0 5 ∧ (∀ n2 : Int32, n2 = (mA 30) p0.toNatClampNeg → (vp_in p0 5 ∧ (vp_in p0 5 ∧ ((¬ n2 = 2 → wp_X5_takeTail_32 K (mI, va_up mA 30 (upd (mA 30) p0.toNatClampNeg (((mA 30) p0.toNatClampNeg) + 1)), mL) p1 n2) ∧ (n2 = 2 → wp_X5_isRight (mI, va_up mA 30 (upd (mA 30) p0.toNatClampNeg (((mA 30) p0.toNatClampNeg) + 1)), mL) p0 (fun r9 => ((¬ r9 = 0 → wp_X5_takeTail_32 K (mI, va_up mA 30 (upd (mA 30) p0.toNatClampNeg (((mA 30) p0.toNatClampNeg) + 1)), mL) p1 n2) ∧ (r9 = 0 → K 2 (mI, va_up mA 30 (upd (mA 30) p0.toNatClampNeg (((mA 30) p0.toNatClampNeg) + 1)), mL))))))))))
set_option maxHeartbeats 4000000 in
set_option maxRecDepth 100000 in
theorem j_X5_takeTail_43 {p : Program} {l : Launch} {e : Env} {s : State} {m : MethodId} {args : Array Value} {below : List Frame} {meth : Method} {c : Code} {dC : Nat → ClassId} {dI : Nat → Nat → Nat} {y : Nat → ClassId} {A : Nat → Prop} (C0 : Cx p s m args meth c cX5_takeTail 4 (some .int) wsX5_takeTail RX5 A dC dI y) (a : Nat → Nat) (K : Int32 → ModelS → Prop) : ∀ (S : ModelS) (v3 : Int32) (H : Heap) (locs : List Loc) (ls : Array Slot), va_P (dC, dI) vwCl (mdW y a S) H → va_D A (mdW y a S) → va_S A s.heap H locs → lv_has ls 4 [(3, .int v3)] → wp_X5_takeTail_43 K S v3 → W p l e ({ frames := 2, cells := 0, slots := 0, locals := 48 } : Room) s m args below meth c H locs 0 0 (MQ below (va_Qi K (BW dC dI A (fun u => mdW y a u)) A) args s 0 0 A) (F0 m 43 ls []) := by
  obtain ⟨hx, hb, hr, hml, hown, hts, hlocks, hA, hK⟩ := id C0
  intro S v3 H locs ls hP hD hS hl hf
  obtain ⟨mI, mA, mL⟩ := S
  unfold wp_X5_takeTail_43 at hf
  refine lv_iload_n hx hb dX5_takeTail_43 rfl (lv_at hl 0 rfl) ?_
  refine lv_bipush (v := 9) hx hb dX5_takeTail_44 (by decide) ?_
  refine lv_icmp_ne (tgt := 54) hx hb dX5_takeTail_46 (by decide) (fun c7 => ?_) (fun c7 => ?_)
  · replace hf := hf.1 c7
    refine lv_iconst (v := 0) hx hb dX5_takeTail_54 (by decide) ?_
    exact W.iret (v := 0) hx hb hr (fun t ht hW => ⟨⟨0, (mI, mA, mL), rfl, hf, by rw [ht]; exact hP, hD⟩, hS.F ht⟩) hS.2.2 dX5_takeTail_55
  · replace hf := hf.2 c7
    refine lv_bipush (v := 9) hx hb dX5_takeTail_49 (by decide) ?_
    refine lv_goto (tgt := 55) hx hb dX5_takeTail_51 (by decide) ?_
    exact W.iret (v := 9) hx hb hr (fun t ht hW => ⟨⟨9, (mI, mA, mL), rfl, hf, by rw [ht]; exact hP, hD⟩, hS.F ht⟩) hS.2.2 dX5_takeTail_55
set_option maxHeartbeats 4000000 in
set_option maxRecDepth 100000 in
theorem j_X5_takeTail_32 {p : Program} {l : Launch} {e : Env} {s : State} {m : MethodId} {args : Array Value} {below : List Frame} {meth : Method} {c : Code} {dC : Nat → ClassId} {dI : Nat → Nat → Nat} {y : Nat → ClassId} {A : Nat → Prop} (C0 : Cx p s m args meth c cX5_takeTail 4 (some .int) wsX5_takeTail RX5 A dC dI y) (a : Nat → Nat) (K : Int32 → ModelS → Prop) : ∀ (S : ModelS) (v2 : Int32) (v3 : Int32) (H : Heap) (locs : List Loc) (ls : Array Slot), va_P (dC, dI) vwCl (mdW y a S) H → va_D A (mdW y a S) → va_S A s.heap H locs → lv_has ls 4 [(2, .int v2), (3, .int v3)] → wp_X5_takeTail_32 K S v2 v3 → W p l e ({ frames := 2, cells := 0, slots := 0, locals := 48 } : Room) s m args below meth c H locs 0 0 (MQ below (va_Qi K (BW dC dI A (fun u => mdW y a u)) A) args s 0 0 A) (F0 m 32 ls []) := by
  obtain ⟨hx, hb, hr, hml, hown, hts, hlocks, hA, hK⟩ := id C0
  intro S v2 v3 H locs ls hP hD hS hl hf
  obtain ⟨mI, mA, mL⟩ := S
  unfold wp_X5_takeTail_32 at hf
  refine lv_iload_n hx hb dX5_takeTail_32 rfl (lv_at hl 1 rfl) ?_
  refine lv_iconst (v := 1) hx hb dX5_takeTail_33 (by decide) ?_
  refine lv_icmp_eq (tgt := 43) hx hb dX5_takeTail_34 (by decide) (fun c6 => ?_) (fun c6 => ?_)
  · replace hf := hf.1 c6
    exact j_X5_takeTail_43 C0 a K (mI, mA, mL) v3 H locs ls hP hD hS (lv_sub hl [1] rfl) hf
  · replace hf := hf.2 c6
    refine lv_iload_n hx hb dX5_takeTail_37 rfl (lv_at hl 0 rfl) ?_
    refine lv_if_ne (tgt := 43) hx hb dX5_takeTail_38 (by decide) (fun c8 => ?_) (fun c8 => ?_)
    · replace hf := hf.1 c8
      exact j_X5_takeTail_43 C0 a K (mI, mA, mL) v3 H locs ls hP hD hS (lv_sub hl [1] rfl) hf
    · replace hf := hf.2 c8
      refine lv_iconst (v := 3) hx hb dX5_takeTail_41 (by decide) ?_
      exact W.iret (v := 3) hx hb hr (fun t ht hW => ⟨⟨3, (mI, mA, mL), rfl, hf, by rw [ht]; exact hP, hD⟩, hS.F ht⟩) hS.2.2 dX5_takeTail_42
set_option maxHeartbeats 4000000 in
set_option maxRecDepth 100000 in
theorem c_X5_takeTail (l : Launch) (dC : Nat → ClassId) (dI : Nat → Nat → Nat) (y : Nat → ClassId) (a : Nat → Nat) (sz : Nat) (S : ModelS) (p0 : Int32) (p1 : Int32) (K : Int32 → ModelS → Prop) (hf : wp_X5_takeTail S p0 p1 K) : MI l yX5_takeTail wsX5_takeTail { frames := 2, cells := 0, slots := 0, locals := 48 } dC dI y [.ref (a 0), .int p0, .int p1] (mdW y a S) sz (fun u => mdW y a u) K := by
  refine Met.ofW (cc := cX5_takeTail) (maxL := 4) (ret := (some .int)) (by decide) rfl ?_
  intro p e s m args below meth c s₁ B hml hv
  obtain ⟨rfl, hsz, hP, hK, hD0⟩ := hv
  have hx := B.exec
  have hb := B.bytes
  have hr := B.returns
  have hts := atoms_spec (ws := wsX5_takeTail) B.pre
  have hown : s.vm.findClass RX5 = some m.cls := findClass_of_methodNamed B.named
  have hlocks := B.notSynchronized
  subst hsz
  have hD := hD0.self (sz := s.heap.size)
  generalize hAe : va_A (mdW y a S) s.heap.size = A at hD ⊢
  have hA : ∀ q : Nat, s.heap.size ≤ q → A q := fun q h => by rw [← hAe]; exact Or.inr h
  have hS : va_S A s.heap s.heap [] := va_S.rf
  have C0 : Cx p s m [.ref (a 0), .int p0, .int p1].toArray meth c cX5_takeTail 4 (some .int) wsX5_takeTail RX5 A dC dI y := ⟨hx, hb, hr, hml, hown, hts, hlocks, hA, hK⟩
  have w90 := hts (.fieldLink RX5 90 "SharedWireModel" "tail" "[I") (List.mem_of_getElem? (i := 1) rfl)
  have hinX5 : ∀ w ∈ wsX50, w ∈ wsX5_takeTail := fun w h => List.mem_cons_of_mem _ (List.mem_append_right _ (h))
  have hl := lv_entry ([.ref (a 0), .int p0, .int p1]) (n := 4) (Nat.le_of_ble_eq_true rfl)
  rw [lg_entry_eq]
  generalize (lg_sl ([.ref (a 0), .int p0, .int p1]) ++ List.replicate (4 - (lg_sl ([.ref (a 0), .int p0, .int p1])).length) Slot.unset).toArray = ls at hl ⊢
  have hl : lv_has ls 4 [(0, .ref (a 0)), (1, .int p0), (2, .int p1)] := hl
  obtain ⟨mI, mA, mL⟩ := S
  clear hAe hD0
  generalize hL0 : ([] : List Loc) = locs at hS ⊢
  unfold wp_X5_takeTail at hf
  refine lv_aload_n hx hb dX5_takeTail_0 rfl (lv_at hl 0 rfl) ?_
  refine va_get (D := (dC, dI)) (ci := 5) (v := .ref (a 30)) (C := RX5) (T := TX5) (N := 35) hx hb hts hinX5 hown hK.1 hP 0 rfl rfl 30 (by decide) w90 (fun _ h9 => h9) rfl dX5_takeTail_1 ?_
  refine lv_iload_n hx hb dX5_takeTail_4 rfl (lv_at hl 1 rfl) ?_
  have g1 := hf.1
  replace hf := hf.2
  refine ar_ild (f := (mA 30)) (j := p0.toNatClampNeg) hx hb hK.1 hP 27 0 rfl rfl rfl g1 dX5_takeTail_5 ?_
  refine lv_topi (fun n2 en2 => ?_)
  replace hf := hf n2 en2
  refine lv_istore_n (lv' := [(3, .int n2), (0, .ref (a 0)), (1, .int p0), (2, .int p1)]) hx hb dX5_takeTail_6 rfl hl (by decide) rfl (fun ls hl => ?_)
  refine lv_aload_n hx hb dX5_takeTail_7 rfl (lv_at hl 1 rfl) ?_
  refine va_get (D := (dC, dI)) (ci := 5) (v := .ref (a 30)) (C := RX5) (T := TX5) (N := 35) hx hb hts hinX5 hown hK.1 hP 0 rfl rfl 30 (by decide) w90 (fun _ h9 => h9) rfl dX5_takeTail_8 ?_
  refine lv_iload_n hx hb dX5_takeTail_11 rfl (lv_at hl 2 rfl) ?_
  refine lv_dup2_11 hx hb dX5_takeTail_12 rfl rfl ?_
  have g3 := hf.1
  replace hf := hf.2
  refine ar_ild (f := (mA 30)) (j := p0.toNatClampNeg) hx hb hK.1 hP 27 0 rfl rfl rfl g3 dX5_takeTail_13 ?_
  refine lv_iconst (v := 1) hx hb dX5_takeTail_14 (by decide) ?_
  refine lv_iadd hx hb dX5_takeTail_15 ?_
  have g4 := hf.1
  replace hf := hf.2
  refine mst_30 (f := (mA 30)) (x := ((mA 30) p0.toNatClampNeg) + 1) (j := p0.toNatClampNeg) hx hb hK.1 hP hD hS rfl rfl g4 dX5_takeTail_16 (fun H locs hP hD hS => ?_)
  refine lv_iload_n hx hb dX5_takeTail_17 rfl (lv_at hl 0 rfl) ?_
  refine lv_iconst (v := 2) hx hb dX5_takeTail_18 (by decide) ?_
  refine lv_icmp_ne (tgt := 32) hx hb dX5_takeTail_19 (by decide) (fun c5 => ?_) (fun c5 => ?_)
  · replace hf := hf.1 c5
    exact j_X5_takeTail_32 C0 a K (mI, va_up mA 30 (upd (mA 30) p0.toNatClampNeg (((mA 30) p0.toNatClampNeg) + 1)), mL) p1 n2 H locs ls hP hD hS (lv_sub hl [3, 0] rfl) hf
  · replace hf := hf.2 c5
    refine lv_aload_n hx hb dX5_takeTail_22 rfl (lv_at hl 1 rfl) ?_
    refine lv_iload_n hx hb dX5_takeTail_23 rfl (lv_at hl 2 rfl) ?_
    refine k0i (As := [.int p0]) (rest := []) ⟨hx, hb, hml, hown, hts⟩ (c_X5_isRight l dC dI y a H.size (mI, va_up mA 30 (upd (mA 30) p0.toNatClampNeg (((mA 30) p0.toNatClampNeg) + 1)), mL) p0 _ hf) (cwV 1 hts gX5_takeTail_X5_isRight rfl rfl rfl (by decide +kernel) ⟨Nat.le_of_ble_eq_true rfl, Nat.le_of_ble_eq_true rfl⟩) hK hP hD (va_recv hK.1 hP (ci := 5) (q0 := 0) rfl rfl) hS hA rfl hl.1 rfl (Nat.le_of_ble_eq_true rfl) dX5_takeTail_24 ⟨Nat.zero_le _, Nat.zero_le _⟩ (fun r9 u10 H locs hf hP hD hS => ?_)
    obtain ⟨hf, e9⟩ := hf
    have e9 := e9.symm
    subst e9
    have hP : va_P (dC, dI) vwCl (mdW y a (mI, va_up mA 30 (upd (mA 30) p0.toNatClampNeg (((mA 30) p0.toNatClampNeg) + 1)), mL)) H := hP
    have hD : va_D A (mdW y a (mI, va_up mA 30 (upd (mA 30) p0.toNatClampNeg (((mA 30) p0.toNatClampNeg) + 1)), mL)) := hD
    refine lv_if_ne (tgt := 32) hx hb dX5_takeTail_27 (by decide) (fun c11 => ?_) (fun c11 => ?_)
    · replace hf := hf.1 c11
      exact j_X5_takeTail_32 C0 a K (mI, va_up mA 30 (upd (mA 30) p0.toNatClampNeg (((mA 30) p0.toNatClampNeg) + 1)), mL) p1 n2 H locs ls hP hD hS (lv_sub hl [3, 0] rfl) hf
    · replace hf := hf.2 c11
      refine lv_iconst (v := 2) hx hb dX5_takeTail_30 (by decide) ?_
      exact W.iret (v := 2) hx hb hr (fun t ht hW => ⟨⟨2, (mI, va_up mA 30 (upd (mA 30) p0.toNatClampNeg (((mA 30) p0.toNatClampNeg) + 1)), mL), rfl, hf, by rw [ht]; exact hP, hD⟩, hS.F ht⟩) hS.2.2 dX5_takeTail_31

def wp_X5_take_198 (K : Int32 → ModelS → Prop) : ModelS → Prop := fun (mI, mA, mL) => K 0 (mI, mA, mL)
def wp_X5_take_171 (K : Int32 → ModelS → Prop) : ModelS → Int32 → Int32 → Int32 → Prop := fun (mI, mA, mL) v1 k0 k1 => ((¬ k1 = k0 → wp_X5_take_198 K (mI, mA, mL)) ∧ (k1 = k0 → (vp_in v1 5 ∧ wp_X5_bytesOf (mI, mA, mL) v1 (fun r24 => (vp_in v1 5 ∧ wp_X5_take_198 K (mI, va_up mA 29 (upd (mA 29) v1.toNatClampNeg ((((mA 26) v1.toNatClampNeg) + (8 * r24)) + 15)), mL))))))
def wp_X5_take_139 (K : Int32 → ModelS → Prop) : ModelS → Int32 → Prop := fun (mI, mA, mL) v1 => (vp_in v1 5 ∧ (((mA 26) v1.toNatClampNeg ≤ 13 → wp_X5_take_198 K (mI, mA, mL)) ∧ (¬ (mA 26) v1.toNatClampNeg ≤ 13 → (vp_in v1 5 ∧ wp_X5_isLong (mI, mA, mL) v1 (fun r19 => ((r19 = 0 → wp_X5_take_171 K (mI, mA, mL) v1 19 ((mA 26) v1.toNatClampNeg)) ∧ (¬ r19 = 0 → wp_X5_take_171 K (mI, mA, mL) v1 39 ((mA 26) v1.toNatClampNeg))))))))
def wp_X5_take_103 (K : Int32 → ModelS → Prop) : ModelS → Int32 → Int32 → Int32 → Int32 → Prop := fun (mI, mA, mL) v1 v2 k0 k1 => (vp_in k1 5 ∧ (vp_in v1 5 ∧ (vp_in v1 5 ∧ (vp_in ((128 * v1) + ((mA 26) v1.toNatClampNeg)) 640 ∧ (vp_in v1 5 ∧ (vp_in v1 5 ∧ wp_X5_take_139 K (mI, va_up (va_up (va_up (va_up mA 27 (upd (mA 27) k1.toNatClampNeg k0)) 28 (upd (mA 28) v1.toNatClampNeg v2)) 25 (upd (mA 25) (((128 * v1) + ((mA 26) v1.toNatClampNeg)).toNatClampNeg) v2)) 26 (upd (mA 26) v1.toNatClampNeg (((mA 26) v1.toNatClampNeg) + 1)), mL) v1))))))
def wp_X5_take_76 (K : Int32 → ModelS → Prop) : ModelS → Int32 → Int32 → Prop := fun (mI, mA, mL) v1 v2 => (vp_in v1 5 ∧ ((¬ v2 = (mA 28) v1.toNatClampNeg → wp_X5_take_103 K (mI, mA, mL) v1 v2 1 v1) ∧ (v2 = (mA 28) v1.toNatClampNeg → (vp_in v1 5 ∧ wp_X5_take_103 K (mI, mA, mL) v1 v2 (((mA 27) v1.toNatClampNeg) + 1) v1))))
def wp_X5_take : ModelS → Int32 → Int32 → (Int32 → ModelS → Prop) → Prop := fun (mI, mA, mL) p0 p1 K => (vp_in p0 5 ∧ (vp_in p0 5 ∧ ((¬ (mA 26) p0.toNatClampNeg = (mA 29) p0.toNatClampNeg → (vp_in p0 5 ∧ ((¬ (mA 27) p0.toNatClampNeg = 5 → (vp_in p0 5 ∧ ((¬ (mA 26) p0.toNatClampNeg = 0 → wp_X5_take_76 K (mI, mA, mL) p0 p1) ∧ ((mA 26) p0.toNatClampNeg = 0 → ((¬ p1 = 1 → wp_X5_take_76 K (mI, mA, mL) p0 p1) ∧ (p1 = 1 → K 3 (mI, mA, mL))))))) ∧ ((mA 27) p0.toNatClampNeg = 5 → (vp_in p0 5 ∧ ((¬ p1 = (mA 28) p0.toNatClampNeg → (vp_in p0 5 ∧ (vp_in p0 5 ∧ K 0 (mI, va_up (va_up mA 28 (upd (mA 28) p0.toNatClampNeg p1)) 27 (upd (mA 27) p0.toNatClampNeg 1), mL)))) ∧ (p1 = (mA 28) p0.toNatClampNeg → K 1 (mI, mA, mL)))))))) ∧ ((mA 26) p0.toNatClampNeg = (mA 29) p0.toNatClampNeg → wp_X5_takeTail (mI, mA, mL) p0 p1 (fun r33 u34 => K r33 (u34.1, u34.2.1, u34.2.2))))))
set_option maxHeartbeats 4000000 in
set_option maxRecDepth 100000 in
theorem j_X5_take_198 {p : Program} {l : Launch} {e : Env} {s : State} {m : MethodId} {args : Array Value} {below : List Frame} {meth : Method} {c : Code} {dC : Nat → ClassId} {dI : Nat → Nat → Nat} {y : Nat → ClassId} {A : Nat → Prop} (C0 : Cx p s m args meth c cX5_take 3 (some .int) wsX5_take RX5 A dC dI y) (a : Nat → Nat) (K : Int32 → ModelS → Prop) : ∀ (S : ModelS) (H : Heap) (locs : List Loc) (ls : Array Slot), va_P (dC, dI) vwCl (mdW y a S) H → va_D A (mdW y a S) → va_S A s.heap H locs → lv_has ls 3 [] → wp_X5_take_198 K S → W p l e ({ frames := 3, cells := 0, slots := 0, locals := 71 } : Room) s m args below meth c H locs 0 0 (MQ below (va_Qi K (BW dC dI A (fun u => mdW y a u)) A) args s 0 0 A) (F0 m 198 ls []) := by
  obtain ⟨hx, hb, hr, hml, hown, hts, hlocks, hA, hK⟩ := id C0
  intro S H locs ls hP hD hS hl hf
  obtain ⟨mI, mA, mL⟩ := S
  unfold wp_X5_take_198 at hf
  refine lv_iconst (v := 0) hx hb dX5_take_198 (by decide) ?_
  exact W.iret (v := 0) hx hb hr (fun t ht hW => ⟨⟨0, (mI, mA, mL), rfl, hf, by rw [ht]; exact hP, hD⟩, hS.F ht⟩) hS.2.2 dX5_take_199
set_option maxHeartbeats 4000000 in
set_option maxRecDepth 100000 in
theorem j_X5_take_171 {p : Program} {l : Launch} {e : Env} {s : State} {m : MethodId} {args : Array Value} {below : List Frame} {meth : Method} {c : Code} {dC : Nat → ClassId} {dI : Nat → Nat → Nat} {y : Nat → ClassId} {A : Nat → Prop} (C0 : Cx p s m args meth c cX5_take 3 (some .int) wsX5_take RX5 A dC dI y) (a : Nat → Nat) (K : Int32 → ModelS → Prop) : ∀ (S : ModelS) (v1 : Int32) (k0 : Int32) (k1 : Int32) (H : Heap) (locs : List Loc) (ls : Array Slot), va_P (dC, dI) vwCl (mdW y a S) H → va_D A (mdW y a S) → va_S A s.heap H locs → lv_has ls 3 [(0, .ref (a 0)), (1, .int v1)] → wp_X5_take_171 K S v1 k0 k1 → W p l e ({ frames := 3, cells := 0, slots := 0, locals := 71 } : Room) s m args below meth c H locs 0 0 (MQ below (va_Qi K (BW dC dI A (fun u => mdW y a u)) A) args s 0 0 A) (F0 m 171 ls [.int k0, .int k1]) := by
  obtain ⟨hx, hb, hr, hml, hown, hts, hlocks, hA, hK⟩ := id C0
  have w78 := hts (Cond.fieldLink RX5 78 "SharedWireModel" "count" "[I") (List.mem_of_getElem? (i := 1) rfl)
  have w87 := hts (Cond.fieldLink RX5 87 "SharedWireModel" "need" "[I") (List.mem_of_getElem? (i := 2) rfl)
  have hinX5 : ∀ w ∈ wsX50, w ∈ wsX5_take := fun w h => List.mem_cons_of_mem _ (List.mem_append_right _ (h))
  intro S v1 k0 k1 H locs ls hP hD hS hl hf
  obtain ⟨mI, mA, mL⟩ := S
  unfold wp_X5_take_171 at hf
  refine lv_icmp_ne (tgt := 198) hx hb dX5_take_171 (by decide) (fun c22 => ?_) (fun c22 => ?_)
  · replace hf := hf.1 c22
    exact j_X5_take_198 C0 a K (mI, mA, mL) H locs ls hP hD hS (lv_sub hl [] rfl) hf
  · replace hf := hf.2 c22
    refine lv_aload_n hx hb dX5_take_174 rfl (lv_at hl 0 rfl) ?_
    refine va_get (D := (dC, dI)) (ci := 5) (v := .ref (a 29)) (C := RX5) (T := TX5) (N := 35) hx hb hts hinX5 hown hK.1 hP 0 rfl rfl 29 (by decide) w87 (fun _ h9 => h9) rfl dX5_take_175 ?_
    refine lv_iload_n hx hb dX5_take_178 rfl (lv_at hl 1 rfl) ?_
    refine lv_aload_n hx hb dX5_take_179 rfl (lv_at hl 0 rfl) ?_
    refine va_get (D := (dC, dI)) (ci := 5) (v := .ref (a 26)) (C := RX5) (T := TX5) (N := 35) hx hb hts hinX5 hown hK.1 hP 0 rfl rfl 26 (by decide) w78 (fun _ h9 => h9) rfl dX5_take_180 ?_
    refine lv_iload_n hx hb dX5_take_183 rfl (lv_at hl 1 rfl) ?_
    have g23 := hf.1
    replace hf := hf.2
    refine ar_ild (f := (mA 26)) (j := v1.toNatClampNeg) hx hb hK.1 hP 23 0 rfl rfl rfl g23 dX5_take_184 ?_
    refine lv_bipush (v := 8) hx hb dX5_take_185 (by decide) ?_
    refine lv_aload_n hx hb dX5_take_187 rfl (lv_at hl 0 rfl) ?_
    refine lv_iload_n hx hb dX5_take_188 rfl (lv_at hl 1 rfl) ?_
    refine k0i (As := [.int v1]) (rest := [.int 8, .int ((mA 26) v1.toNatClampNeg), .int v1, .ref (a 29)]) ⟨hx, hb, hml, hown, hts⟩ (c_X5_bytesOf l dC dI y a H.size (mI, mA, mL) v1 _ hf) (cwV 1 hts gX5_take_X5_bytesOf rfl rfl rfl (by decide +kernel) ⟨Nat.le_of_ble_eq_true rfl, Nat.le_of_ble_eq_true rfl⟩) hK hP hD (va_recv hK.1 hP (ci := 5) (q0 := 0) rfl rfl) hS hA rfl hl.1 rfl (Nat.le_of_ble_eq_true rfl) dX5_take_189 ⟨Nat.zero_le _, Nat.zero_le _⟩ (fun r24 u25 H locs hf hP hD hS => ?_)
    obtain ⟨hf, e9⟩ := hf
    have e9 := e9.symm
    subst e9
    have hP : va_P (dC, dI) vwCl (mdW y a (mI, mA, mL)) H := hP
    have hD : va_D A (mdW y a (mI, mA, mL)) := hD
    refine lv_imul hx hb dX5_take_192 ?_
    refine lv_iadd hx hb dX5_take_193 ?_
    refine lv_bipush (v := 15) hx hb dX5_take_194 (by decide) ?_
    refine lv_iadd hx hb dX5_take_196 ?_
    have g26 := hf.1
    replace hf := hf.2
    refine mst_29 (f := (mA 29)) (x := (((mA 26) v1.toNatClampNeg) + (8 * r24)) + 15) (j := v1.toNatClampNeg) hx hb hK.1 hP hD hS rfl rfl g26 dX5_take_197 (fun H locs hP hD hS => ?_)
    exact j_X5_take_198 C0 a K (mI, va_up mA 29 (upd (mA 29) v1.toNatClampNeg ((((mA 26) v1.toNatClampNeg) + (8 * r24)) + 15)), mL) H locs ls hP hD hS (lv_sub hl [] rfl) hf
set_option maxHeartbeats 4000000 in
set_option maxRecDepth 100000 in
theorem j_X5_take_139 {p : Program} {l : Launch} {e : Env} {s : State} {m : MethodId} {args : Array Value} {below : List Frame} {meth : Method} {c : Code} {dC : Nat → ClassId} {dI : Nat → Nat → Nat} {y : Nat → ClassId} {A : Nat → Prop} (C0 : Cx p s m args meth c cX5_take 3 (some .int) wsX5_take RX5 A dC dI y) (a : Nat → Nat) (K : Int32 → ModelS → Prop) : ∀ (S : ModelS) (v1 : Int32) (H : Heap) (locs : List Loc) (ls : Array Slot), va_P (dC, dI) vwCl (mdW y a S) H → va_D A (mdW y a S) → va_S A s.heap H locs → lv_has ls 3 [(0, .ref (a 0)), (1, .int v1)] → wp_X5_take_139 K S v1 → W p l e ({ frames := 3, cells := 0, slots := 0, locals := 71 } : Room) s m args below meth c H locs 0 0 (MQ below (va_Qi K (BW dC dI A (fun u => mdW y a u)) A) args s 0 0 A) (F0 m 139 ls []) := by
  obtain ⟨hx, hb, hr, hml, hown, hts, hlocks, hA, hK⟩ := id C0
  have w78 := hts (Cond.fieldLink RX5 78 "SharedWireModel" "count" "[I") (List.mem_of_getElem? (i := 1) rfl)
  have hinX5 : ∀ w ∈ wsX50, w ∈ wsX5_take := fun w h => List.mem_cons_of_mem _ (List.mem_append_right _ (h))
  intro S v1 H locs ls hP hD hS hl hf
  obtain ⟨mI, mA, mL⟩ := S
  unfold wp_X5_take_139 at hf
  refine lv_aload_n hx hb dX5_take_139 rfl (lv_at hl 0 rfl) ?_
  refine va_get (D := (dC, dI)) (ci := 5) (v := .ref (a 26)) (C := RX5) (T := TX5) (N := 35) hx hb hts hinX5 hown hK.1 hP 0 rfl rfl 26 (by decide) w78 (fun _ h9 => h9) rfl dX5_take_140 ?_
  refine lv_iload_n hx hb dX5_take_143 rfl (lv_at hl 1 rfl) ?_
  have g16 := hf.1
  replace hf := hf.2
  refine ar_ild (f := (mA 26)) (j := v1.toNatClampNeg) hx hb hK.1 hP 23 0 rfl rfl rfl g16 dX5_take_144 ?_
  refine lv_bipush (v := 13) hx hb dX5_take_145 (by decide) ?_
  refine lv_icmp_le (tgt := 198) hx hb dX5_take_147 (by decide) (fun c17 => ?_) (fun c17 => ?_)
  · replace hf := hf.1 c17
    exact j_X5_take_198 C0 a K (mI, mA, mL) H locs ls hP hD hS (lv_sub hl [] rfl) hf
  · replace hf := hf.2 c17
    refine lv_aload_n hx hb dX5_take_150 rfl (lv_at hl 0 rfl) ?_
    refine va_get (D := (dC, dI)) (ci := 5) (v := .ref (a 26)) (C := RX5) (T := TX5) (N := 35) hx hb hts hinX5 hown hK.1 hP 0 rfl rfl 26 (by decide) w78 (fun _ h9 => h9) rfl dX5_take_151 ?_
    refine lv_iload_n hx hb dX5_take_154 rfl (lv_at hl 1 rfl) ?_
    have g18 := hf.1
    replace hf := hf.2
    refine ar_ild (f := (mA 26)) (j := v1.toNatClampNeg) hx hb hK.1 hP 23 0 rfl rfl rfl g18 dX5_take_155 ?_
    refine lv_aload_n hx hb dX5_take_156 rfl (lv_at hl 0 rfl) ?_
    refine lv_iload_n hx hb dX5_take_157 rfl (lv_at hl 1 rfl) ?_
    refine k0i (As := [.int v1]) (rest := [.int ((mA 26) v1.toNatClampNeg)]) ⟨hx, hb, hml, hown, hts⟩ (c_X5_isLong l dC dI y a H.size (mI, mA, mL) v1 _ hf) (cwV 1 hts gX5_take_X5_isLong rfl rfl rfl (by decide +kernel) ⟨Nat.le_of_ble_eq_true rfl, Nat.le_of_ble_eq_true rfl⟩) hK hP hD (va_recv hK.1 hP (ci := 5) (q0 := 0) rfl rfl) hS hA rfl hl.1 rfl (Nat.le_of_ble_eq_true rfl) dX5_take_158 ⟨Nat.zero_le _, Nat.zero_le _⟩ (fun r19 u20 H locs hf hP hD hS => ?_)
    obtain ⟨hf, e9⟩ := hf
    have e9 := e9.symm
    subst e9
    have hP : va_P (dC, dI) vwCl (mdW y a (mI, mA, mL)) H := hP
    have hD : va_D A (mdW y a (mI, mA, mL)) := hD
    refine lv_if_eq (tgt := 169) hx hb dX5_take_161 (by decide) (fun c21 => ?_) (fun c21 => ?_)
    · replace hf := hf.1 c21
      refine lv_bipush (v := 19) hx hb dX5_take_169 (by decide) ?_
      exact j_X5_take_171 C0 a K (mI, mA, mL) v1 19 ((mA 26) v1.toNatClampNeg) H locs ls hP hD hS (lv_sub hl [0, 1] rfl) hf
    · replace hf := hf.2 c21
      refine lv_bipush (v := 39) hx hb dX5_take_164 (by decide) ?_
      refine lv_goto (tgt := 171) hx hb dX5_take_166 (by decide) ?_
      exact j_X5_take_171 C0 a K (mI, mA, mL) v1 39 ((mA 26) v1.toNatClampNeg) H locs ls hP hD hS (lv_sub hl [0, 1] rfl) hf
set_option maxHeartbeats 4000000 in
set_option maxRecDepth 100000 in
theorem j_X5_take_103 {p : Program} {l : Launch} {e : Env} {s : State} {m : MethodId} {args : Array Value} {below : List Frame} {meth : Method} {c : Code} {dC : Nat → ClassId} {dI : Nat → Nat → Nat} {y : Nat → ClassId} {A : Nat → Prop} (C0 : Cx p s m args meth c cX5_take 3 (some .int) wsX5_take RX5 A dC dI y) (a : Nat → Nat) (K : Int32 → ModelS → Prop) : ∀ (S : ModelS) (v1 : Int32) (v2 : Int32) (k0 : Int32) (k1 : Int32) (H : Heap) (locs : List Loc) (ls : Array Slot), va_P (dC, dI) vwCl (mdW y a S) H → va_D A (mdW y a S) → va_S A s.heap H locs → lv_has ls 3 [(0, .ref (a 0)), (1, .int v1), (2, .int v2)] → wp_X5_take_103 K S v1 v2 k0 k1 → W p l e ({ frames := 3, cells := 0, slots := 0, locals := 71 } : Room) s m args below meth c H locs 0 0 (MQ below (va_Qi K (BW dC dI A (fun u => mdW y a u)) A) args s 0 0 A) (F0 m 103 ls [.int k0, .int k1, .ref (a 27)]) := by
  obtain ⟨hx, hb, hr, hml, hown, hts, hlocks, hA, hK⟩ := id C0
  have w75 := hts (Cond.fieldLink RX5 75 "SharedWireModel" "bits" "[I") (List.mem_of_getElem? (i := 5) rfl)
  have w78 := hts (Cond.fieldLink RX5 78 "SharedWireModel" "count" "[I") (List.mem_of_getElem? (i := 1) rfl)
  have w84 := hts (Cond.fieldLink RX5 84 "SharedWireModel" "last" "[I") (List.mem_of_getElem? (i := 4) rfl)
  have hinX5 : ∀ w ∈ wsX50, w ∈ wsX5_take := fun w h => List.mem_cons_of_mem _ (List.mem_append_right _ (h))
  intro S v1 v2 k0 k1 H locs ls hP hD hS hl hf
  obtain ⟨mI, mA, mL⟩ := S
  unfold wp_X5_take_103 at hf
  have g10 := hf.1
  replace hf := hf.2
  refine mst_27 (f := (mA 27)) (x := k0) (j := k1.toNatClampNeg) hx hb hK.1 hP hD hS rfl rfl g10 dX5_take_103 (fun H locs hP hD hS => ?_)
  refine lv_aload_n hx hb dX5_take_104 rfl (lv_at hl 0 rfl) ?_
  refine va_get (D := (dC, dI)) (ci := 5) (v := .ref (a 28)) (C := RX5) (T := TX5) (N := 35) hx hb hts hinX5 hown hK.1 hP 0 rfl rfl 28 (by decide) w84 (fun _ h9 => h9) rfl dX5_take_105 ?_
  refine lv_iload_n hx hb dX5_take_108 rfl (lv_at hl 1 rfl) ?_
  refine lv_iload_n hx hb dX5_take_109 rfl (lv_at hl 2 rfl) ?_
  have g11 := hf.1
  replace hf := hf.2
  refine mst_28 (f := (mA 28)) (x := v2) (j := v1.toNatClampNeg) hx hb hK.1 hP hD hS rfl rfl g11 dX5_take_110 (fun H locs hP hD hS => ?_)
  refine lv_aload_n hx hb dX5_take_111 rfl (lv_at hl 0 rfl) ?_
  refine va_get (D := (dC, dI)) (ci := 5) (v := .ref (a 25)) (C := RX5) (T := TX5) (N := 35) hx hb hts hinX5 hown hK.1 hP 0 rfl rfl 25 (by decide) w75 (fun _ h9 => h9) rfl dX5_take_112 ?_
  refine lv_sipush (v := 128) hx hb dX5_take_115 (by decide) ?_
  refine lv_iload_n hx hb dX5_take_118 rfl (lv_at hl 1 rfl) ?_
  refine lv_imul hx hb dX5_take_119 ?_
  refine lv_aload_n hx hb dX5_take_120 rfl (lv_at hl 0 rfl) ?_
  refine va_get (D := (dC, dI)) (ci := 5) (v := .ref (a 26)) (C := RX5) (T := TX5) (N := 35) hx hb hts hinX5 hown hK.1 hP 0 rfl rfl 26 (by decide) w78 (fun _ h9 => h9) rfl dX5_take_121 ?_
  refine lv_iload_n hx hb dX5_take_124 rfl (lv_at hl 1 rfl) ?_
  have g12 := hf.1
  replace hf := hf.2
  refine ar_ild (f := (mA 26)) (j := v1.toNatClampNeg) hx hb hK.1 hP 23 0 rfl rfl rfl g12 dX5_take_125 ?_
  refine lv_iadd hx hb dX5_take_126 ?_
  refine lv_iload_n hx hb dX5_take_127 rfl (lv_at hl 2 rfl) ?_
  have g13 := hf.1
  replace hf := hf.2
  refine mst_25 (f := (mA 25)) (x := v2) (j := ((128 * v1) + ((mA 26) v1.toNatClampNeg)).toNatClampNeg) hx hb hK.1 hP hD hS rfl rfl g13 dX5_take_128 (fun H locs hP hD hS => ?_)
  refine lv_aload_n hx hb dX5_take_129 rfl (lv_at hl 0 rfl) ?_
  refine va_get (D := (dC, dI)) (ci := 5) (v := .ref (a 26)) (C := RX5) (T := TX5) (N := 35) hx hb hts hinX5 hown hK.1 hP 0 rfl rfl 26 (by decide) w78 (fun _ h9 => h9) rfl dX5_take_130 ?_
  refine lv_iload_n hx hb dX5_take_133 rfl (lv_at hl 1 rfl) ?_
  refine lv_dup2_11 hx hb dX5_take_134 rfl rfl ?_
  have g14 := hf.1
  replace hf := hf.2
  refine ar_ild (f := (mA 26)) (j := v1.toNatClampNeg) hx hb hK.1 hP 23 0 rfl rfl rfl g14 dX5_take_135 ?_
  refine lv_iconst (v := 1) hx hb dX5_take_136 (by decide) ?_
  refine lv_iadd hx hb dX5_take_137 ?_
  have g15 := hf.1
  replace hf := hf.2
  refine mst_26 (f := (mA 26)) (x := ((mA 26) v1.toNatClampNeg) + 1) (j := v1.toNatClampNeg) hx hb hK.1 hP hD hS rfl rfl g15 dX5_take_138 (fun H locs hP hD hS => ?_)
  exact j_X5_take_139 C0 a K (mI, va_up (va_up (va_up (va_up mA 27 (upd (mA 27) k1.toNatClampNeg k0)) 28 (upd (mA 28) v1.toNatClampNeg v2)) 25 (upd (mA 25) (((128 * v1) + ((mA 26) v1.toNatClampNeg)).toNatClampNeg) v2)) 26 (upd (mA 26) v1.toNatClampNeg (((mA 26) v1.toNatClampNeg) + 1)), mL) v1 H locs ls hP hD hS (lv_sub hl [0, 1] rfl) hf
set_option maxHeartbeats 4000000 in
set_option maxRecDepth 100000 in
theorem j_X5_take_76 {p : Program} {l : Launch} {e : Env} {s : State} {m : MethodId} {args : Array Value} {below : List Frame} {meth : Method} {c : Code} {dC : Nat → ClassId} {dI : Nat → Nat → Nat} {y : Nat → ClassId} {A : Nat → Prop} (C0 : Cx p s m args meth c cX5_take 3 (some .int) wsX5_take RX5 A dC dI y) (a : Nat → Nat) (K : Int32 → ModelS → Prop) : ∀ (S : ModelS) (v1 : Int32) (v2 : Int32) (H : Heap) (locs : List Loc) (ls : Array Slot), va_P (dC, dI) vwCl (mdW y a S) H → va_D A (mdW y a S) → va_S A s.heap H locs → lv_has ls 3 [(0, .ref (a 0)), (1, .int v1), (2, .int v2)] → wp_X5_take_76 K S v1 v2 → W p l e ({ frames := 3, cells := 0, slots := 0, locals := 71 } : Room) s m args below meth c H locs 0 0 (MQ below (va_Qi K (BW dC dI A (fun u => mdW y a u)) A) args s 0 0 A) (F0 m 76 ls []) := by
  obtain ⟨hx, hb, hr, hml, hown, hts, hlocks, hA, hK⟩ := id C0
  have w81 := hts (Cond.fieldLink RX5 81 "SharedWireModel" "run" "[I") (List.mem_of_getElem? (i := 3) rfl)
  have w84 := hts (Cond.fieldLink RX5 84 "SharedWireModel" "last" "[I") (List.mem_of_getElem? (i := 4) rfl)
  have hinX5 : ∀ w ∈ wsX50, w ∈ wsX5_take := fun w h => List.mem_cons_of_mem _ (List.mem_append_right _ (h))
  intro S v1 v2 H locs ls hP hD hS hl hf
  obtain ⟨mI, mA, mL⟩ := S
  unfold wp_X5_take_76 at hf
  refine lv_aload_n hx hb dX5_take_76 rfl (lv_at hl 0 rfl) ?_
  refine va_get (D := (dC, dI)) (ci := 5) (v := .ref (a 27)) (C := RX5) (T := TX5) (N := 35) hx hb hts hinX5 hown hK.1 hP 0 rfl rfl 27 (by decide) w81 (fun _ h9 => h9) rfl dX5_take_77 ?_
  refine lv_iload_n hx hb dX5_take_80 rfl (lv_at hl 1 rfl) ?_
  refine lv_iload_n hx hb dX5_take_81 rfl (lv_at hl 2 rfl) ?_
  refine lv_aload_n hx hb dX5_take_82 rfl (lv_at hl 0 rfl) ?_
  refine va_get (D := (dC, dI)) (ci := 5) (v := .ref (a 28)) (C := RX5) (T := TX5) (N := 35) hx hb hts hinX5 hown hK.1 hP 0 rfl rfl 28 (by decide) w84 (fun _ h9 => h9) rfl dX5_take_83 ?_
  refine lv_iload_n hx hb dX5_take_86 rfl (lv_at hl 1 rfl) ?_
  have g8 := hf.1
  replace hf := hf.2
  refine ar_ild (f := (mA 28)) (j := v1.toNatClampNeg) hx hb hK.1 hP 25 0 rfl rfl rfl g8 dX5_take_87 ?_
  refine lv_icmp_ne (tgt := 102) hx hb dX5_take_88 (by decide) (fun c9 => ?_) (fun c9 => ?_)
  · replace hf := hf.1 c9
    refine lv_iconst (v := 1) hx hb dX5_take_102 (by decide) ?_
    exact j_X5_take_103 C0 a K (mI, mA, mL) v1 v2 1 v1 H locs ls hP hD hS (lv_sub hl [0, 1, 2] rfl) hf
  · replace hf := hf.2 c9
    refine lv_aload_n hx hb dX5_take_91 rfl (lv_at hl 0 rfl) ?_
    refine va_get (D := (dC, dI)) (ci := 5) (v := .ref (a 27)) (C := RX5) (T := TX5) (N := 35) hx hb hts hinX5 hown hK.1 hP 0 rfl rfl 27 (by decide) w81 (fun _ h9 => h9) rfl dX5_take_92 ?_
    refine lv_iload_n hx hb dX5_take_95 rfl (lv_at hl 1 rfl) ?_
    have g27 := hf.1
    replace hf := hf.2
    refine ar_ild (f := (mA 27)) (j := v1.toNatClampNeg) hx hb hK.1 hP 24 0 rfl rfl rfl g27 dX5_take_96 ?_
    refine lv_iconst (v := 1) hx hb dX5_take_97 (by decide) ?_
    refine lv_iadd hx hb dX5_take_98 ?_
    refine lv_goto (tgt := 103) hx hb dX5_take_99 (by decide) ?_
    exact j_X5_take_103 C0 a K (mI, mA, mL) v1 v2 (((mA 27) v1.toNatClampNeg) + 1) v1 H locs ls hP hD hS (lv_sub hl [0, 1, 2] rfl) hf
set_option maxHeartbeats 4000000 in
set_option maxRecDepth 100000 in
theorem c_X5_take (l : Launch) (dC : Nat → ClassId) (dI : Nat → Nat → Nat) (y : Nat → ClassId) (a : Nat → Nat) (sz : Nat) (S : ModelS) (p0 : Int32) (p1 : Int32) (K : Int32 → ModelS → Prop) (hf : wp_X5_take S p0 p1 K) : MI l yX5_take wsX5_take { frames := 3, cells := 0, slots := 0, locals := 71 } dC dI y [.ref (a 0), .int p0, .int p1] (mdW y a S) sz (fun u => mdW y a u) K := by
  refine Met.ofW (cc := cX5_take) (maxL := 3) (ret := (some .int)) (by decide) rfl ?_
  intro p e s m args below meth c s₁ B hml hv
  obtain ⟨rfl, hsz, hP, hK, hD0⟩ := hv
  have hx := B.exec
  have hb := B.bytes
  have hr := B.returns
  have hts := atoms_spec (ws := wsX5_take) B.pre
  have hown : s.vm.findClass RX5 = some m.cls := findClass_of_methodNamed B.named
  have hlocks := B.notSynchronized
  subst hsz
  have hD := hD0.self (sz := s.heap.size)
  generalize hAe : va_A (mdW y a S) s.heap.size = A at hD ⊢
  have hA : ∀ q : Nat, s.heap.size ≤ q → A q := fun q h => by rw [← hAe]; exact Or.inr h
  have hS : va_S A s.heap s.heap [] := va_S.rf
  have C0 : Cx p s m [.ref (a 0), .int p0, .int p1].toArray meth c cX5_take 3 (some .int) wsX5_take RX5 A dC dI y := ⟨hx, hb, hr, hml, hown, hts, hlocks, hA, hK⟩
  have w78 := hts (Cond.fieldLink RX5 78 "SharedWireModel" "count" "[I") (List.mem_of_getElem? (i := 1) rfl)
  have w81 := hts (Cond.fieldLink RX5 81 "SharedWireModel" "run" "[I") (List.mem_of_getElem? (i := 3) rfl)
  have w84 := hts (Cond.fieldLink RX5 84 "SharedWireModel" "last" "[I") (List.mem_of_getElem? (i := 4) rfl)
  have w87 := hts (Cond.fieldLink RX5 87 "SharedWireModel" "need" "[I") (List.mem_of_getElem? (i := 2) rfl)
  have hinX5 : ∀ w ∈ wsX50, w ∈ wsX5_take := fun w h => List.mem_cons_of_mem _ (List.mem_append_right _ (h))
  have hl := lv_entry ([.ref (a 0), .int p0, .int p1]) (n := 3) (Nat.le_of_ble_eq_true rfl)
  rw [lg_entry_eq]
  generalize (lg_sl ([.ref (a 0), .int p0, .int p1]) ++ List.replicate (3 - (lg_sl ([.ref (a 0), .int p0, .int p1])).length) Slot.unset).toArray = ls at hl ⊢
  have hl : lv_has ls 3 [(0, .ref (a 0)), (1, .int p0), (2, .int p1)] := hl
  obtain ⟨mI, mA, mL⟩ := S
  clear hAe hD0
  generalize hL0 : ([] : List Loc) = locs at hS ⊢
  unfold wp_X5_take at hf
  refine lv_aload_n hx hb dX5_take_0 rfl (lv_at hl 0 rfl) ?_
  refine va_get (D := (dC, dI)) (ci := 5) (v := .ref (a 26)) (C := RX5) (T := TX5) (N := 35) hx hb hts hinX5 hown hK.1 hP 0 rfl rfl 26 (by decide) w78 (fun _ h9 => h9) rfl dX5_take_1 ?_
  refine lv_iload_n hx hb dX5_take_4 rfl (lv_at hl 1 rfl) ?_
  have g1 := hf.1
  replace hf := hf.2
  refine ar_ild (f := (mA 26)) (j := p0.toNatClampNeg) hx hb hK.1 hP 23 0 rfl rfl rfl g1 dX5_take_5 ?_
  refine lv_aload_n hx hb dX5_take_6 rfl (lv_at hl 0 rfl) ?_
  refine va_get (D := (dC, dI)) (ci := 5) (v := .ref (a 29)) (C := RX5) (T := TX5) (N := 35) hx hb hts hinX5 hown hK.1 hP 0 rfl rfl 29 (by decide) w87 (fun _ h9 => h9) rfl dX5_take_7 ?_
  refine lv_iload_n hx hb dX5_take_10 rfl (lv_at hl 1 rfl) ?_
  have g2 := hf.1
  replace hf := hf.2
  refine ar_ild (f := (mA 29)) (j := p0.toNatClampNeg) hx hb hK.1 hP 26 0 rfl rfl rfl g2 dX5_take_11 ?_
  refine lv_icmp_ne (tgt := 22) hx hb dX5_take_12 (by decide) (fun c3 => ?_) (fun c3 => ?_)
  · replace hf := hf.1 c3
    refine lv_aload_n hx hb dX5_take_22 rfl (lv_at hl 0 rfl) ?_
    refine va_get (D := (dC, dI)) (ci := 5) (v := .ref (a 27)) (C := RX5) (T := TX5) (N := 35) hx hb hts hinX5 hown hK.1 hP 0 rfl rfl 27 (by decide) w81 (fun _ h9 => h9) rfl dX5_take_23 ?_
    refine lv_iload_n hx hb dX5_take_26 rfl (lv_at hl 1 rfl) ?_
    have g4 := hf.1
    replace hf := hf.2
    refine ar_ild (f := (mA 27)) (j := p0.toNatClampNeg) hx hb hK.1 hP 24 0 rfl rfl rfl g4 dX5_take_27 ?_
    refine lv_iconst (v := 5) hx hb dX5_take_28 (by decide) ?_
    refine lv_icmp_ne (tgt := 60) hx hb dX5_take_29 (by decide) (fun c5 => ?_) (fun c5 => ?_)
    · replace hf := hf.1 c5
      refine lv_aload_n hx hb dX5_take_60 rfl (lv_at hl 0 rfl) ?_
      refine va_get (D := (dC, dI)) (ci := 5) (v := .ref (a 26)) (C := RX5) (T := TX5) (N := 35) hx hb hts hinX5 hown hK.1 hP 0 rfl rfl 26 (by decide) w78 (fun _ h9 => h9) rfl dX5_take_61 ?_
      refine lv_iload_n hx hb dX5_take_64 rfl (lv_at hl 1 rfl) ?_
      have g6 := hf.1
      replace hf := hf.2
      refine ar_ild (f := (mA 26)) (j := p0.toNatClampNeg) hx hb hK.1 hP 23 0 rfl rfl rfl g6 dX5_take_65 ?_
      refine lv_if_ne (tgt := 76) hx hb dX5_take_66 (by decide) (fun c7 => ?_) (fun c7 => ?_)
      · replace hf := hf.1 c7
        exact j_X5_take_76 C0 a K (mI, mA, mL) p0 p1 s.heap locs ls hP hD hS (lv_sub hl [0, 1, 2] rfl) hf
      · replace hf := hf.2 c7
        refine lv_iload_n hx hb dX5_take_69 rfl (lv_at hl 2 rfl) ?_
        refine lv_iconst (v := 1) hx hb dX5_take_70 (by decide) ?_
        refine lv_icmp_ne (tgt := 76) hx hb dX5_take_71 (by decide) (fun c28 => ?_) (fun c28 => ?_)
        · replace hf := hf.1 c28
          exact j_X5_take_76 C0 a K (mI, mA, mL) p0 p1 s.heap locs ls hP hD hS (lv_sub hl [0, 1, 2] rfl) hf
        · replace hf := hf.2 c28
          refine lv_iconst (v := 3) hx hb dX5_take_74 (by decide) ?_
          exact W.iret (v := 3) hx hb hr (fun t ht hW => ⟨⟨3, (mI, mA, mL), rfl, hf, by rw [ht]; exact hP, hD⟩, hS.F ht⟩) hS.2.2 dX5_take_75
    · replace hf := hf.2 c5
      refine lv_iload_n hx hb dX5_take_32 rfl (lv_at hl 2 rfl) ?_
      refine lv_aload_n hx hb dX5_take_33 rfl (lv_at hl 0 rfl) ?_
      refine va_get (D := (dC, dI)) (ci := 5) (v := .ref (a 28)) (C := RX5) (T := TX5) (N := 35) hx hb hts hinX5 hown hK.1 hP 0 rfl rfl 28 (by decide) w84 (fun _ h9 => h9) rfl dX5_take_34 ?_
      refine lv_iload_n hx hb dX5_take_37 rfl (lv_at hl 1 rfl) ?_
      have g29 := hf.1
      replace hf := hf.2
      refine ar_ild (f := (mA 28)) (j := p0.toNatClampNeg) hx hb hK.1 hP 25 0 rfl rfl rfl g29 dX5_take_38 ?_
      refine lv_icmp_ne (tgt := 44) hx hb dX5_take_39 (by decide) (fun c30 => ?_) (fun c30 => ?_)
      · replace hf := hf.1 c30
        refine lv_aload_n hx hb dX5_take_44 rfl (lv_at hl 0 rfl) ?_
        refine va_get (D := (dC, dI)) (ci := 5) (v := .ref (a 28)) (C := RX5) (T := TX5) (N := 35) hx hb hts hinX5 hown hK.1 hP 0 rfl rfl 28 (by decide) w84 (fun _ h9 => h9) rfl dX5_take_45 ?_
        refine lv_iload_n hx hb dX5_take_48 rfl (lv_at hl 1 rfl) ?_
        refine lv_iload_n hx hb dX5_take_49 rfl (lv_at hl 2 rfl) ?_
        have g31 := hf.1
        replace hf := hf.2
        refine mst_28 (f := (mA 28)) (x := p1) (j := p0.toNatClampNeg) hx hb hK.1 hP hD hS rfl rfl g31 dX5_take_50 (fun H locs hP hD hS => ?_)
        refine lv_aload_n hx hb dX5_take_51 rfl (lv_at hl 0 rfl) ?_
        refine va_get (D := (dC, dI)) (ci := 5) (v := .ref (a 27)) (C := RX5) (T := TX5) (N := 35) hx hb hts hinX5 hown hK.1 hP 0 rfl rfl 27 (by decide) w81 (fun _ h9 => h9) rfl dX5_take_52 ?_
        refine lv_iload_n hx hb dX5_take_55 rfl (lv_at hl 1 rfl) ?_
        refine lv_iconst (v := 1) hx hb dX5_take_56 (by decide) ?_
        have g32 := hf.1
        replace hf := hf.2
        refine mst_27 (f := (mA 27)) (x := 1) (j := p0.toNatClampNeg) hx hb hK.1 hP hD hS rfl rfl g32 dX5_take_57 (fun H locs hP hD hS => ?_)
        refine lv_iconst (v := 0) hx hb dX5_take_58 (by decide) ?_
        exact W.iret (v := 0) hx hb hr (fun t ht hW => ⟨⟨0, (mI, va_up (va_up mA 28 (upd (mA 28) p0.toNatClampNeg p1)) 27 (upd (mA 27) p0.toNatClampNeg 1), mL), rfl, hf, by rw [ht]; exact hP, hD⟩, hS.F ht⟩) hS.2.2 dX5_take_59
      · replace hf := hf.2 c30
        refine lv_iconst (v := 1) hx hb dX5_take_42 (by decide) ?_
        exact W.iret (v := 1) hx hb hr (fun t ht hW => ⟨⟨1, (mI, mA, mL), rfl, hf, by rw [ht]; exact hP, hD⟩, hS.F ht⟩) hS.2.2 dX5_take_43
  · replace hf := hf.2 c3
    refine lv_aload_n hx hb dX5_take_15 rfl (lv_at hl 0 rfl) ?_
    refine lv_iload_n hx hb dX5_take_16 rfl (lv_at hl 1 rfl) ?_
    refine lv_iload_n hx hb dX5_take_17 rfl (lv_at hl 2 rfl) ?_
    refine k0i (As := [.int p0, .int p1]) (rest := []) ⟨hx, hb, hml, hown, hts⟩ (c_X5_takeTail l dC dI y a s.heap.size (mI, mA, mL) p0 p1 _ hf) (cwV 2 hts gX5_take_X5_takeTail rfl rfl rfl (by decide +kernel) ⟨Nat.le_of_ble_eq_true rfl, Nat.le_of_ble_eq_true rfl⟩) hK hP hD (va_recv hK.1 hP (ci := 5) (q0 := 0) rfl rfl) hS hA rfl hl.1 rfl (Nat.le_of_ble_eq_true rfl) dX5_take_18 ⟨Nat.zero_le _, Nat.zero_le _⟩ (fun r33 u34 H locs hf hP hD hS => ?_)
    have hP : va_P (dC, dI) vwCl (mdW y a (u34.1, u34.2.1, u34.2.2)) H := hP
    have hD : va_D A (mdW y a (u34.1, u34.2.1, u34.2.2)) := hD
    exact W.iret (v := r33) hx hb hr (fun t ht hW => ⟨⟨r33, (u34.1, u34.2.1, u34.2.2), rfl, hf, by rw [ht]; exact hP, hD⟩, hS.F ht⟩) hS.2.2 dX5_take_21

def wp_X5_answers_37 (K : Int32 → Prop) : ModelS → Prop := fun (mI, mA, mL) => K 0
def wp_X5_answers : ModelS → Int32 → (Int32 → Prop) → Prop := fun (mI, mA, mL) p0 K => (vp_in p0 5 ∧ (vp_in p0 5 ∧ ((¬ (mA 26) p0.toNatClampNeg = (mA 29) p0.toNatClampNeg → wp_X5_answers_37 K (mI, mA, mL)) ∧ ((mA 26) p0.toNatClampNeg = (mA 29) p0.toNatClampNeg → (vp_in p0 5 ∧ ((¬ (mA 30) p0.toNatClampNeg = 1 → wp_X5_answers_37 K (mI, mA, mL)) ∧ ((mA 30) p0.toNatClampNeg = 1 → wp_X5_isRight (mI, mA, mL) p0 (fun r6 => ((r6 = 0 → wp_X5_answers_37 K (mI, mA, mL)) ∧ (¬ r6 = 0 → K 1))))))))))
set_option maxHeartbeats 4000000 in
set_option maxRecDepth 100000 in
theorem j_X5_answers_37 {p : Program} {l : Launch} {e : Env} {s : State} {m : MethodId} {args : Array Value} {below : List Frame} {meth : Method} {c : Code} {dC : Nat → ClassId} {dI : Nat → Nat → Nat} {y : Nat → ClassId} {A : Nat → Prop} (C0 : Cx p s m args meth c cX5_answers 2 (some .boolean) wsX5_answers RX5 A dC dI y) (a : Nat → Nat) (K : Int32 → Prop) (S0 : ModelS) : ∀ (S : ModelS) (H : Heap) (locs : List Loc) (ls : Array Slot), va_P (dC, dI) vwCl (mdW y a S) H → va_D A (mdW y a S) → va_S A s.heap H locs → lv_has ls 2 [] → S = S0 → wp_X5_answers_37 K S → W p l e ({ frames := 2, cells := 0, slots := 0, locals := 48 } : Room) s m args below meth c H locs 0 0 (MQ below (va_Qi (fun r u => K r ∧ u = S0) (BW dC dI A (fun u => mdW y a u)) A) args s 0 0 A) (F0 m 37 ls []) := by
  obtain ⟨hx, hb, hr, hml, hown, hts, hlocks, hA, hK⟩ := id C0
  intro S H locs ls hP hD hS hl hSS hf
  obtain ⟨mI, mA, mL⟩ := S
  unfold wp_X5_answers_37 at hf
  refine lv_iconst (v := 0) hx hb dX5_answers_37 (by decide) ?_
  exact W.zret (v := 0) (ty := .boolean) hx hb hr rfl (fun t ht hW => ⟨⟨0, (mI, mA, mL), rfl, ⟨hf, hSS⟩, by rw [ht]; exact hP, hD⟩, hS.F ht⟩) hS.2.2 dX5_answers_38
set_option maxHeartbeats 4000000 in
set_option maxRecDepth 100000 in
theorem c_X5_answers (l : Launch) (dC : Nat → ClassId) (dI : Nat → Nat → Nat) (y : Nat → ClassId) (a : Nat → Nat) (sz : Nat) (S : ModelS) (p0 : Int32) (K : Int32 → Prop) (hf : wp_X5_answers S p0 K) : MI l yX5_answers wsX5_answers { frames := 2, cells := 0, slots := 0, locals := 48 } dC dI y [.ref (a 0), .int p0] (mdW y a S) sz (fun u => mdW y a u) (fun r u => K r ∧ u = S) := by
  refine Met.ofW (cc := cX5_answers) (maxL := 2) (ret := (some .boolean)) (by decide) rfl ?_
  intro p e s m args below meth c s₁ B hml hv
  obtain ⟨rfl, hsz, hP, hK, hD0⟩ := hv
  have hx := B.exec
  have hb := B.bytes
  have hr := B.returns
  have hts := atoms_spec (ws := wsX5_answers) B.pre
  have hown : s.vm.findClass RX5 = some m.cls := findClass_of_methodNamed B.named
  have hlocks := B.notSynchronized
  subst hsz
  have hD := hD0.self (sz := s.heap.size)
  generalize hAe : va_A (mdW y a S) s.heap.size = A at hD ⊢
  have hA : ∀ q : Nat, s.heap.size ≤ q → A q := fun q h => by rw [← hAe]; exact Or.inr h
  have hS : va_S A s.heap s.heap [] := va_S.rf
  have C0 : Cx p s m [.ref (a 0), .int p0].toArray meth c cX5_answers 2 (some .boolean) wsX5_answers RX5 A dC dI y := ⟨hx, hb, hr, hml, hown, hts, hlocks, hA, hK⟩
  have w78 := hts (.fieldLink RX5 78 "SharedWireModel" "count" "[I") (List.mem_of_getElem? (i := 1) rfl)
  have w87 := hts (.fieldLink RX5 87 "SharedWireModel" "need" "[I") (List.mem_of_getElem? (i := 2) rfl)
  have w90 := hts (.fieldLink RX5 90 "SharedWireModel" "tail" "[I") (List.mem_of_getElem? (i := 3) rfl)
  have hinX5 : ∀ w ∈ wsX50, w ∈ wsX5_answers := fun w h => List.mem_cons_of_mem _ (List.mem_append_right _ (h))
  have hl := lv_entry ([.ref (a 0), .int p0]) (n := 2) (Nat.le_of_ble_eq_true rfl)
  rw [lg_entry_eq]
  generalize (lg_sl ([.ref (a 0), .int p0]) ++ List.replicate (2 - (lg_sl ([.ref (a 0), .int p0])).length) Slot.unset).toArray = ls at hl ⊢
  have hl : lv_has ls 2 [(0, .ref (a 0)), (1, .int p0)] := hl
  obtain ⟨mI, mA, mL⟩ := S
  have hSS : (mI, mA, mL) = (mI, mA, mL) := rfl
  clear hAe hD0
  generalize hL0 : ([] : List Loc) = locs at hS ⊢
  unfold wp_X5_answers at hf
  refine lv_aload_n hx hb dX5_answers_0 rfl (lv_at hl 0 rfl) ?_
  refine va_get (D := (dC, dI)) (ci := 5) (v := .ref (a 26)) (C := RX5) (T := TX5) (N := 35) hx hb hts hinX5 hown hK.1 hP 0 rfl rfl 26 (by decide) w78 (fun _ h9 => h9) rfl dX5_answers_1 ?_
  refine lv_iload_n hx hb dX5_answers_4 rfl (lv_at hl 1 rfl) ?_
  have g1 := hf.1
  replace hf := hf.2
  refine ar_ild (f := (mA 26)) (j := p0.toNatClampNeg) hx hb hK.1 hP 23 0 rfl rfl rfl g1 dX5_answers_5 ?_
  refine lv_aload_n hx hb dX5_answers_6 rfl (lv_at hl 0 rfl) ?_
  refine va_get (D := (dC, dI)) (ci := 5) (v := .ref (a 29)) (C := RX5) (T := TX5) (N := 35) hx hb hts hinX5 hown hK.1 hP 0 rfl rfl 29 (by decide) w87 (fun _ h9 => h9) rfl dX5_answers_7 ?_
  refine lv_iload_n hx hb dX5_answers_10 rfl (lv_at hl 1 rfl) ?_
  have g2 := hf.1
  replace hf := hf.2
  refine ar_ild (f := (mA 29)) (j := p0.toNatClampNeg) hx hb hK.1 hP 26 0 rfl rfl rfl g2 dX5_answers_11 ?_
  refine lv_icmp_ne (tgt := 37) hx hb dX5_answers_12 (by decide) (fun c3 => ?_) (fun c3 => ?_)
  · replace hf := hf.1 c3
    exact j_X5_answers_37 C0 a K _ (mI, mA, mL) s.heap locs ls hP hD hS (lv_sub hl [] rfl) hSS hf
  · replace hf := hf.2 c3
    refine lv_aload_n hx hb dX5_answers_15 rfl (lv_at hl 0 rfl) ?_
    refine va_get (D := (dC, dI)) (ci := 5) (v := .ref (a 30)) (C := RX5) (T := TX5) (N := 35) hx hb hts hinX5 hown hK.1 hP 0 rfl rfl 30 (by decide) w90 (fun _ h9 => h9) rfl dX5_answers_16 ?_
    refine lv_iload_n hx hb dX5_answers_19 rfl (lv_at hl 1 rfl) ?_
    have g4 := hf.1
    replace hf := hf.2
    refine ar_ild (f := (mA 30)) (j := p0.toNatClampNeg) hx hb hK.1 hP 27 0 rfl rfl rfl g4 dX5_answers_20 ?_
    refine lv_iconst (v := 1) hx hb dX5_answers_21 (by decide) ?_
    refine lv_icmp_ne (tgt := 37) hx hb dX5_answers_22 (by decide) (fun c5 => ?_) (fun c5 => ?_)
    · replace hf := hf.1 c5
      exact j_X5_answers_37 C0 a K _ (mI, mA, mL) s.heap locs ls hP hD hS (lv_sub hl [] rfl) hSS hf
    · replace hf := hf.2 c5
      refine lv_aload_n hx hb dX5_answers_25 rfl (lv_at hl 0 rfl) ?_
      refine lv_iload_n hx hb dX5_answers_26 rfl (lv_at hl 1 rfl) ?_
      refine k0i (As := [.int p0]) (rest := []) ⟨hx, hb, hml, hown, hts⟩ (c_X5_isRight l dC dI y a s.heap.size (mI, mA, mL) p0 _ hf) (cwV 1 hts gX5_answers_X5_isRight rfl rfl rfl (by decide +kernel) ⟨Nat.le_of_ble_eq_true rfl, Nat.le_of_ble_eq_true rfl⟩) hK hP hD (va_recv hK.1 hP (ci := 5) (q0 := 0) rfl rfl) hS hA rfl hl.1 rfl (Nat.le_of_ble_eq_true rfl) dX5_answers_27 ⟨Nat.zero_le _, Nat.zero_le _⟩ (fun r6 u7 H locs hf hP hD hS => ?_)
      obtain ⟨hf, e9⟩ := hf
      have e9 := e9.symm
      subst e9
      have hP : va_P (dC, dI) vwCl (mdW y a (mI, mA, mL)) H := hP
      have hD : va_D A (mdW y a (mI, mA, mL)) := hD
      refine lv_if_eq (tgt := 37) hx hb dX5_answers_30 (by decide) (fun c8 => ?_) (fun c8 => ?_)
      · replace hf := hf.1 c8
        exact j_X5_answers_37 C0 a K _ (mI, mA, mL) H locs ls hP hD hS (lv_sub hl [] rfl) hSS hf
      · replace hf := hf.2 c8
        refine lv_iconst (v := 1) hx hb dX5_answers_33 (by decide) ?_
        refine lv_goto (tgt := 38) hx hb dX5_answers_34 (by decide) ?_
        exact W.zret (v := 1) (ty := .boolean) hx hb hr rfl (fun t ht hW => ⟨⟨1, (mI, mA, mL), rfl, ⟨hf, hSS⟩, by rw [ht]; exact hP, hD⟩, hS.F ht⟩) hS.2.2 dX5_answers_38

def wp_X5_key : Int32 → Int32 → (Int32 → Prop) → Prop := fun p0 p1 K => ((p0 = 0 → K p1) ∧ (¬ p0 = 0 → K (p1 >>> (18 &&& 31))))
set_option maxHeartbeats 4000000 in
set_option maxRecDepth 100000 in
theorem c_X5_key (l : Launch) (dC : Nat → ClassId) (dI : Nat → Nat → Nat) (y : Nat → ClassId) (sz : Nat) (p0 : Int32) (p1 : Int32) (K : Int32 → Prop) (hf : wp_X5_key p0 p1 K) : MS l yX5_key wsX5_key { frames := 0, cells := 0, slots := 0, locals := 0 } dC dI y [.int p0, .int p1] sz K := by
  refine Met.ofW (cc := cX5_key) (maxL := 2) (ret := (some .int)) (by decide) rfl ?_
  intro p e s m args below meth c s₁ B hml hv
  obtain ⟨rfl, hsz, hP, hK, hD0⟩ := hv
  have hx := B.exec
  have hb := B.bytes
  have hr := B.returns
  have hts := atoms_spec (ws := wsX5_key) B.pre
  have hown : s.vm.findClass RX5 = some m.cls := findClass_of_methodNamed B.named
  have hlocks := B.notSynchronized
  subst hsz
  have hD := hD0.self (sz := s.heap.size)
  generalize hAe : va_A ([]) s.heap.size = A at hD ⊢
  have hA : ∀ q : Nat, s.heap.size ≤ q → A q := fun q h => by rw [← hAe]; exact Or.inr h
  have hS : va_S A s.heap s.heap [] := va_S.rf
  have C0 : Cx p s m [.int p0, .int p1].toArray meth c cX5_key 2 (some .int) wsX5_key RX5 A dC dI y := ⟨hx, hb, hr, hml, hown, hts, hlocks, hA, hK⟩
  have hl := lv_entry ([.int p0, .int p1]) (n := 2) (Nat.le_of_ble_eq_true rfl)
  rw [lg_entry_eq]
  generalize (lg_sl ([.int p0, .int p1]) ++ List.replicate (2 - (lg_sl ([.int p0, .int p1])).length) Slot.unset).toArray = ls at hl ⊢
  have hl : lv_has ls 2 [(0, .int p0), (1, .int p1)] := hl
  clear hAe hD0
  generalize hL0 : ([] : List Loc) = locs at hS ⊢
  unfold wp_X5_key at hf
  refine lv_iload_n hx hb dX5_key_0 rfl (lv_at hl 0 rfl) ?_
  refine lv_if_eq (tgt := 11) hx hb dX5_key_1 (by decide) (fun c1 => ?_) (fun c1 => ?_)
  · replace hf := hf.1 c1
    refine lv_iload_n hx hb dX5_key_11 rfl (lv_at hl 1 rfl) ?_
    exact W.iret (v := p1) hx hb hr (fun t ht hW => ⟨⟨p1, (), rfl, hf, by rw [ht]; exact hP, hD⟩, hS.F ht⟩) hS.2.2 dX5_key_12
  · replace hf := hf.2 c1
    refine lv_iload_n hx hb dX5_key_4 rfl (lv_at hl 1 rfl) ?_
    refine lv_bipush (v := 18) hx hb dX5_key_5 (by decide) ?_
    refine lv_ishr hx hb dX5_key_7 ?_
    refine lv_goto (tgt := 12) hx hb dX5_key_8 (by decide) ?_
    exact W.iret (v := p1 >>> (18 &&& 31)) hx hb hr (fun t ht hW => ⟨⟨p1 >>> (18 &&& 31), (), rfl, hf, by rw [ht]; exact hP, hD⟩, hS.F ht⟩) hS.2.2 dX5_key_12

def wp_X5_comesFirst : ModelS → Int32 → Int32 → (Int32 → Prop) → Prop := fun (mI, mA, mL) p0 p1 K => (vp_in p0 16 ∧ (vp_in p0 16 ∧ wp_X5_key ((mA 10) p0.toNatClampNeg) ((mA 11) p0.toNatClampNeg) (fun r3 => (vp_in p1 16 ∧ (vp_in p1 16 ∧ wp_X5_key ((mA 10) p1.toNatClampNeg) ((mA 11) p1.toNatClampNeg) (fun r6 => ((r3 = r6 → (vp_in p0 16 ∧ (vp_in p1 16 ∧ (((mA 10) p0.toNatClampNeg = (mA 10) p1.toNatClampNeg → (vp_in p0 16 ∧ (vp_in p1 16 ∧ (((mA 11) p1.toNatClampNeg ≤ (mA 11) p0.toNatClampNeg → K 0) ∧ (¬ (mA 11) p1.toNatClampNeg ≤ (mA 11) p0.toNatClampNeg → K 1))))) ∧ (¬ (mA 10) p0.toNatClampNeg = (mA 10) p1.toNatClampNeg → (vp_in p1 16 ∧ (bz ((mA 10) p1.toNatClampNeg) ∧ K ((mA 10) p1.toNatClampNeg)))))))) ∧ (¬ r3 = r6 → ((r6 ≤ r3 → K 0) ∧ (¬ r6 ≤ r3 → K 1))))))))))
set_option maxHeartbeats 4000000 in
set_option maxRecDepth 100000 in
theorem c_X5_comesFirst (l : Launch) (dC : Nat → ClassId) (dI : Nat → Nat → Nat) (y : Nat → ClassId) (a : Nat → Nat) (sz : Nat) (S : ModelS) (p0 : Int32) (p1 : Int32) (K : Int32 → Prop) (hf : wp_X5_comesFirst S p0 p1 K) : MI l yX5_comesFirst wsX5_comesFirst { frames := 1, cells := 0, slots := 0, locals := 21 } dC dI y [.ref (a 0), .int p0, .int p1] (mdW y a S) sz (fun u => mdW y a u) (fun r u => K r ∧ u = S) := by
  refine Met.ofW (cc := cX5_comesFirst) (maxL := 5) (ret := (some .boolean)) (by decide) rfl ?_
  intro p e s m args below meth c s₁ B hml hv
  obtain ⟨rfl, hsz, hP, hK, hD0⟩ := hv
  have hx := B.exec
  have hb := B.bytes
  have hr := B.returns
  have hts := atoms_spec (ws := wsX5_comesFirst) B.pre
  have hown : s.vm.findClass RX5 = some m.cls := findClass_of_methodNamed B.named
  have hlocks := B.notSynchronized
  subst hsz
  have hD := hD0.self (sz := s.heap.size)
  generalize hAe : va_A (mdW y a S) s.heap.size = A at hD ⊢
  have hA : ∀ q : Nat, s.heap.size ≤ q → A q := fun q h => by rw [← hAe]; exact Or.inr h
  have hS : va_S A s.heap s.heap [] := va_S.rf
  have C0 : Cx p s m [.ref (a 0), .int p0, .int p1].toArray meth c cX5_comesFirst 5 (some .boolean) wsX5_comesFirst RX5 A dC dI y := ⟨hx, hb, hr, hml, hown, hts, hlocks, hA, hK⟩
  have w31 := hts (.fieldLink RX5 31 "SharedWireModel" "longs" "[Z") (List.mem_of_getElem? (i := 1) rfl)
  have w35 := hts (.fieldLink RX5 35 "SharedWireModel" "identifiers" "[I") (List.mem_of_getElem? (i := 2) rfl)
  have hinX5 : ∀ w ∈ wsX50, w ∈ wsX5_comesFirst := fun w h => List.mem_cons_of_mem _ (List.mem_append_right _ (h))
  have hl := lv_entry ([.ref (a 0), .int p0, .int p1]) (n := 5) (Nat.le_of_ble_eq_true rfl)
  rw [lg_entry_eq]
  generalize (lg_sl ([.ref (a 0), .int p0, .int p1]) ++ List.replicate (5 - (lg_sl ([.ref (a 0), .int p0, .int p1])).length) Slot.unset).toArray = ls at hl ⊢
  have hl : lv_has ls 5 [(0, .ref (a 0)), (1, .int p0), (2, .int p1)] := hl
  obtain ⟨mI, mA, mL⟩ := S
  have hSS : (mI, mA, mL) = (mI, mA, mL) := rfl
  clear hAe hD0
  generalize hL0 : ([] : List Loc) = locs at hS ⊢
  unfold wp_X5_comesFirst at hf
  refine lv_aload_n hx hb dX5_comesFirst_0 rfl (lv_at hl 0 rfl) ?_
  refine va_get (D := (dC, dI)) (ci := 5) (v := .ref (a 10)) (C := RX5) (T := TX5) (N := 35) hx hb hts hinX5 hown hK.1 hP 0 rfl rfl 10 (by decide) w31 (fun _ h9 => h9) rfl dX5_comesFirst_1 ?_
  refine lv_iload_n hx hb dX5_comesFirst_4 rfl (lv_at hl 1 rfl) ?_
  have g1 := hf.1
  replace hf := hf.2
  refine ar_zld (f := (mA 10)) (j := p0.toNatClampNeg) hx hb hK.1 hP 8 2 rfl rfl rfl g1 dX5_comesFirst_5 ?_
  refine lv_aload_n hx hb dX5_comesFirst_6 rfl (lv_at hl 0 rfl) ?_
  refine va_get (D := (dC, dI)) (ci := 5) (v := .ref (a 11)) (C := RX5) (T := TX5) (N := 35) hx hb hts hinX5 hown hK.1 hP 0 rfl rfl 11 (by decide) w35 (fun _ h9 => h9) rfl dX5_comesFirst_7 ?_
  refine lv_iload_n hx hb dX5_comesFirst_10 rfl (lv_at hl 1 rfl) ?_
  have g2 := hf.1
  replace hf := hf.2
  refine ar_ild (f := (mA 11)) (j := p0.toNatClampNeg) hx hb hK.1 hP 9 0 rfl rfl rfl g2 dX5_comesFirst_11 ?_
  refine kSi (As := [.int ((mA 10) p0.toNatClampNeg), .int ((mA 11) p0.toNatClampNeg)]) (rest := []) ⟨hx, hb, hml, hown, hts⟩ (c_X5_key l dC dI y s.heap.size ((mA 10) p0.toNatClampNeg) ((mA 11) p0.toNatClampNeg) _ hf) (va_cwS 2 hts gX5_comesFirst_X5_key rfl rfl rfl (by decide +kernel) ⟨Nat.le_of_ble_eq_true rfl, Nat.le_of_ble_eq_true rfl⟩) hK hP hD hS hA rfl hl.1 rfl (Nat.le_of_ble_eq_true rfl) dX5_comesFirst_12 ⟨Nat.zero_le _, Nat.zero_le _⟩ (fun r3 H locs hf hP hD hS => ?_)
  refine lv_istore_n (lv' := [(3, .int r3), (0, .ref (a 0)), (1, .int p0), (2, .int p1)]) hx hb dX5_comesFirst_15 rfl hl (by decide) rfl (fun ls hl => ?_)
  refine lv_aload_n hx hb dX5_comesFirst_16 rfl (lv_at hl 1 rfl) ?_
  refine va_get (D := (dC, dI)) (ci := 5) (v := .ref (a 10)) (C := RX5) (T := TX5) (N := 35) hx hb hts hinX5 hown hK.1 hP 0 rfl rfl 10 (by decide) w31 (fun _ h9 => h9) rfl dX5_comesFirst_17 ?_
  refine lv_iload_n hx hb dX5_comesFirst_20 rfl (lv_at hl 3 rfl) ?_
  have g4 := hf.1
  replace hf := hf.2
  refine ar_zld (f := (mA 10)) (j := p1.toNatClampNeg) hx hb hK.1 hP 8 2 rfl rfl rfl g4 dX5_comesFirst_21 ?_
  refine lv_aload_n hx hb dX5_comesFirst_22 rfl (lv_at hl 1 rfl) ?_
  refine va_get (D := (dC, dI)) (ci := 5) (v := .ref (a 11)) (C := RX5) (T := TX5) (N := 35) hx hb hts hinX5 hown hK.1 hP 0 rfl rfl 11 (by decide) w35 (fun _ h9 => h9) rfl dX5_comesFirst_23 ?_
  refine lv_iload_n hx hb dX5_comesFirst_26 rfl (lv_at hl 3 rfl) ?_
  have g5 := hf.1
  replace hf := hf.2
  refine ar_ild (f := (mA 11)) (j := p1.toNatClampNeg) hx hb hK.1 hP 9 0 rfl rfl rfl g5 dX5_comesFirst_27 ?_
  refine kSi (As := [.int ((mA 10) p1.toNatClampNeg), .int ((mA 11) p1.toNatClampNeg)]) (rest := []) ⟨hx, hb, hml, hown, hts⟩ (c_X5_key l dC dI y H.size ((mA 10) p1.toNatClampNeg) ((mA 11) p1.toNatClampNeg) _ hf) (va_cwS 2 hts gX5_comesFirst_X5_key rfl rfl rfl (by decide +kernel) ⟨Nat.le_of_ble_eq_true rfl, Nat.le_of_ble_eq_true rfl⟩) hK hP hD hS hA rfl hl.1 rfl (Nat.le_of_ble_eq_true rfl) dX5_comesFirst_28 ⟨Nat.zero_le _, Nat.zero_le _⟩ (fun r6 H locs hf hP hD hS => ?_)
  refine lv_istore (lv' := [(4, .int r6), (3, .int r3), (0, .ref (a 0)), (1, .int p0), (2, .int p1)]) hx hb dX5_comesFirst_31 hl (by decide) rfl (fun ls hl => ?_)
  refine lv_iload_n hx hb dX5_comesFirst_33 rfl (lv_at hl 1 rfl) ?_
  refine lv_iload hx hb dX5_comesFirst_34 (lv_at hl 0 rfl) ?_
  refine lv_icmp_eq (tgt := 51) hx hb dX5_comesFirst_36 (by decide) (fun c7 => ?_) (fun c7 => ?_)
  · replace hf := hf.1 c7
    refine lv_aload_n hx hb dX5_comesFirst_51 rfl (lv_at hl 2 rfl) ?_
    refine va_get (D := (dC, dI)) (ci := 5) (v := .ref (a 10)) (C := RX5) (T := TX5) (N := 35) hx hb hts hinX5 hown hK.1 hP 0 rfl rfl 10 (by decide) w31 (fun _ h9 => h9) rfl dX5_comesFirst_52 ?_
    refine lv_iload_n hx hb dX5_comesFirst_55 rfl (lv_at hl 3 rfl) ?_
    have g8 := hf.1
    replace hf := hf.2
    refine ar_zld (f := (mA 10)) (j := p0.toNatClampNeg) hx hb hK.1 hP 8 2 rfl rfl rfl g8 dX5_comesFirst_56 ?_
    refine lv_aload_n hx hb dX5_comesFirst_57 rfl (lv_at hl 2 rfl) ?_
    refine va_get (D := (dC, dI)) (ci := 5) (v := .ref (a 10)) (C := RX5) (T := TX5) (N := 35) hx hb hts hinX5 hown hK.1 hP 0 rfl rfl 10 (by decide) w31 (fun _ h9 => h9) rfl dX5_comesFirst_58 ?_
    refine lv_iload_n hx hb dX5_comesFirst_61 rfl (lv_at hl 4 rfl) ?_
    have g9 := hf.1
    replace hf := hf.2
    refine ar_zld (f := (mA 10)) (j := p1.toNatClampNeg) hx hb hK.1 hP 8 2 rfl rfl rfl g9 dX5_comesFirst_62 ?_
    refine lv_icmp_eq (tgt := 73) hx hb dX5_comesFirst_63 (by decide) (fun c10 => ?_) (fun c10 => ?_)
    · replace hf := hf.1 c10
      refine lv_aload_n hx hb dX5_comesFirst_73 rfl (lv_at hl 2 rfl) ?_
      refine va_get (D := (dC, dI)) (ci := 5) (v := .ref (a 11)) (C := RX5) (T := TX5) (N := 35) hx hb hts hinX5 hown hK.1 hP 0 rfl rfl 11 (by decide) w35 (fun _ h9 => h9) rfl dX5_comesFirst_74 ?_
      refine lv_iload_n hx hb dX5_comesFirst_77 rfl (lv_at hl 3 rfl) ?_
      have g11 := hf.1
      replace hf := hf.2
      refine ar_ild (f := (mA 11)) (j := p0.toNatClampNeg) hx hb hK.1 hP 9 0 rfl rfl rfl g11 dX5_comesFirst_78 ?_
      refine lv_aload_n hx hb dX5_comesFirst_79 rfl (lv_at hl 2 rfl) ?_
      refine va_get (D := (dC, dI)) (ci := 5) (v := .ref (a 11)) (C := RX5) (T := TX5) (N := 35) hx hb hts hinX5 hown hK.1 hP 0 rfl rfl 11 (by decide) w35 (fun _ h9 => h9) rfl dX5_comesFirst_80 ?_
      refine lv_iload_n hx hb dX5_comesFirst_83 rfl (lv_at hl 4 rfl) ?_
      have g12 := hf.1
      replace hf := hf.2
      refine ar_ild (f := (mA 11)) (j := p1.toNatClampNeg) hx hb hK.1 hP 9 0 rfl rfl rfl g12 dX5_comesFirst_84 ?_
      refine lv_icmp_ge (tgt := 92) hx hb dX5_comesFirst_85 (by decide) (fun c13 => ?_) (fun c13 => ?_)
      · replace hf := hf.1 c13
        refine lv_iconst (v := 0) hx hb dX5_comesFirst_92 (by decide) ?_
        exact W.zret (v := 0) (ty := .boolean) hx hb hr rfl (fun t ht hW => ⟨⟨0, (mI, mA, mL), rfl, ⟨hf, hSS⟩, by rw [ht]; exact hP, hD⟩, hS.F ht⟩) hS.2.2 dX5_comesFirst_93
      · replace hf := hf.2 c13
        refine lv_iconst (v := 1) hx hb dX5_comesFirst_88 (by decide) ?_
        refine lv_goto (tgt := 93) hx hb dX5_comesFirst_89 (by decide) ?_
        exact W.zret (v := 1) (ty := .boolean) hx hb hr rfl (fun t ht hW => ⟨⟨1, (mI, mA, mL), rfl, ⟨hf, hSS⟩, by rw [ht]; exact hP, hD⟩, hS.F ht⟩) hS.2.2 dX5_comesFirst_93
    · replace hf := hf.2 c10
      refine lv_aload_n hx hb dX5_comesFirst_66 rfl (lv_at hl 2 rfl) ?_
      refine va_get (D := (dC, dI)) (ci := 5) (v := .ref (a 10)) (C := RX5) (T := TX5) (N := 35) hx hb hts hinX5 hown hK.1 hP 0 rfl rfl 10 (by decide) w31 (fun _ h9 => h9) rfl dX5_comesFirst_67 ?_
      refine lv_iload_n hx hb dX5_comesFirst_70 rfl (lv_at hl 4 rfl) ?_
      have g14 := hf.1
      replace hf := hf.2
      refine ar_zld (f := (mA 10)) (j := p1.toNatClampNeg) hx hb hK.1 hP 8 2 rfl rfl rfl g14 dX5_comesFirst_71 ?_
      exact W.zret (v := (mA 10) p1.toNatClampNeg) (ty := .boolean) hx hb hr hf.1.1 (fun t ht hW => ⟨⟨(mA 10) p1.toNatClampNeg, (mI, mA, mL), rfl, ⟨hf.2, hSS⟩, by rw [ht]; exact hP, hD⟩, hS.F ht⟩) hS.2.2 dX5_comesFirst_72
  · replace hf := hf.2 c7
    refine lv_iload_n hx hb dX5_comesFirst_39 rfl (lv_at hl 1 rfl) ?_
    refine lv_iload hx hb dX5_comesFirst_40 (lv_at hl 0 rfl) ?_
    refine lv_icmp_ge (tgt := 49) hx hb dX5_comesFirst_42 (by decide) (fun c15 => ?_) (fun c15 => ?_)
    · replace hf := hf.1 c15
      refine lv_iconst (v := 0) hx hb dX5_comesFirst_49 (by decide) ?_
      exact W.zret (v := 0) (ty := .boolean) hx hb hr rfl (fun t ht hW => ⟨⟨0, (mI, mA, mL), rfl, ⟨hf, hSS⟩, by rw [ht]; exact hP, hD⟩, hS.F ht⟩) hS.2.2 dX5_comesFirst_50
    · replace hf := hf.2 c15
      refine lv_iconst (v := 1) hx hb dX5_comesFirst_45 (by decide) ?_
      refine lv_goto (tgt := 50) hx hb dX5_comesFirst_46 (by decide) ?_
      exact W.zret (v := 1) (ty := .boolean) hx hb hr rfl (fun t ht hW => ⟨⟨1, (mI, mA, mL), rfl, ⟨hf, hSS⟩, by rw [ht]; exact hP, hD⟩, hS.F ht⟩) hS.2.2 dX5_comesFirst_50

def wp_X5_offer_40 (K : Int32 → Prop) (C : ModelS → Int32 → Int32 → Int32 → Prop) : ModelS → Int32 → Int32 → Int32 → Prop := fun (mI, mA, mL) v1 v3 k0 => (∀ n4 : Int32, n4 = v3 + 1 → C (mI, mA, mL) v1 k0 n4)
def wp_X5_offer_31 (K : Int32 → Prop) (C : ModelS → Int32 → Int32 → Int32 → Prop) : ModelS → Int32 → Int32 → Prop := fun (mI, mA, mL) v1 v3 => wp_X5_offer_40 K C (mI, mA, mL) v1 v3 ((4 * v1) + v3)
def wp_X5_offer_4 (K : Int32 → Prop) : Nat → ModelS → Int32 → Int32 → Int32 → Prop
  | 0, _, _, _, _ => False
  | n + 1, (mI, mA, mL), v1, v2, v3 => (vp_in v1 4 ∧ (((mA 9) v1.toNatClampNeg ≤ v3 → K v2) ∧ (¬ (mA 9) v1.toNatClampNeg ≤ v3 → ((v2 < 0 → wp_X5_offer_31 K (wp_X5_offer_4 K n) (mI, mA, mL) v1 v3) ∧ (¬ v2 < 0 → wp_X5_comesFirst (mI, mA, mL) ((4 * v1) + v3) v2 (fun r5 => ((r5 = 0 → wp_X5_offer_40 K (wp_X5_offer_4 K n) (mI, mA, mL) v1 v3 v2) ∧ (¬ r5 = 0 → wp_X5_offer_31 K (wp_X5_offer_4 K n) (mI, mA, mL) v1 v3))))))))
def wp_X5_offer : ModelS → Int32 → (Int32 → Prop) → Prop := fun (mI, mA, mL) p0 K => wp_X5_offer_4 K 1000 (mI, mA, mL) p0 (-1) 0
set_option maxHeartbeats 4000000 in
set_option maxRecDepth 100000 in
theorem j_X5_offer_40 {p : Program} {l : Launch} {e : Env} {s : State} {m : MethodId} {args : Array Value} {below : List Frame} {meth : Method} {c : Code} {dC : Nat → ClassId} {dI : Nat → Nat → Nat} {y : Nat → ClassId} {A : Nat → Prop} (C0 : Cx p s m args meth c cX5_offer 4 (some .int) wsX5_offer RX5 A dC dI y) (a : Nat → Nat) (K : Int32 → Prop) (S0 : ModelS) (C : ModelS → Int32 → Int32 → Int32 → Prop) (hC : ∀ (S : ModelS) (v1 : Int32) (v2 : Int32) (v3 : Int32) (H : Heap) (locs : List Loc) (ls : Array Slot), va_P (dC, dI) vwCl (mdW y a S) H → va_D A (mdW y a S) → va_S A s.heap H locs → lv_has ls 4 [(0, .ref (a 0)), (1, .int v1), (2, .int v2), (3, .int v3)] → S = S0 → C S v1 v2 v3 → W p l e ({ frames := 2, cells := 0, slots := 0, locals := 45 } : Room) s m args below meth c H locs 0 0 (MQ below (va_Qi (fun r u => K r ∧ u = S0) (BW dC dI A (fun u => mdW y a u)) A) args s 0 0 A) (F0 m 4 ls [])) : ∀ (S : ModelS) (v1 : Int32) (v3 : Int32) (k0 : Int32) (H : Heap) (locs : List Loc) (ls : Array Slot), va_P (dC, dI) vwCl (mdW y a S) H → va_D A (mdW y a S) → va_S A s.heap H locs → lv_has ls 4 [(0, .ref (a 0)), (1, .int v1), (3, .int v3)] → S = S0 → wp_X5_offer_40 K C S v1 v3 k0 → W p l e ({ frames := 2, cells := 0, slots := 0, locals := 45 } : Room) s m args below meth c H locs 0 0 (MQ below (va_Qi (fun r u => K r ∧ u = S0) (BW dC dI A (fun u => mdW y a u)) A) args s 0 0 A) (F0 m 40 ls [.int k0]) := by
  obtain ⟨hx, hb, hr, hml, hown, hts, hlocks, hA, hK⟩ := id C0
  intro S v1 v3 k0 H locs ls hP hD hS hl hSS hf
  obtain ⟨mI, mA, mL⟩ := S
  unfold wp_X5_offer_40 at hf
  refine lv_istore_n (lv' := [(2, .int k0), (0, .ref (a 0)), (1, .int v1), (3, .int v3)]) hx hb dX5_offer_40 rfl hl (by decide) rfl (fun ls hl => ?_)
  obtain ⟨n4, en4⟩ : ∃ z : Int32, z = v3 + 1 := ⟨_, rfl⟩
  replace hf := hf n4 en4
  refine lv_iinc (v := n4) (lv' := [(3, .int n4), (2, .int k0), (0, .ref (a 0)), (1, .int v1)]) hx hb dX5_offer_41 hl (k := 3) rfl (by rw [en4]; rfl) (by decide) rfl (fun ls hl => ?_)
  refine lv_goto (tgt := 4) hx hb dX5_offer_44 (by decide) ?_
  exact hC (mI, mA, mL) v1 k0 n4 H locs ls hP hD hS (lv_sub hl [2, 3, 1, 0] rfl) hSS hf
set_option maxHeartbeats 4000000 in
set_option maxRecDepth 100000 in
theorem j_X5_offer_31 {p : Program} {l : Launch} {e : Env} {s : State} {m : MethodId} {args : Array Value} {below : List Frame} {meth : Method} {c : Code} {dC : Nat → ClassId} {dI : Nat → Nat → Nat} {y : Nat → ClassId} {A : Nat → Prop} (C0 : Cx p s m args meth c cX5_offer 4 (some .int) wsX5_offer RX5 A dC dI y) (a : Nat → Nat) (K : Int32 → Prop) (S0 : ModelS) (C : ModelS → Int32 → Int32 → Int32 → Prop) (hC : ∀ (S : ModelS) (v1 : Int32) (v2 : Int32) (v3 : Int32) (H : Heap) (locs : List Loc) (ls : Array Slot), va_P (dC, dI) vwCl (mdW y a S) H → va_D A (mdW y a S) → va_S A s.heap H locs → lv_has ls 4 [(0, .ref (a 0)), (1, .int v1), (2, .int v2), (3, .int v3)] → S = S0 → C S v1 v2 v3 → W p l e ({ frames := 2, cells := 0, slots := 0, locals := 45 } : Room) s m args below meth c H locs 0 0 (MQ below (va_Qi (fun r u => K r ∧ u = S0) (BW dC dI A (fun u => mdW y a u)) A) args s 0 0 A) (F0 m 4 ls [])) : ∀ (S : ModelS) (v1 : Int32) (v3 : Int32) (H : Heap) (locs : List Loc) (ls : Array Slot), va_P (dC, dI) vwCl (mdW y a S) H → va_D A (mdW y a S) → va_S A s.heap H locs → lv_has ls 4 [(0, .ref (a 0)), (1, .int v1), (3, .int v3)] → S = S0 → wp_X5_offer_31 K C S v1 v3 → W p l e ({ frames := 2, cells := 0, slots := 0, locals := 45 } : Room) s m args below meth c H locs 0 0 (MQ below (va_Qi (fun r u => K r ∧ u = S0) (BW dC dI A (fun u => mdW y a u)) A) args s 0 0 A) (F0 m 31 ls []) := by
  obtain ⟨hx, hb, hr, hml, hown, hts, hlocks, hA, hK⟩ := id C0
  intro S v1 v3 H locs ls hP hD hS hl hSS hf
  obtain ⟨mI, mA, mL⟩ := S
  unfold wp_X5_offer_31 at hf
  refine lv_iconst (v := 4) hx hb dX5_offer_31 (by decide) ?_
  refine lv_iload_n hx hb dX5_offer_32 rfl (lv_at hl 1 rfl) ?_
  refine lv_imul hx hb dX5_offer_33 ?_
  refine lv_iload_n hx hb dX5_offer_34 rfl (lv_at hl 2 rfl) ?_
  refine lv_iadd hx hb dX5_offer_35 ?_
  refine lv_goto (tgt := 40) hx hb dX5_offer_36 (by decide) ?_
  exact j_X5_offer_40 C0 a K _ C hC (mI, mA, mL) v1 v3 ((4 * v1) + v3) H locs ls hP hD hS (lv_sub hl [0, 1, 2] rfl) hSS hf
set_option maxHeartbeats 4000000 in
set_option maxRecDepth 100000 in
theorem j_X5_offer_4 {p : Program} {l : Launch} {e : Env} {s : State} {m : MethodId} {args : Array Value} {below : List Frame} {meth : Method} {c : Code} {dC : Nat → ClassId} {dI : Nat → Nat → Nat} {y : Nat → ClassId} {A : Nat → Prop} (C0 : Cx p s m args meth c cX5_offer 4 (some .int) wsX5_offer RX5 A dC dI y) (a : Nat → Nat) (K : Int32 → Prop) (S0 : ModelS) : ∀ n : Nat, ∀ (S : ModelS) (v1 : Int32) (v2 : Int32) (v3 : Int32) (H : Heap) (locs : List Loc) (ls : Array Slot), va_P (dC, dI) vwCl (mdW y a S) H → va_D A (mdW y a S) → va_S A s.heap H locs → lv_has ls 4 [(0, .ref (a 0)), (1, .int v1), (2, .int v2), (3, .int v3)] → S = S0 → wp_X5_offer_4 K n S v1 v2 v3 → W p l e ({ frames := 2, cells := 0, slots := 0, locals := 45 } : Room) s m args below meth c H locs 0 0 (MQ below (va_Qi (fun r u => K r ∧ u = S0) (BW dC dI A (fun u => mdW y a u)) A) args s 0 0 A) (F0 m 4 ls []) := by
  obtain ⟨hx, hb, hr, hml, hown, hts, hlocks, hA, hK⟩ := id C0
  have w28 := hts (.fieldLink RX5 28 "SharedWireModel" "wants" "[I") (List.mem_of_getElem? (i := 1) rfl)
  have hinX5 : ∀ w ∈ wsX50, w ∈ wsX5_offer := fun w h => List.mem_cons_of_mem _ (List.mem_append_right _ (h))
  intro n
  induction n with
  | zero =>
    intro S v1 v2 v3 H locs ls hP hD hS hl hSS hf
    exact False.elim (by unfold wp_X5_offer_4 at hf; exact hf)
  | succ n ih =>
    intro S v1 v2 v3 H locs ls hP hD hS hl hSS hf
    obtain ⟨mI, mA, mL⟩ := S
    unfold wp_X5_offer_4 at hf
    refine lv_iload_n hx hb dX5_offer_4 rfl (lv_at hl 3 rfl) ?_
    refine lv_aload_n hx hb dX5_offer_5 rfl (lv_at hl 0 rfl) ?_
    refine va_get (D := (dC, dI)) (ci := 5) (v := .ref (a 9)) (C := RX5) (T := TX5) (N := 35) hx hb hts hinX5 hown hK.1 hP 0 rfl rfl 9 (by decide) w28 (fun _ h9 => h9) rfl dX5_offer_6 ?_
    refine lv_iload_n hx hb dX5_offer_9 rfl (lv_at hl 1 rfl) ?_
    have g1 := hf.1
    replace hf := hf.2
    refine ar_ild (f := (mA 9)) (j := v1.toNatClampNeg) hx hb hK.1 hP 7 0 rfl rfl rfl g1 dX5_offer_10 ?_
    refine lv_icmp_ge (tgt := 47) hx hb dX5_offer_11 (by decide) (fun c2 => ?_) (fun c2 => ?_)
    · replace hf := hf.1 c2
      refine lv_iload_n hx hb dX5_offer_47 rfl (lv_at hl 2 rfl) ?_
      exact W.iret (v := v2) hx hb hr (fun t ht hW => ⟨⟨v2, (mI, mA, mL), rfl, ⟨hf, hSS⟩, by rw [ht]; exact hP, hD⟩, hS.F ht⟩) hS.2.2 dX5_offer_48
    · replace hf := hf.2 c2
      refine lv_iload_n hx hb dX5_offer_14 rfl (lv_at hl 2 rfl) ?_
      refine lv_if_lt (tgt := 31) hx hb dX5_offer_15 (by decide) (fun c3 => ?_) (fun c3 => ?_)
      · replace hf := hf.1 c3
        exact j_X5_offer_31 C0 a K _ (wp_X5_offer_4 K n) ih (mI, mA, mL) v1 v3 H locs ls hP hD hS (lv_sub hl [0, 1, 3] rfl) hSS hf
      · replace hf := hf.2 c3
        refine lv_aload_n hx hb dX5_offer_18 rfl (lv_at hl 0 rfl) ?_
        refine lv_iconst (v := 4) hx hb dX5_offer_19 (by decide) ?_
        refine lv_iload_n hx hb dX5_offer_20 rfl (lv_at hl 1 rfl) ?_
        refine lv_imul hx hb dX5_offer_21 ?_
        refine lv_iload_n hx hb dX5_offer_22 rfl (lv_at hl 3 rfl) ?_
        refine lv_iadd hx hb dX5_offer_23 ?_
        refine lv_iload_n hx hb dX5_offer_24 rfl (lv_at hl 2 rfl) ?_
        refine k0i (As := [.int ((4 * v1) + v3), .int v2]) (rest := []) ⟨hx, hb, hml, hown, hts⟩ (c_X5_comesFirst l dC dI y a H.size (mI, mA, mL) ((4 * v1) + v3) v2 _ hf) (cwV 2 hts gX5_offer_X5_comesFirst rfl rfl rfl (by decide +kernel) ⟨Nat.le_of_ble_eq_true rfl, Nat.le_of_ble_eq_true rfl⟩) hK hP hD (va_recv hK.1 hP (ci := 5) (q0 := 0) rfl rfl) hS hA rfl hl.1 rfl (Nat.le_of_ble_eq_true rfl) dX5_offer_25 ⟨Nat.zero_le _, Nat.zero_le _⟩ (fun r5 u6 H locs hf hP hD hS => ?_)
        obtain ⟨hf, e9⟩ := hf
        have e9 := e9.symm
        subst e9
        have hP : va_P (dC, dI) vwCl (mdW y a (mI, mA, mL)) H := hP
        have hD : va_D A (mdW y a (mI, mA, mL)) := hD
        refine lv_if_eq (tgt := 39) hx hb dX5_offer_28 (by decide) (fun c7 => ?_) (fun c7 => ?_)
        · replace hf := hf.1 c7
          refine lv_iload_n hx hb dX5_offer_39 rfl (lv_at hl 2 rfl) ?_
          exact j_X5_offer_40 C0 a K _ (wp_X5_offer_4 K n) ih (mI, mA, mL) v1 v3 v2 H locs ls hP hD hS (lv_sub hl [0, 1, 3] rfl) hSS hf
        · replace hf := hf.2 c7
          exact j_X5_offer_31 C0 a K _ (wp_X5_offer_4 K n) ih (mI, mA, mL) v1 v3 H locs ls hP hD hS (lv_sub hl [0, 1, 3] rfl) hSS hf
set_option maxHeartbeats 4000000 in
set_option maxRecDepth 100000 in
theorem c_X5_offer (l : Launch) (dC : Nat → ClassId) (dI : Nat → Nat → Nat) (y : Nat → ClassId) (a : Nat → Nat) (sz : Nat) (S : ModelS) (p0 : Int32) (K : Int32 → Prop) (hf : wp_X5_offer S p0 K) : MI l yX5_offer wsX5_offer { frames := 2, cells := 0, slots := 0, locals := 45 } dC dI y [.ref (a 0), .int p0] (mdW y a S) sz (fun u => mdW y a u) (fun r u => K r ∧ u = S) := by
  refine Met.ofW (cc := cX5_offer) (maxL := 4) (ret := (some .int)) (by decide) rfl ?_
  intro p e s m args below meth c s₁ B hml hv
  obtain ⟨rfl, hsz, hP, hK, hD0⟩ := hv
  have hx := B.exec
  have hb := B.bytes
  have hr := B.returns
  have hts := atoms_spec (ws := wsX5_offer) B.pre
  have hown : s.vm.findClass RX5 = some m.cls := findClass_of_methodNamed B.named
  have hlocks := B.notSynchronized
  subst hsz
  have hD := hD0.self (sz := s.heap.size)
  generalize hAe : va_A (mdW y a S) s.heap.size = A at hD ⊢
  have hA : ∀ q : Nat, s.heap.size ≤ q → A q := fun q h => by rw [← hAe]; exact Or.inr h
  have hS : va_S A s.heap s.heap [] := va_S.rf
  have C0 : Cx p s m [.ref (a 0), .int p0].toArray meth c cX5_offer 4 (some .int) wsX5_offer RX5 A dC dI y := ⟨hx, hb, hr, hml, hown, hts, hlocks, hA, hK⟩
  have hl := lv_entry ([.ref (a 0), .int p0]) (n := 4) (Nat.le_of_ble_eq_true rfl)
  rw [lg_entry_eq]
  generalize (lg_sl ([.ref (a 0), .int p0]) ++ List.replicate (4 - (lg_sl ([.ref (a 0), .int p0])).length) Slot.unset).toArray = ls at hl ⊢
  have hl : lv_has ls 4 [(0, .ref (a 0)), (1, .int p0)] := hl
  obtain ⟨mI, mA, mL⟩ := S
  have hSS : (mI, mA, mL) = (mI, mA, mL) := rfl
  clear hAe hD0
  generalize hL0 : ([] : List Loc) = locs at hS ⊢
  unfold wp_X5_offer at hf
  refine lv_iconst (v := (-1)) hx hb dX5_offer_0 (by decide) ?_
  refine lv_istore_n (lv' := [(2, .int (-1)), (0, .ref (a 0)), (1, .int p0)]) hx hb dX5_offer_1 rfl hl (by decide) rfl (fun ls hl => ?_)
  refine lv_iconst (v := 0) hx hb dX5_offer_2 (by decide) ?_
  refine lv_istore_n (lv' := [(3, .int 0), (2, .int (-1)), (0, .ref (a 0)), (1, .int p0)]) hx hb dX5_offer_3 rfl hl (by decide) rfl (fun ls hl => ?_)
  exact j_X5_offer_4 C0 a K _ 1000 (mI, mA, mL) p0 (-1) 0 s.heap locs ls hP hD hS (lv_sub hl [2, 3, 1, 0] rfl) hSS hf
