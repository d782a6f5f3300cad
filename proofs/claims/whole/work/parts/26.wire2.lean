def wp_X4_startSenders_2_4 (K : WireS → Prop) : WireS → Prop := fun (state, left, tapeLen, tapeB, tLine, tReader, nodes) => K (state, left, tapeLen, tapeB, tLine, tReader, nodes)
def wp_X4_startSenders_2_3 (K : WireS → Prop) : WireS → Prop := fun (state, left, tapeLen, tapeB, tLine, tReader, nodes) => wp_X2_startSending (nodes 3) (fun u4 => wp_X4_startSenders_2_4 K (state, left, tapeLen, tapeB, tLine, tReader, va_up nodes 3 u4))
def wp_X4_startSenders_2_2 (K : WireS → Prop) : WireS → Prop := fun (state, left, tapeLen, tapeB, tLine, tReader, nodes) => wp_X2_startSending (nodes 2) (fun u3 => wp_X4_startSenders_2_3 K (state, left, tapeLen, tapeB, tLine, tReader, va_up nodes 2 u3))
def wp_X4_startSenders_2_1 (K : WireS → Prop) : WireS → Prop := fun (state, left, tapeLen, tapeB, tLine, tReader, nodes) => wp_X2_startSending (nodes 1) (fun u2 => wp_X4_startSenders_2_2 K (state, left, tapeLen, tapeB, tLine, tReader, va_up nodes 1 u2))
def wp_X4_startSenders_2_0 (K : WireS → Prop) : WireS → Prop := fun (state, left, tapeLen, tapeB, tLine, tReader, nodes) => wp_X2_startSending (nodes 0) (fun u1 => wp_X4_startSenders_2_1 K (state, left, tapeLen, tapeB, tLine, tReader, va_up nodes 0 u1))
def wp_X4_startSenders : WireS → (WireS → Prop) → Prop := fun (state, left, tapeLen, tapeB, tLine, tReader, nodes) K => wp_X4_startSenders_2_0 K (state, left, tapeLen, tapeB, tLine, tReader, nodes)
set_option maxHeartbeats 4000000 in
set_option maxRecDepth 100000 in
theorem j_X4_startSenders_2_4 {p : Program} {l : Launch} {e : Env} {s : State} {m : MethodId} {args : Array Value} {below : List Frame} {meth : Method} {c : Code} {dC : Nat → ClassId} {dI : Nat → Nat → Nat} {y : Nat → ClassId} {A : Nat → Prop} (C0 : Cx p s m args meth c cX4_startSenders 2 none wsX4_startSenders RX4 A dC dI y) (a : WireA) (gs : Nat → Nat → Nat) (K : WireS → Prop) : ∀ (S : WireS) (H : Heap) (locs : List Loc) (ls : Array Slot), va_P (dC, dI) vwCl (wrW y a gs S) H → va_D A (wrW y a gs S) → va_S A s.heap H locs → lv_has ls 2 [(0, .ref a.1), (1, .int 4)] → wp_X4_startSenders_2_4 K S → W p l e ({ frames := 4, cells := 0, slots := 0, locals := 90 } : Room) s m args below meth c H locs 0 0 (MQ below (va_Qv K (BW dC dI A (fun u => wrW y a gs u)) A) args s 0 0 A) (F0 m 2 ls []) := by
  obtain ⟨hx, hb, hr, hml, hown, hts, hlocks, hA, hK⟩ := id C0
  intro S H locs ls hP hD hS hl hf
  obtain ⟨state, left, tapeLen, tapeB, tLine, tReader, nodes⟩ := S
  unfold wp_X4_startSenders_2_4 at hf
  refine lv_iload_n hx hb dX4_startSenders_2 rfl (lv_at hl 1 rfl) ?_
  refine lv_iconst (v := 4) hx hb dX4_startSenders_3 (by decide) ?_
  refine lv_icmp_ge (tgt := 22) hx hb dX4_startSenders_4 (by decide) (fun _ => ?_) (fun c9 => absurd (by decide) c9)
  exact W.vret hx hb hr (fun t ht hW => ⟨⟨(state, left, tapeLen, tapeB, tLine, tReader, nodes), rfl, hf, by rw [ht]; exact hP, hD⟩, hS.F ht⟩) hS.2.2 dX4_startSenders_22
set_option maxHeartbeats 4000000 in
set_option maxRecDepth 100000 in
theorem j_X4_startSenders_2_3 {p : Program} {l : Launch} {e : Env} {s : State} {m : MethodId} {args : Array Value} {below : List Frame} {meth : Method} {c : Code} {dC : Nat → ClassId} {dI : Nat → Nat → Nat} {y : Nat → ClassId} {A : Nat → Prop} (C0 : Cx p s m args meth c cX4_startSenders 2 none wsX4_startSenders RX4 A dC dI y) (a : WireA) (gs : Nat → Nat → Nat) (K : WireS → Prop) : ∀ (S : WireS) (H : Heap) (locs : List Loc) (ls : Array Slot), va_P (dC, dI) vwCl (wrW y a gs S) H → va_D A (wrW y a gs S) → va_S A s.heap H locs → lv_has ls 2 [(0, .ref a.1), (1, .int 3)] → wp_X4_startSenders_2_3 K S → W p l e ({ frames := 4, cells := 0, slots := 0, locals := 90 } : Room) s m args below meth c H locs 0 0 (MQ below (va_Qv K (BW dC dI A (fun u => wrW y a gs u)) A) args s 0 0 A) (F0 m 2 ls []) := by
  obtain ⟨hx, hb, hr, hml, hown, hts, hlocks, hA, hK⟩ := id C0
  have w11 := hts (Cond.fieldLink RX4 11 "SharedWire" "nodes" "[LSharedWire$Node;") (List.mem_of_getElem? (i := 1) rfl)
  have hinX4 : ∀ w ∈ wsX40, w ∈ wsX4_startSenders := fun w h => List.mem_cons_of_mem _ (List.mem_append_left _ (List.mem_append_left _ (List.mem_append_left _ (List.mem_append_left _ (List.mem_append_right _ (h))))))
  intro S H locs ls hP hD hS hl hf
  obtain ⟨state, left, tapeLen, tapeB, tLine, tReader, nodes⟩ := S
  unfold wp_X4_startSenders_2_3 at hf
  refine lv_iload_n hx hb dX4_startSenders_2 rfl (lv_at hl 1 rfl) ?_
  refine lv_iconst (v := 4) hx hb dX4_startSenders_3 (by decide) ?_
  refine lv_icmp_ge (tgt := 22) hx hb dX4_startSenders_4 (by decide) (fun c9 => absurd c9 (by decide)) (fun _ => ?_)
  refine lv_aload_n hx hb dX4_startSenders_7 rfl (lv_at hl 0 rfl) ?_
  refine va_get (D := (dC, dI)) (ci := 4) (v := .ref a.2.1) (C := RX4) (T := TX4) (N := 7) hx hb hts hinX4 hown hK.1 hP 0 rfl rfl 0 (by decide) w11 (fun _ h9 => h9) rfl dX4_startSenders_8 ?_
  refine lv_iload_n hx hb dX4_startSenders_11 rfl (lv_at hl 1 rfl) ?_
  refine ar_qld (j := 3) hx hb hK.1 hP 1 4 rfl rfl (clamp_lit 3 rfl) (vin_lit 3 4 rfl rfl) dX4_startSenders_12 ?_
  refine kVv (As := []) (rest := []) (pre := (wrW y a gs (state, left, tapeLen, tapeB, tLine, tReader, nodes)).take 44) (post := (wrW y a gs (state, left, tapeLen, tapeB, tLine, tReader, nodes)).drop 56) ⟨hx, hb, hml, hown, hts⟩ (c_X2_startSending l dC dI y (aw (a.2.2.2.2.2 3) (gs 3)) H.size (nodes 3) _ hf) (cwV 0 hts gX4_startSenders_X2_startSending rfl rfl rfl (by decide +kernel) ⟨Nat.le_of_ble_eq_true rfl, Nat.le_of_ble_eq_true rfl⟩) hK hP hD (va_recv hK.1 hP (ci := 2) (q0 := 44) rfl rfl) hS hA rfl hl.1 rfl (Nat.le_of_ble_eq_true rfl) dX4_startSenders_13 ⟨Nat.zero_le _, Nat.zero_le _⟩ (fun u4 H locs hf hP hD hS => ?_)
  have hP : va_P (dC, dI) vwCl (wrW y a gs (state, left, tapeLen, tapeB, tLine, tReader, va_up nodes 3 u4)) H := hP
  have hD : va_D A (wrW y a gs (state, left, tapeLen, tapeB, tLine, tReader, va_up nodes 3 u4)) := hD
  refine lv_iinc (v := 4) (lv' := [(1, .int 4), (0, .ref a.1)]) hx hb dX4_startSenders_16 hl (k := 1) rfl (by decide) (by decide) rfl (fun ls hl => ?_)
  refine lv_goto (tgt := 2) hx hb dX4_startSenders_19 (by decide) ?_
  exact j_X4_startSenders_2_4 C0 a gs K (state, left, tapeLen, tapeB, tLine, tReader, va_up nodes 3 u4) H locs ls hP hD hS (lv_sub hl [1, 0] rfl) hf
set_option maxHeartbeats 4000000 in
set_option maxRecDepth 100000 in
theorem j_X4_startSenders_2_2 {p : Program} {l : Launch} {e : Env} {s : State} {m : MethodId} {args : Array Value} {below : List Frame} {meth : Method} {c : Code} {dC : Nat → ClassId} {dI : Nat → Nat → Nat} {y : Nat → ClassId} {A : Nat → Prop} (C0 : Cx p s m args meth c cX4_startSenders 2 none wsX4_startSenders RX4 A dC dI y) (a : WireA) (gs : Nat → Nat → Nat) (K : WireS → Prop) : ∀ (S : WireS) (H : Heap) (locs : List Loc) (ls : Array Slot), va_P (dC, dI) vwCl (wrW y a gs S) H → va_D A (wrW y a gs S) → va_S A s.heap H locs → lv_has ls 2 [(0, .ref a.1), (1, .int 2)] → wp_X4_startSenders_2_2 K S → W p l e ({ frames := 4, cells := 0, slots := 0, locals := 90 } : Room) s m args below meth c H locs 0 0 (MQ below (va_Qv K (BW dC dI A (fun u => wrW y a gs u)) A) args s 0 0 A) (F0 m 2 ls []) := by
  obtain ⟨hx, hb, hr, hml, hown, hts, hlocks, hA, hK⟩ := id C0
  have w11 := hts (Cond.fieldLink RX4 11 "SharedWire" "nodes" "[LSharedWire$Node;") (List.mem_of_getElem? (i := 1) rfl)
  have hinX4 : ∀ w ∈ wsX40, w ∈ wsX4_startSenders := fun w h => List.mem_cons_of_mem _ (List.mem_append_left _ (List.mem_append_left _ (List.mem_append_left _ (List.mem_append_left _ (List.mem_append_right _ (h))))))
  intro S H locs ls hP hD hS hl hf
  obtain ⟨state, left, tapeLen, tapeB, tLine, tReader, nodes⟩ := S
  unfold wp_X4_startSenders_2_2 at hf
  refine lv_iload_n hx hb dX4_startSenders_2 rfl (lv_at hl 1 rfl) ?_
  refine lv_iconst (v := 4) hx hb dX4_startSenders_3 (by decide) ?_
  refine lv_icmp_ge (tgt := 22) hx hb dX4_startSenders_4 (by decide) (fun c9 => absurd c9 (by decide)) (fun _ => ?_)
  refine lv_aload_n hx hb dX4_startSenders_7 rfl (lv_at hl 0 rfl) ?_
  refine va_get (D := (dC, dI)) (ci := 4) (v := .ref a.2.1) (C := RX4) (T := TX4) (N := 7) hx hb hts hinX4 hown hK.1 hP 0 rfl rfl 0 (by decide) w11 (fun _ h9 => h9) rfl dX4_startSenders_8 ?_
  refine lv_iload_n hx hb dX4_startSenders_11 rfl (lv_at hl 1 rfl) ?_
  refine ar_qld (j := 2) hx hb hK.1 hP 1 4 rfl rfl (clamp_lit 2 rfl) (vin_lit 2 4 rfl rfl) dX4_startSenders_12 ?_
  refine kVv (As := []) (rest := []) (pre := (wrW y a gs (state, left, tapeLen, tapeB, tLine, tReader, nodes)).take 32) (post := (wrW y a gs (state, left, tapeLen, tapeB, tLine, tReader, nodes)).drop 44) ⟨hx, hb, hml, hown, hts⟩ (c_X2_startSending l dC dI y (aw (a.2.2.2.2.2 2) (gs 2)) H.size (nodes 2) _ hf) (cwV 0 hts gX4_startSenders_X2_startSending rfl rfl rfl (by decide +kernel) ⟨Nat.le_of_ble_eq_true rfl, Nat.le_of_ble_eq_true rfl⟩) hK hP hD (va_recv hK.1 hP (ci := 2) (q0 := 32) rfl rfl) hS hA rfl hl.1 rfl (Nat.le_of_ble_eq_true rfl) dX4_startSenders_13 ⟨Nat.zero_le _, Nat.zero_le _⟩ (fun u3 H locs hf hP hD hS => ?_)
  have hP : va_P (dC, dI) vwCl (wrW y a gs (state, left, tapeLen, tapeB, tLine, tReader, va_up nodes 2 u3)) H := hP
  have hD : va_D A (wrW y a gs (state, left, tapeLen, tapeB, tLine, tReader, va_up nodes 2 u3)) := hD
  refine lv_iinc (v := 3) (lv' := [(1, .int 3), (0, .ref a.1)]) hx hb dX4_startSenders_16 hl (k := 1) rfl (by decide) (by decide) rfl (fun ls hl => ?_)
  refine lv_goto (tgt := 2) hx hb dX4_startSenders_19 (by decide) ?_
  exact j_X4_startSenders_2_3 C0 a gs K (state, left, tapeLen, tapeB, tLine, tReader, va_up nodes 2 u3) H locs ls hP hD hS (lv_sub hl [1, 0] rfl) hf
set_option maxHeartbeats 4000000 in
set_option maxRecDepth 100000 in
theorem j_X4_startSenders_2_1 {p : Program} {l : Launch} {e : Env} {s : State} {m : MethodId} {args : Array Value} {below : List Frame} {meth : Method} {c : Code} {dC : Nat → ClassId} {dI : Nat → Nat → Nat} {y : Nat → ClassId} {A : Nat → Prop} (C0 : Cx p s m args meth c cX4_startSenders 2 none wsX4_startSenders RX4 A dC dI y) (a : WireA) (gs : Nat → Nat → Nat) (K : WireS → Prop) : ∀ (S : WireS) (H : Heap) (locs : List Loc) (ls : Array Slot), va_P (dC, dI) vwCl (wrW y a gs S) H → va_D A (wrW y a gs S) → va_S A s.heap H locs → lv_has ls 2 [(0, .ref a.1), (1, .int 1)] → wp_X4_startSenders_2_1 K S → W p l e ({ frames := 4, cells := 0, slots := 0, locals := 90 } : Room) s m args below meth c H locs 0 0 (MQ below (va_Qv K (BW dC dI A (fun u => wrW y a gs u)) A) args s 0 0 A) (F0 m 2 ls []) := by
  obtain ⟨hx, hb, hr, hml, hown, hts, hlocks, hA, hK⟩ := id C0
  have w11 := hts (Cond.fieldLink RX4 11 "SharedWire" "nodes" "[LSharedWire$Node;") (List.mem_of_getElem? (i := 1) rfl)
  have hinX4 : ∀ w ∈ wsX40, w ∈ wsX4_startSenders := fun w h => List.mem_cons_of_mem _ (List.mem_append_left _ (List.mem_append_left _ (List.mem_append_left _ (List.mem_append_left _ (List.mem_append_right _ (h))))))
  intro S H locs ls hP hD hS hl hf
  obtain ⟨state, left, tapeLen, tapeB, tLine, tReader, nodes⟩ := S
  unfold wp_X4_startSenders_2_1 at hf
  refine lv_iload_n hx hb dX4_startSenders_2 rfl (lv_at hl 1 rfl) ?_
  refine lv_iconst (v := 4) hx hb dX4_startSenders_3 (by decide) ?_
  refine lv_icmp_ge (tgt := 22) hx hb dX4_startSenders_4 (by decide) (fun c9 => absurd c9 (by decide)) (fun _ => ?_)
  refine lv_aload_n hx hb dX4_startSenders_7 rfl (lv_at hl 0 rfl) ?_
  refine va_get (D := (dC, dI)) (ci := 4) (v := .ref a.2.1) (C := RX4) (T := TX4) (N := 7) hx hb hts hinX4 hown hK.1 hP 0 rfl rfl 0 (by decide) w11 (fun _ h9 => h9) rfl dX4_startSenders_8 ?_
  refine lv_iload_n hx hb dX4_startSenders_11 rfl (lv_at hl 1 rfl) ?_
  refine ar_qld (j := 1) hx hb hK.1 hP 1 4 rfl rfl (clamp_lit 1 rfl) (vin_lit 1 4 rfl rfl) dX4_startSenders_12 ?_
  refine kVv (As := []) (rest := []) (pre := (wrW y a gs (state, left, tapeLen, tapeB, tLine, tReader, nodes)).take 20) (post := (wrW y a gs (state, left, tapeLen, tapeB, tLine, tReader, nodes)).drop 32) ⟨hx, hb, hml, hown, hts⟩ (c_X2_startSending l dC dI y (aw (a.2.2.2.2.2 1) (gs 1)) H.size (nodes 1) _ hf) (cwV 0 hts gX4_startSenders_X2_startSending rfl rfl rfl (by decide +kernel) ⟨Nat.le_of_ble_eq_true rfl, Nat.le_of_ble_eq_true rfl⟩) hK hP hD (va_recv hK.1 hP (ci := 2) (q0 := 20) rfl rfl) hS hA rfl hl.1 rfl (Nat.le_of_ble_eq_true rfl) dX4_startSenders_13 ⟨Nat.zero_le _, Nat.zero_le _⟩ (fun u2 H locs hf hP hD hS => ?_)
  have hP : va_P (dC, dI) vwCl (wrW y a gs (state, left, tapeLen, tapeB, tLine, tReader, va_up nodes 1 u2)) H := hP
  have hD : va_D A (wrW y a gs (state, left, tapeLen, tapeB, tLine, tReader, va_up nodes 1 u2)) := hD
  refine lv_iinc (v := 2) (lv' := [(1, .int 2), (0, .ref a.1)]) hx hb dX4_startSenders_16 hl (k := 1) rfl (by decide) (by decide) rfl (fun ls hl => ?_)
  refine lv_goto (tgt := 2) hx hb dX4_startSenders_19 (by decide) ?_
  exact j_X4_startSenders_2_2 C0 a gs K (state, left, tapeLen, tapeB, tLine, tReader, va_up nodes 1 u2) H locs ls hP hD hS (lv_sub hl [1, 0] rfl) hf
set_option maxHeartbeats 4000000 in
set_option maxRecDepth 100000 in
theorem j_X4_startSenders_2_0 {p : Program} {l : Launch} {e : Env} {s : State} {m : MethodId} {args : Array Value} {below : List Frame} {meth : Method} {c : Code} {dC : Nat → ClassId} {dI : Nat → Nat → Nat} {y : Nat → ClassId} {A : Nat → Prop} (C0 : Cx p s m args meth c cX4_startSenders 2 none wsX4_startSenders RX4 A dC dI y) (a : WireA) (gs : Nat → Nat → Nat) (K : WireS → Prop) : ∀ (S : WireS) (H : Heap) (locs : List Loc) (ls : Array Slot), va_P (dC, dI) vwCl (wrW y a gs S) H → va_D A (wrW y a gs S) → va_S A s.heap H locs → lv_has ls 2 [(0, .ref a.1), (1, .int 0)] → wp_X4_startSenders_2_0 K S → W p l e ({ frames := 4, cells := 0, slots := 0, locals := 90 } : Room) s m args below meth c H locs 0 0 (MQ below (va_Qv K (BW dC dI A (fun u => wrW y a gs u)) A) args s 0 0 A) (F0 m 2 ls []) := by
  obtain ⟨hx, hb, hr, hml, hown, hts, hlocks, hA, hK⟩ := id C0
  have w11 := hts (Cond.fieldLink RX4 11 "SharedWire" "nodes" "[LSharedWire$Node;") (List.mem_of_getElem? (i := 1) rfl)
  have hinX4 : ∀ w ∈ wsX40, w ∈ wsX4_startSenders := fun w h => List.mem_cons_of_mem _ (List.mem_append_left _ (List.mem_append_left _ (List.mem_append_left _ (List.mem_append_left _ (List.mem_append_right _ (h))))))
  intro S H locs ls hP hD hS hl hf
  obtain ⟨state, left, tapeLen, tapeB, tLine, tReader, nodes⟩ := S
  unfold wp_X4_startSenders_2_0 at hf
  refine lv_iload_n hx hb dX4_startSenders_2 rfl (lv_at hl 1 rfl) ?_
  refine lv_iconst (v := 4) hx hb dX4_startSenders_3 (by decide) ?_
  refine lv_icmp_ge (tgt := 22) hx hb dX4_startSenders_4 (by decide) (fun c9 => absurd c9 (by decide)) (fun _ => ?_)
  refine lv_aload_n hx hb dX4_startSenders_7 rfl (lv_at hl 0 rfl) ?_
  refine va_get (D := (dC, dI)) (ci := 4) (v := .ref a.2.1) (C := RX4) (T := TX4) (N := 7) hx hb hts hinX4 hown hK.1 hP 0 rfl rfl 0 (by decide) w11 (fun _ h9 => h9) rfl dX4_startSenders_8 ?_
  refine lv_iload_n hx hb dX4_startSenders_11 rfl (lv_at hl 1 rfl) ?_
  refine ar_qld (j := 0) hx hb hK.1 hP 1 4 rfl rfl (clamp_lit 0 rfl) (vin_lit 0 4 rfl rfl) dX4_startSenders_12 ?_
  refine kVv (As := []) (rest := []) (pre := (wrW y a gs (state, left, tapeLen, tapeB, tLine, tReader, nodes)).take 8) (post := (wrW y a gs (state, left, tapeLen, tapeB, tLine, tReader, nodes)).drop 20) ⟨hx, hb, hml, hown, hts⟩ (c_X2_startSending l dC dI y (aw (a.2.2.2.2.2 0) (gs 0)) H.size (nodes 0) _ hf) (cwV 0 hts gX4_startSenders_X2_startSending rfl rfl rfl (by decide +kernel) ⟨Nat.le_of_ble_eq_true rfl, Nat.le_of_ble_eq_true rfl⟩) hK hP hD (va_recv hK.1 hP (ci := 2) (q0 := 8) rfl rfl) hS hA rfl hl.1 rfl (Nat.le_of_ble_eq_true rfl) dX4_startSenders_13 ⟨Nat.zero_le _, Nat.zero_le _⟩ (fun u1 H locs hf hP hD hS => ?_)
  have hP : va_P (dC, dI) vwCl (wrW y a gs (state, left, tapeLen, tapeB, tLine, tReader, va_up nodes 0 u1)) H := hP
  have hD : va_D A (wrW y a gs (state, left, tapeLen, tapeB, tLine, tReader, va_up nodes 0 u1)) := hD
  refine lv_iinc (v := 1) (lv' := [(1, .int 1), (0, .ref a.1)]) hx hb dX4_startSenders_16 hl (k := 1) rfl (by decide) (by decide) rfl (fun ls hl => ?_)
  refine lv_goto (tgt := 2) hx hb dX4_startSenders_19 (by decide) ?_
  exact j_X4_startSenders_2_1 C0 a gs K (state, left, tapeLen, tapeB, tLine, tReader, va_up nodes 0 u1) H locs ls hP hD hS (lv_sub hl [1, 0] rfl) hf
set_option maxHeartbeats 4000000 in
set_option maxRecDepth 100000 in
theorem c_X4_startSenders (l : Launch) (dC : Nat → ClassId) (dI : Nat → Nat → Nat) (y : Nat → ClassId) (a : WireA) (gs : Nat → Nat → Nat) (sz : Nat) (S : WireS) (K : WireS → Prop) (hf : wp_X4_startSenders S K) : MV l yX4_startSenders wsX4_startSenders { frames := 4, cells := 0, slots := 0, locals := 90 } dC dI y [.ref a.1] (wrW y a gs S) sz (fun u => wrW y a gs u) K := by
  refine Met.ofW (cc := cX4_startSenders) (maxL := 2) (ret := none) (by decide) rfl ?_
  intro p e s m args below meth c s₁ B hml hv
  obtain ⟨rfl, hsz, hP, hK, hD0⟩ := hv
  have hx := B.exec
  have hb := B.bytes
  have hr := B.returns
  have hts := atoms_spec (ws := wsX4_startSenders) B.pre
  have hown : s.vm.findClass RX4 = some m.cls := findClass_of_methodNamed B.named
  have hlocks := B.notSynchronized
  subst hsz
  have hD := hD0.self (sz := s.heap.size)
  generalize hAe : va_A (wrW y a gs S) s.heap.size = A at hD ⊢
  have hA : ∀ q : Nat, s.heap.size ≤ q → A q := fun q h => by rw [← hAe]; exact Or.inr h
  have hS : va_S A s.heap s.heap [] := va_S.rf
  have C0 : Cx p s m [.ref a.1].toArray meth c cX4_startSenders 2 none wsX4_startSenders RX4 A dC dI y := ⟨hx, hb, hr, hml, hown, hts, hlocks, hA, hK⟩
  have hl := lv_entry ([.ref a.1]) (n := 2) (Nat.le_of_ble_eq_true rfl)
  rw [lg_entry_eq]
  generalize (lg_sl ([.ref a.1]) ++ List.replicate (2 - (lg_sl ([.ref a.1])).length) Slot.unset).toArray = ls at hl ⊢
  have hl : lv_has ls 2 [(0, .ref a.1)] := hl
  obtain ⟨state, left, tapeLen, tapeB, tLine, tReader, nodes⟩ := S
  clear hAe hD0
  generalize hL0 : ([] : List Loc) = locs at hS ⊢
  unfold wp_X4_startSenders at hf
  refine lv_iconst (v := 0) hx hb dX4_startSenders_0 (by decide) ?_
  refine lv_istore_n (lv' := [(1, .int 0), (0, .ref a.1)]) hx hb dX4_startSenders_1 rfl hl (by decide) rfl (fun ls hl => ?_)
  exact j_X4_startSenders_2_0 C0 a gs K (state, left, tapeLen, tapeB, tLine, tReader, nodes) s.heap locs ls hP hD hS (lv_sub hl [1, 0] rfl) hf

def wp_X4_levelSent_4_4 (K : Int32 → Prop) : WireS → Int32 → Prop := fun (state, left, tapeLen, tapeB, tLine, tReader, nodes) v1 => K v1
def wp_X4_levelSent_4_3 (K : Int32 → Prop) : WireS → Int32 → Prop := fun (state, left, tapeLen, tapeB, tLine, tReader, nodes) v1 => wp_X2_bitToSend (nodes 3) (fun r10 => (∀ n12 : Int32, n12 = v1 &&& r10 → wp_X4_levelSent_4_4 K (state, left, tapeLen, tapeB, tLine, tReader, nodes) n12))
def wp_X4_levelSent_4_2 (K : Int32 → Prop) : WireS → Int32 → Prop := fun (state, left, tapeLen, tapeB, tLine, tReader, nodes) v1 => wp_X2_bitToSend (nodes 2) (fun r7 => (∀ n9 : Int32, n9 = v1 &&& r7 → wp_X4_levelSent_4_3 K (state, left, tapeLen, tapeB, tLine, tReader, nodes) n9))
def wp_X4_levelSent_4_1 (K : Int32 → Prop) : WireS → Int32 → Prop := fun (state, left, tapeLen, tapeB, tLine, tReader, nodes) v1 => wp_X2_bitToSend (nodes 1) (fun r4 => (∀ n6 : Int32, n6 = v1 &&& r4 → wp_X4_levelSent_4_2 K (state, left, tapeLen, tapeB, tLine, tReader, nodes) n6))
def wp_X4_levelSent_4_0 (K : Int32 → Prop) : WireS → Int32 → Prop := fun (state, left, tapeLen, tapeB, tLine, tReader, nodes) v1 => wp_X2_bitToSend (nodes 0) (fun r1 => (∀ n3 : Int32, n3 = v1 &&& r1 → wp_X4_levelSent_4_1 K (state, left, tapeLen, tapeB, tLine, tReader, nodes) n3))
def wp_X4_levelSent : WireS → (Int32 → Prop) → Prop := fun (state, left, tapeLen, tapeB, tLine, tReader, nodes) K => wp_X4_levelSent_4_0 K (state, left, tapeLen, tapeB, tLine, tReader, nodes) 1
set_option maxHeartbeats 4000000 in
set_option maxRecDepth 100000 in
theorem j_X4_levelSent_4_4 {p : Program} {l : Launch} {e : Env} {s : State} {m : MethodId} {args : Array Value} {below : List Frame} {meth : Method} {c : Code} {dC : Nat → ClassId} {dI : Nat → Nat → Nat} {y : Nat → ClassId} {A : Nat → Prop} (C0 : Cx p s m args meth c cX4_levelSent 3 (some .int) wsX4_levelSent RX4 A dC dI y) (a : WireA) (gs : Nat → Nat → Nat) (K : Int32 → Prop) (S0 : WireS) : ∀ (S : WireS) (v1 : Int32) (H : Heap) (locs : List Loc) (ls : Array Slot), va_P (dC, dI) vwCl (wrW y a gs S) H → va_D A (wrW y a gs S) → va_S A s.heap H locs → lv_has ls 3 [(0, .ref a.1), (1, .int v1), (2, .int 4)] → S = S0 → wp_X4_levelSent_4_4 K S v1 → W p l e ({ frames := 3, cells := 0, slots := 0, locals := 60 } : Room) s m args below meth c H locs 0 0 (MQ below (va_Qi (fun r u => K r ∧ u = S0) (BW dC dI A (fun u => wrW y a gs u)) A) args s 0 0 A) (F0 m 4 ls []) := by
  obtain ⟨hx, hb, hr, hml, hown, hts, hlocks, hA, hK⟩ := id C0
  intro S v1 H locs ls hP hD hS hl hSS hf
  obtain ⟨state, left, tapeLen, tapeB, tLine, tReader, nodes⟩ := S
  unfold wp_X4_levelSent_4_4 at hf
  refine lv_iload_n hx hb dX4_levelSent_4 rfl (lv_at hl 2 rfl) ?_
  refine lv_iconst (v := 4) hx hb dX4_levelSent_5 (by decide) ?_
  refine lv_icmp_ge (tgt := 27) hx hb dX4_levelSent_6 (by decide) (fun _ => ?_) (fun c9 => absurd (by decide) c9)
  refine lv_iload_n hx hb dX4_levelSent_27 rfl (lv_at hl 1 rfl) ?_
  exact W.iret (v := v1) hx hb hr (fun t ht hW => ⟨⟨v1, (state, left, tapeLen, tapeB, tLine, tReader, nodes), rfl, ⟨hf, hSS⟩, by rw [ht]; exact hP, hD⟩, hS.F ht⟩) hS.2.2 dX4_levelSent_28
set_option maxHeartbeats 4000000 in
set_option maxRecDepth 100000 in
theorem j_X4_levelSent_4_3 {p : Program} {l : Launch} {e : Env} {s : State} {m : MethodId} {args : Array Value} {below : List Frame} {meth : Method} {c : Code} {dC : Nat → ClassId} {dI : Nat → Nat → Nat} {y : Nat → ClassId} {A : Nat → Prop} (C0 : Cx p s m args meth c cX4_levelSent 3 (some .int) wsX4_levelSent RX4 A dC dI y) (a : WireA) (gs : Nat → Nat → Nat) (K : Int32 → Prop) (S0 : WireS) : ∀ (S : WireS) (v1 : Int32) (H : Heap) (locs : List Loc) (ls : Array Slot), va_P (dC, dI) vwCl (wrW y a gs S) H → va_D A (wrW y a gs S) → va_S A s.heap H locs → lv_has ls 3 [(0, .ref a.1), (1, .int v1), (2, .int 3)] → S = S0 → wp_X4_levelSent_4_3 K S v1 → W p l e ({ frames := 3, cells := 0, slots := 0, locals := 60 } : Room) s m args below meth c H locs 0 0 (MQ below (va_Qi (fun r u => K r ∧ u = S0) (BW dC dI A (fun u => wrW y a gs u)) A) args s 0 0 A) (F0 m 4 ls []) := by
  obtain ⟨hx, hb, hr, hml, hown, hts, hlocks, hA, hK⟩ := id C0
  have w11 := hts (Cond.fieldLink RX4 11 "SharedWire" "nodes" "[LSharedWire$Node;") (List.mem_of_getElem? (i := 1) rfl)
  have hinX4 : ∀ w ∈ wsX40, w ∈ wsX4_levelSent := fun w h => List.mem_cons_of_mem _ (List.mem_append_left _ (List.mem_append_left _ (List.mem_append_left _ (List.mem_append_right _ (h)))))
  intro S v1 H locs ls hP hD hS hl hSS hf
  obtain ⟨state, left, tapeLen, tapeB, tLine, tReader, nodes⟩ := S
  unfold wp_X4_levelSent_4_3 at hf
  refine lv_iload_n hx hb dX4_levelSent_4 rfl (lv_at hl 2 rfl) ?_
  refine lv_iconst (v := 4) hx hb dX4_levelSent_5 (by decide) ?_
  refine lv_icmp_ge (tgt := 27) hx hb dX4_levelSent_6 (by decide) (fun c9 => absurd c9 (by decide)) (fun _ => ?_)
  refine lv_iload_n hx hb dX4_levelSent_9 rfl (lv_at hl 1 rfl) ?_
  refine lv_aload_n hx hb dX4_levelSent_10 rfl (lv_at hl 0 rfl) ?_
  refine va_get (D := (dC, dI)) (ci := 4) (v := .ref a.2.1) (C := RX4) (T := TX4) (N := 7) hx hb hts hinX4 hown hK.1 hP 0 rfl rfl 0 (by decide) w11 (fun _ h9 => h9) rfl dX4_levelSent_11 ?_
  refine lv_iload_n hx hb dX4_levelSent_14 rfl (lv_at hl 2 rfl) ?_
  refine ar_qld (j := 3) hx hb hK.1 hP 1 4 rfl rfl (clamp_lit 3 rfl) (vin_lit 3 4 rfl rfl) dX4_levelSent_15 ?_
  refine kVi (As := []) (rest := [.int v1]) (pre := (wrW y a gs (state, left, tapeLen, tapeB, tLine, tReader, nodes)).take 44) (post := (wrW y a gs (state, left, tapeLen, tapeB, tLine, tReader, nodes)).drop 56) ⟨hx, hb, hml, hown, hts⟩ (c_X2_bitToSend l dC dI y (aw (a.2.2.2.2.2 3) (gs 3)) H.size (nodes 3) _ hf) (cwV 0 hts gX4_levelSent_X2_bitToSend rfl rfl rfl (by decide +kernel) ⟨Nat.le_of_ble_eq_true rfl, Nat.le_of_ble_eq_true rfl⟩) hK hP hD (va_recv hK.1 hP (ci := 2) (q0 := 44) rfl rfl) hS hA rfl hl.1 rfl (Nat.le_of_ble_eq_true rfl) dX4_levelSent_16 ⟨Nat.zero_le _, Nat.zero_le _⟩ (fun r10 u11 H locs hf hP hD hS => ?_)
  obtain ⟨hf, e9⟩ := hf
  have e9 := e9.symm
  subst e9
  have hP : va_P (dC, dI) vwCl (wrW y a gs (state, left, tapeLen, tapeB, tLine, tReader, nodes)) H := hP
  have hD : va_D A (wrW y a gs (state, left, tapeLen, tapeB, tLine, tReader, nodes)) := hD
  refine lv_iand hx hb dX4_levelSent_19 ?_
  refine lv_topi (fun n12 en12 => ?_)
  replace hf := hf n12 en12
  refine lv_istore_n (lv' := [(1, .int n12), (0, .ref a.1), (2, .int 3)]) hx hb dX4_levelSent_20 rfl hl (by decide) rfl (fun ls hl => ?_)
  refine lv_iinc (v := 4) (lv' := [(2, .int 4), (1, .int n12), (0, .ref a.1)]) hx hb dX4_levelSent_21 hl (k := 2) rfl (by decide) (by decide) rfl (fun ls hl => ?_)
  refine lv_goto (tgt := 4) hx hb dX4_levelSent_24 (by decide) ?_
  exact j_X4_levelSent_4_4 C0 a gs K _ (state, left, tapeLen, tapeB, tLine, tReader, nodes) n12 H locs ls hP hD hS (lv_sub hl [2, 1, 0] rfl) hSS hf
set_option maxHeartbeats 4000000 in
set_option maxRecDepth 100000 in
theorem j_X4_levelSent_4_2 {p : Program} {l : Launch} {e : Env} {s : State} {m : MethodId} {args : Array Value} {below : List Frame} {meth : Method} {c : Code} {dC : Nat → ClassId} {dI : Nat → Nat → Nat} {y : Nat → ClassId} {A : Nat → Prop} (C0 : Cx p s m args meth c cX4_levelSent 3 (some .int) wsX4_levelSent RX4 A dC dI y) (a : WireA) (gs : Nat → Nat → Nat) (K : Int32 → Prop) (S0 : WireS) : ∀ (S : WireS) (v1 : Int32) (H : Heap) (locs : List Loc) (ls : Array Slot), va_P (dC, dI) vwCl (wrW y a gs S) H → va_D A (wrW y a gs S) → va_S A s.heap H locs → lv_has ls 3 [(0, .ref a.1), (1, .int v1), (2, .int 2)] → S = S0 → wp_X4_levelSent_4_2 K S v1 → W p l e ({ frames := 3, cells := 0, slots := 0, locals := 60 } : Room) s m args below meth c H locs 0 0 (MQ below (va_Qi (fun r u => K r ∧ u = S0) (BW dC dI A (fun u => wrW y a gs u)) A) args s 0 0 A) (F0 m 4 ls []) := by
  obtain ⟨hx, hb, hr, hml, hown, hts, hlocks, hA, hK⟩ := id C0
  have w11 := hts (Cond.fieldLink RX4 11 "SharedWire" "nodes" "[LSharedWire$Node;") (List.mem_of_getElem? (i := 1) rfl)
  have hinX4 : ∀ w ∈ wsX40, w ∈ wsX4_levelSent := fun w h => List.mem_cons_of_mem _ (List.mem_append_left _ (List.mem_append_left _ (List.mem_append_left _ (List.mem_append_right _ (h)))))
  intro S v1 H locs ls hP hD hS hl hSS hf
  obtain ⟨state, left, tapeLen, tapeB, tLine, tReader, nodes⟩ := S
  unfold wp_X4_levelSent_4_2 at hf
  refine lv_iload_n hx hb dX4_levelSent_4 rfl (lv_at hl 2 rfl) ?_
  refine lv_iconst (v := 4) hx hb dX4_levelSent_5 (by decide) ?_
  refine lv_icmp_ge (tgt := 27) hx hb dX4_levelSent_6 (by decide) (fun c9 => absurd c9 (by decide)) (fun _ => ?_)
  refine lv_iload_n hx hb dX4_levelSent_9 rfl (lv_at hl 1 rfl) ?_
  refine lv_aload_n hx hb dX4_levelSent_10 rfl (lv_at hl 0 rfl) ?_
  refine va_get (D := (dC, dI)) (ci := 4) (v := .ref a.2.1) (C := RX4) (T := TX4) (N := 7) hx hb hts hinX4 hown hK.1 hP 0 rfl rfl 0 (by decide) w11 (fun _ h9 => h9) rfl dX4_levelSent_11 ?_
  refine lv_iload_n hx hb dX4_levelSent_14 rfl (lv_at hl 2 rfl) ?_
  refine ar_qld (j := 2) hx hb hK.1 hP 1 4 rfl rfl (clamp_lit 2 rfl) (vin_lit 2 4 rfl rfl) dX4_levelSent_15 ?_
  refine kVi (As := []) (rest := [.int v1]) (pre := (wrW y a gs (state, left, tapeLen, tapeB, tLine, tReader, nodes)).take 32) (post := (wrW y a gs (state, left, tapeLen, tapeB, tLine, tReader, nodes)).drop 44) ⟨hx, hb, hml, hown, hts⟩ (c_X2_bitToSend l dC dI y (aw (a.2.2.2.2.2 2) (gs 2)) H.size (nodes 2) _ hf) (cwV 0 hts gX4_levelSent_X2_bitToSend rfl rfl rfl (by decide +kernel) ⟨Nat.le_of_ble_eq_true rfl, Nat.le_of_ble_eq_true rfl⟩) hK hP hD (va_recv hK.1 hP (ci := 2) (q0 := 32) rfl rfl) hS hA rfl hl.1 rfl (Nat.le_of_ble_eq_true rfl) dX4_levelSent_16 ⟨Nat.zero_le _, Nat.zero_le _⟩ (fun r7 u8 H locs hf hP hD hS => ?_)
  obtain ⟨hf, e9⟩ := hf
  have e9 := e9.symm
  subst e9
  have hP : va_P (dC, dI) vwCl (wrW y a gs (state, left, tapeLen, tapeB, tLine, tReader, nodes)) H := hP
  have hD : va_D A (wrW y a gs (state, left, tapeLen, tapeB, tLine, tReader, nodes)) := hD
  refine lv_iand hx hb dX4_levelSent_19 ?_
  refine lv_topi (fun n9 en9 => ?_)
  replace hf := hf n9 en9
  refine lv_istore_n (lv' := [(1, .int n9), (0, .ref a.1), (2, .int 2)]) hx hb dX4_levelSent_20 rfl hl (by decide) rfl (fun ls hl => ?_)
  refine lv_iinc (v := 3) (lv' := [(2, .int 3), (1, .int n9), (0, .ref a.1)]) hx hb dX4_levelSent_21 hl (k := 2) rfl (by decide) (by decide) rfl (fun ls hl => ?_)
  refine lv_goto (tgt := 4) hx hb dX4_levelSent_24 (by decide) ?_
  exact j_X4_levelSent_4_3 C0 a gs K _ (state, left, tapeLen, tapeB, tLine, tReader, nodes) n9 H locs ls hP hD hS (lv_sub hl [2, 1, 0] rfl) hSS hf
set_option maxHeartbeats 4000000 in
set_option maxRecDepth 100000 in
theorem j_X4_levelSent_4_1 {p : Program} {l : Launch} {e : Env} {s : State} {m : MethodId} {args : Array Value} {below : List Frame} {meth : Method} {c : Code} {dC : Nat → ClassId} {dI : Nat → Nat → Nat} {y : Nat → ClassId} {A : Nat → Prop} (C0 : Cx p s m args meth c cX4_levelSent 3 (some .int) wsX4_levelSent RX4 A dC dI y) (a : WireA) (gs : Nat → Nat → Nat) (K : Int32 → Prop) (S0 : WireS) : ∀ (S : WireS) (v1 : Int32) (H : Heap) (locs : List Loc) (ls : Array Slot), va_P (dC, dI) vwCl (wrW y a gs S) H → va_D A (wrW y a gs S) → va_S A s.heap H locs → lv_has ls 3 [(0, .ref a.1), (1, .int v1), (2, .int 1)] → S = S0 → wp_X4_levelSent_4_1 K S v1 → W p l e ({ frames := 3, cells := 0, slots := 0, locals := 60 } : Room) s m args below meth c H locs 0 0 (MQ below (va_Qi (fun r u => K r ∧ u = S0) (BW dC dI A (fun u => wrW y a gs u)) A) args s 0 0 A) (F0 m 4 ls []) := by
  obtain ⟨hx, hb, hr, hml, hown, hts, hlocks, hA, hK⟩ := id C0
  have w11 := hts (Cond.fieldLink RX4 11 "SharedWire" "nodes" "[LSharedWire$Node;") (List.mem_of_getElem? (i := 1) rfl)
  have hinX4 : ∀ w ∈ wsX40, w ∈ wsX4_levelSent := fun w h => List.mem_cons_of_mem _ (List.mem_append_left _ (List.mem_append_left _ (List.mem_append_left _ (List.mem_append_right _ (h)))))
  intro S v1 H locs ls hP hD hS hl hSS hf
  obtain ⟨state, left, tapeLen, tapeB, tLine, tReader, nodes⟩ := S
  unfold wp_X4_levelSent_4_1 at hf
  refine lv_iload_n hx hb dX4_levelSent_4 rfl (lv_at hl 2 rfl) ?_
  refine lv_iconst (v := 4) hx hb dX4_levelSent_5 (by decide) ?_
  refine lv_icmp_ge (tgt := 27) hx hb dX4_levelSent_6 (by decide) (fun c9 => absurd c9 (by decide)) (fun _ => ?_)
  refine lv_iload_n hx hb dX4_levelSent_9 rfl (lv_at hl 1 rfl) ?_
  refine lv_aload_n hx hb dX4_levelSent_10 rfl (lv_at hl 0 rfl) ?_
  refine va_get (D := (dC, dI)) (ci := 4) (v := .ref a.2.1) (C := RX4) (T := TX4) (N := 7) hx hb hts hinX4 hown hK.1 hP 0 rfl rfl 0 (by decide) w11 (fun _ h9 => h9) rfl dX4_levelSent_11 ?_
  refine lv_iload_n hx hb dX4_levelSent_14 rfl (lv_at hl 2 rfl) ?_
  refine ar_qld (j := 1) hx hb hK.1 hP 1 4 rfl rfl (clamp_lit 1 rfl) (vin_lit 1 4 rfl rfl) dX4_levelSent_15 ?_
  refine kVi (As := []) (rest := [.int v1]) (pre := (wrW y a gs (state, left, tapeLen, tapeB, tLine, tReader, nodes)).take 20) (post := (wrW y a gs (state, left, tapeLen, tapeB, tLine, tReader, nodes)).drop 32) ⟨hx, hb, hml, hown, hts⟩ (c_X2_bitToSend l dC dI y (aw (a.2.2.2.2.2 1) (gs 1)) H.size (nodes 1) _ hf) (cwV 0 hts gX4_levelSent_X2_bitToSend rfl rfl rfl (by decide +kernel) ⟨Nat.le_of_ble_eq_true rfl, Nat.le_of_ble_eq_true rfl⟩) hK hP hD (va_recv hK.1 hP (ci := 2) (q0 := 20) rfl rfl) hS hA rfl hl.1 rfl (Nat.le_of_ble_eq_true rfl) dX4_levelSent_16 ⟨Nat.zero_le _, Nat.zero_le _⟩ (fun r4 u5 H locs hf hP hD hS => ?_)
  obtain ⟨hf, e9⟩ := hf
  have e9 := e9.symm
  subst e9
  have hP : va_P (dC, dI) vwCl (wrW y a gs (state, left, tapeLen, tapeB, tLine, tReader, nodes)) H := hP
  have hD : va_D A (wrW y a gs (state, left, tapeLen, tapeB, tLine, tReader, nodes)) := hD
  refine lv_iand hx hb dX4_levelSent_19 ?_
  refine lv_topi (fun n6 en6 => ?_)
  replace hf := hf n6 en6
  refine lv_istore_n (lv' := [(1, .int n6), (0, .ref a.1), (2, .int 1)]) hx hb dX4_levelSent_20 rfl hl (by decide) rfl (fun ls hl => ?_)
  refine lv_iinc (v := 2) (lv' := [(2, .int 2), (1, .int n6), (0, .ref a.1)]) hx hb dX4_levelSent_21 hl (k := 2) rfl (by decide) (by decide) rfl (fun ls hl => ?_)
  refine lv_goto (tgt := 4) hx hb dX4_levelSent_24 (by decide) ?_
  exact j_X4_levelSent_4_2 C0 a gs K _ (state, left, tapeLen, tapeB, tLine, tReader, nodes) n6 H locs ls hP hD hS (lv_sub hl [2, 1, 0] rfl) hSS hf
set_option maxHeartbeats 4000000 in
set_option maxRecDepth 100000 in
theorem j_X4_levelSent_4_0 {p : Program} {l : Launch} {e : Env} {s : State} {m : MethodId} {args : Array Value} {below : List Frame} {meth : Method} {c : Code} {dC : Nat → ClassId} {dI : Nat → Nat → Nat} {y : Nat → ClassId} {A : Nat → Prop} (C0 : Cx p s m args meth c cX4_levelSent 3 (some .int) wsX4_levelSent RX4 A dC dI y) (a : WireA) (gs : Nat → Nat → Nat) (K : Int32 → Prop) (S0 : WireS) : ∀ (S : WireS) (v1 : Int32) (H : Heap) (locs : List Loc) (ls : Array Slot), va_P (dC, dI) vwCl (wrW y a gs S) H → va_D A (wrW y a gs S) → va_S A s.heap H locs → lv_has ls 3 [(0, .ref a.1), (1, .int v1), (2, .int 0)] → S = S0 → wp_X4_levelSent_4_0 K S v1 → W p l e ({ frames := 3, cells := 0, slots := 0, locals := 60 } : Room) s m args below meth c H locs 0 0 (MQ below (va_Qi (fun r u => K r ∧ u = S0) (BW dC dI A (fun u => wrW y a gs u)) A) args s 0 0 A) (F0 m 4 ls []) := by
  obtain ⟨hx, hb, hr, hml, hown, hts, hlocks, hA, hK⟩ := id C0
  have w11 := hts (Cond.fieldLink RX4 11 "SharedWire" "nodes" "[LSharedWire$Node;") (List.mem_of_getElem? (i := 1) rfl)
  have hinX4 : ∀ w ∈ wsX40, w ∈ wsX4_levelSent := fun w h => List.mem_cons_of_mem _ (List.mem_append_left _ (List.mem_append_left _ (List.mem_append_left _ (List.mem_append_right _ (h)))))
  intro S v1 H locs ls hP hD hS hl hSS hf
  obtain ⟨state, left, tapeLen, tapeB, tLine, tReader, nodes⟩ := S
  unfold wp_X4_levelSent_4_0 at hf
  refine lv_iload_n hx hb dX4_levelSent_4 rfl (lv_at hl 2 rfl) ?_
  refine lv_iconst (v := 4) hx hb dX4_levelSent_5 (by decide) ?_
  refine lv_icmp_ge (tgt := 27) hx hb dX4_levelSent_6 (by decide) (fun c9 => absurd c9 (by decide)) (fun _ => ?_)
  refine lv_iload_n hx hb dX4_levelSent_9 rfl (lv_at hl 1 rfl) ?_
  refine lv_aload_n hx hb dX4_levelSent_10 rfl (lv_at hl 0 rfl) ?_
  refine va_get (D := (dC, dI)) (ci := 4) (v := .ref a.2.1) (C := RX4) (T := TX4) (N := 7) hx hb hts hinX4 hown hK.1 hP 0 rfl rfl 0 (by decide) w11 (fun _ h9 => h9) rfl dX4_levelSent_11 ?_
  refine lv_iload_n hx hb dX4_levelSent_14 rfl (lv_at hl 2 rfl) ?_
  refine ar_qld (j := 0) hx hb hK.1 hP 1 4 rfl rfl (clamp_lit 0 rfl) (vin_lit 0 4 rfl rfl) dX4_levelSent_15 ?_
  refine kVi (As := []) (rest := [.int v1]) (pre := (wrW y a gs (state, left, tapeLen, tapeB, tLine, tReader, nodes)).take 8) (post := (wrW y a gs (state, left, tapeLen, tapeB, tLine, tReader, nodes)).drop 20) ⟨hx, hb, hml, hown, hts⟩ (c_X2_bitToSend l dC dI y (aw (a.2.2.2.2.2 0) (gs 0)) H.size (nodes 0) _ hf) (cwV 0 hts gX4_levelSent_X2_bitToSend rfl rfl rfl (by decide +kernel) ⟨Nat.le_of_ble_eq_true rfl, Nat.le_of_ble_eq_true rfl⟩) hK hP hD (va_recv hK.1 hP (ci := 2) (q0 := 8) rfl rfl) hS hA rfl hl.1 rfl (Nat.le_of_ble_eq_true rfl) dX4_levelSent_16 ⟨Nat.zero_le _, Nat.zero_le _⟩ (fun r1 u2 H locs hf hP hD hS => ?_)
  obtain ⟨hf, e9⟩ := hf
  have e9 := e9.symm
  subst e9
  have hP : va_P (dC, dI) vwCl (wrW y a gs (state, left, tapeLen, tapeB, tLine, tReader, nodes)) H := hP
  have hD : va_D A (wrW y a gs (state, left, tapeLen, tapeB, tLine, tReader, nodes)) := hD
  refine lv_iand hx hb dX4_levelSent_19 ?_
  refine lv_topi (fun n3 en3 => ?_)
  replace hf := hf n3 en3
  refine lv_istore_n (lv' := [(1, .int n3), (0, .ref a.1), (2, .int 0)]) hx hb dX4_levelSent_20 rfl hl (by decide) rfl (fun ls hl => ?_)
  refine lv_iinc (v := 1) (lv' := [(2, .int 1), (1, .int n3), (0, .ref a.1)]) hx hb dX4_levelSent_21 hl (k := 2) rfl (by decide) (by decide) rfl (fun ls hl => ?_)
  refine lv_goto (tgt := 4) hx hb dX4_levelSent_24 (by decide) ?_
  exact j_X4_levelSent_4_1 C0 a gs K _ (state, left, tapeLen, tapeB, tLine, tReader, nodes) n3 H locs ls hP hD hS (lv_sub hl [2, 1, 0] rfl) hSS hf
set_option maxHeartbeats 4000000 in
set_option maxRecDepth 100000 in
theorem c_X4_levelSent (l : Launch) (dC : Nat → ClassId) (dI : Nat → Nat → Nat) (y : Nat → ClassId) (a : WireA) (gs : Nat → Nat → Nat) (sz : Nat) (S : WireS) (K : Int32 → Prop) (hf : wp_X4_levelSent S K) : MI l yX4_levelSent wsX4_levelSent { frames := 3, cells := 0, slots := 0, locals := 60 } dC dI y [.ref a.1] (wrW y a gs S) sz (fun u => wrW y a gs u) (fun r u => K r ∧ u = S) := by
  refine Met.ofW (cc := cX4_levelSent) (maxL := 3) (ret := (some .int)) (by decide) rfl ?_
  intro p e s m args below meth c s₁ B hml hv
  obtain ⟨rfl, hsz, hP, hK, hD0⟩ := hv
  have hx := B.exec
  have hb := B.bytes
  have hr := B.returns
  have hts := atoms_spec (ws := wsX4_levelSent) B.pre
  have hown : s.vm.findClass RX4 = some m.cls := findClass_of_methodNamed B.named
  have hlocks := B.notSynchronized
  subst hsz
  have hD := hD0.self (sz := s.heap.size)
  generalize hAe : va_A (wrW y a gs S) s.heap.size = A at hD ⊢
  have hA : ∀ q : Nat, s.heap.size ≤ q → A q := fun q h => by rw [← hAe]; exact Or.inr h
  have hS : va_S A s.heap s.heap [] := va_S.rf
  have C0 : Cx p s m [.ref a.1].toArray meth c cX4_levelSent 3 (some .int) wsX4_levelSent RX4 A dC dI y := ⟨hx, hb, hr, hml, hown, hts, hlocks, hA, hK⟩
  have hl := lv_entry ([.ref a.1]) (n := 3) (Nat.le_of_ble_eq_true rfl)
  rw [lg_entry_eq]
  generalize (lg_sl ([.ref a.1]) ++ List.replicate (3 - (lg_sl ([.ref a.1])).length) Slot.unset).toArray = ls at hl ⊢
  have hl : lv_has ls 3 [(0, .ref a.1)] := hl
  obtain ⟨state, left, tapeLen, tapeB, tLine, tReader, nodes⟩ := S
  have hSS : (state, left, tapeLen, tapeB, tLine, tReader, nodes) = (state, left, tapeLen, tapeB, tLine, tReader, nodes) := rfl
  clear hAe hD0
  generalize hL0 : ([] : List Loc) = locs at hS ⊢
  unfold wp_X4_levelSent at hf
  refine lv_iconst (v := 1) hx hb dX4_levelSent_0 (by decide) ?_
  refine lv_istore_n (lv' := [(1, .int 1), (0, .ref a.1)]) hx hb dX4_levelSent_1 rfl hl (by decide) rfl (fun ls hl => ?_)
  refine lv_iconst (v := 0) hx hb dX4_levelSent_2 (by decide) ?_
  refine lv_istore_n (lv' := [(2, .int 0), (1, .int 1), (0, .ref a.1)]) hx hb dX4_levelSent_3 rfl hl (by decide) rfl (fun ls hl => ?_)
  exact j_X4_levelSent_4_0 C0 a gs K _ (state, left, tapeLen, tapeB, tLine, tReader, nodes) 1 s.heap locs ls hP hD hS (lv_sub hl [2, 1, 0] rfl) hSS hf

def wp_X4_someFindFaults_5_4 (K : Int32 → WireS → Prop) : WireS → Int32 → Int32 → Int32 → Prop := fun (state, left, tapeLen, tapeB, tLine, tReader, nodes) v1 v2 v3 => (bz v3 ∧ K v3 (state, left, tapeLen, tapeB, tLine, tReader, nodes))
def wp_X4_someFindFaults_44_3 (K : Int32 → WireS → Prop) : WireS → Int32 → Int32 → Int32 → Prop := fun (state, left, tapeLen, tapeB, tLine, tReader, nodes) v1 v2 v3 => wp_X4_someFindFaults_5_4 K (state, left, tapeLen, tapeB, tLine, tReader, nodes) v1 v2 v3
def wp_X4_someFindFaults_5_3 (K : Int32 → WireS → Prop) : WireS → Int32 → Int32 → Int32 → Prop := fun (state, left, tapeLen, tapeB, tLine, tReader, nodes) v1 v2 v3 => wp_X2_look (nodes 3) (v1 ^^^ ((v2 >>> (3 &&& 31)) &&& 1)) (fun u7 => ((u7.2.2.2.2.2.2.2.2.1 = 0 → wp_X4_someFindFaults_44_3 K (state, left, tapeLen, tapeB, tLine, tReader, va_up nodes 3 u7) v1 v2 v3) ∧ (¬ u7.2.2.2.2.2.2.2.2.1 = 0 → wp_X4_someFindFaults_44_3 K (state, left, tapeLen, tapeB, tLine, tReader, va_up nodes 3 u7) v1 v2 1)))
def wp_X4_someFindFaults_44_2 (K : Int32 → WireS → Prop) : WireS → Int32 → Int32 → Int32 → Prop := fun (state, left, tapeLen, tapeB, tLine, tReader, nodes) v1 v2 v3 => wp_X4_someFindFaults_5_3 K (state, left, tapeLen, tapeB, tLine, tReader, nodes) v1 v2 v3
def wp_X4_someFindFaults_5_2 (K : Int32 → WireS → Prop) : WireS → Int32 → Int32 → Int32 → Prop := fun (state, left, tapeLen, tapeB, tLine, tReader, nodes) v1 v2 v3 => wp_X2_look (nodes 2) (v1 ^^^ ((v2 >>> (2 &&& 31)) &&& 1)) (fun u5 => ((u5.2.2.2.2.2.2.2.2.1 = 0 → wp_X4_someFindFaults_44_2 K (state, left, tapeLen, tapeB, tLine, tReader, va_up nodes 2 u5) v1 v2 v3) ∧ (¬ u5.2.2.2.2.2.2.2.2.1 = 0 → wp_X4_someFindFaults_44_2 K (state, left, tapeLen, tapeB, tLine, tReader, va_up nodes 2 u5) v1 v2 1)))
def wp_X4_someFindFaults_44_1 (K : Int32 → WireS → Prop) : WireS → Int32 → Int32 → Int32 → Prop := fun (state, left, tapeLen, tapeB, tLine, tReader, nodes) v1 v2 v3 => wp_X4_someFindFaults_5_2 K (state, left, tapeLen, tapeB, tLine, tReader, nodes) v1 v2 v3
def wp_X4_someFindFaults_5_1 (K : Int32 → WireS → Prop) : WireS → Int32 → Int32 → Int32 → Prop := fun (state, left, tapeLen, tapeB, tLine, tReader, nodes) v1 v2 v3 => wp_X2_look (nodes 1) (v1 ^^^ ((v2 >>> (1 &&& 31)) &&& 1)) (fun u3 => ((u3.2.2.2.2.2.2.2.2.1 = 0 → wp_X4_someFindFaults_44_1 K (state, left, tapeLen, tapeB, tLine, tReader, va_up nodes 1 u3) v1 v2 v3) ∧ (¬ u3.2.2.2.2.2.2.2.2.1 = 0 → wp_X4_someFindFaults_44_1 K (state, left, tapeLen, tapeB, tLine, tReader, va_up nodes 1 u3) v1 v2 1)))
def wp_X4_someFindFaults_44_0 (K : Int32 → WireS → Prop) : WireS → Int32 → Int32 → Int32 → Prop := fun (state, left, tapeLen, tapeB, tLine, tReader, nodes) v1 v2 v3 => wp_X4_someFindFaults_5_1 K (state, left, tapeLen, tapeB, tLine, tReader, nodes) v1 v2 v3
def wp_X4_someFindFaults_5_0 (K : Int32 → WireS → Prop) : WireS → Int32 → Int32 → Int32 → Prop := fun (state, left, tapeLen, tapeB, tLine, tReader, nodes) v1 v2 v3 => wp_X2_look (nodes 0) (v1 ^^^ ((v2 >>> (0 &&& 31)) &&& 1)) (fun u1 => ((u1.2.2.2.2.2.2.2.2.1 = 0 → wp_X4_someFindFaults_44_0 K (state, left, tapeLen, tapeB, tLine, tReader, va_up nodes 0 u1) v1 v2 v3) ∧ (¬ u1.2.2.2.2.2.2.2.2.1 = 0 → wp_X4_someFindFaults_44_0 K (state, left, tapeLen, tapeB, tLine, tReader, va_up nodes 0 u1) v1 v2 1)))
def wp_X4_someFindFaults : WireS → Int32 → Int32 → (Int32 → WireS → Prop) → Prop := fun (state, left, tapeLen, tapeB, tLine, tReader, nodes) p0 p1 K => wp_X4_someFindFaults_5_0 K (state, left, tapeLen, tapeB, tLine, tReader, nodes) p0 p1 0
set_option maxHeartbeats 4000000 in
set_option maxRecDepth 100000 in
theorem j_X4_someFindFaults_5_4 {p : Program} {l : Launch} {e : Env} {s : State} {m : MethodId} {args : Array Value} {below : List Frame} {meth : Method} {c : Code} {dC : Nat → ClassId} {dI : Nat → Nat → Nat} {y : Nat → ClassId} {A : Nat → Prop} (C0 : Cx p s m args meth c cX4_someFindFaults 5 (some .boolean) wsX4_someFindFaults RX4 A dC dI y) (a : WireA) (gs : Nat → Nat → Nat) (K : Int32 → WireS → Prop) : ∀ (S : WireS) (v1 : Int32) (v2 : Int32) (v3 : Int32) (H : Heap) (locs : List Loc) (ls : Array Slot), va_P (dC, dI) vwCl (wrW y a gs S) H → va_D A (wrW y a gs S) → va_S A s.heap H locs → lv_has ls 5 [(0, .ref a.1), (1, .int v1), (2, .int v2), (3, .int v3), (4, .int 4)] → wp_X4_someFindFaults_5_4 K S v1 v2 v3 → W p l e ({ frames := 5, cells := 0, slots := 0, locals := 109 } : Room) s m args below meth c H locs 0 0 (MQ below (va_Qi K (BW dC dI A (fun u => wrW y a gs u)) A) args s 0 0 A) (F0 m 5 ls []) := by
  obtain ⟨hx, hb, hr, hml, hown, hts, hlocks, hA, hK⟩ := id C0
  intro S v1 v2 v3 H locs ls hP hD hS hl hf
  obtain ⟨state, left, tapeLen, tapeB, tLine, tReader, nodes⟩ := S
  unfold wp_X4_someFindFaults_5_4 at hf
  refine lv_iload hx hb dX4_someFindFaults_5 (lv_at hl 4 rfl) ?_
  refine lv_iconst (v := 4) hx hb dX4_someFindFaults_7 (by decide) ?_
  refine lv_icmp_ge (tgt := 50) hx hb dX4_someFindFaults_8 (by decide) (fun _ => ?_) (fun c9 => absurd (by decide) c9)
  refine lv_iload_n hx hb dX4_someFindFaults_50 rfl (lv_at hl 3 rfl) ?_
  exact W.zret (v := v3) (ty := .boolean) hx hb hr hf.1.1 (fun t ht hW => ⟨⟨v3, (state, left, tapeLen, tapeB, tLine, tReader, nodes), rfl, hf.2, by rw [ht]; exact hP, hD⟩, hS.F ht⟩) hS.2.2 dX4_someFindFaults_51
set_option maxHeartbeats 4000000 in
set_option maxRecDepth 100000 in
theorem j_X4_someFindFaults_44_3 {p : Program} {l : Launch} {e : Env} {s : State} {m : MethodId} {args : Array Value} {below : List Frame} {meth : Method} {c : Code} {dC : Nat → ClassId} {dI : Nat → Nat → Nat} {y : Nat → ClassId} {A : Nat → Prop} (C0 : Cx p s m args meth c cX4_someFindFaults 5 (some .boolean) wsX4_someFindFaults RX4 A dC dI y) (a : WireA) (gs : Nat → Nat → Nat) (K : Int32 → WireS → Prop) : ∀ (S : WireS) (v1 : Int32) (v2 : Int32) (v3 : Int32) (H : Heap) (locs : List Loc) (ls : Array Slot), va_P (dC, dI) vwCl (wrW y a gs S) H → va_D A (wrW y a gs S) → va_S A s.heap H locs → lv_has ls 5 [(0, .ref a.1), (1, .int v1), (2, .int v2), (3, .int v3), (4, .int 3)] → wp_X4_someFindFaults_44_3 K S v1 v2 v3 → W p l e ({ frames := 5, cells := 0, slots := 0, locals := 109 } : Room) s m args below meth c H locs 0 0 (MQ below (va_Qi K (BW dC dI A (fun u => wrW y a gs u)) A) args s 0 0 A) (F0 m 44 ls []) := by
  obtain ⟨hx, hb, hr, hml, hown, hts, hlocks, hA, hK⟩ := id C0
  intro S v1 v2 v3 H locs ls hP hD hS hl hf
  obtain ⟨state, left, tapeLen, tapeB, tLine, tReader, nodes⟩ := S
  unfold wp_X4_someFindFaults_44_3 at hf
  refine lv_iinc (v := 4) (lv' := [(4, .int 4), (0, .ref a.1), (1, .int v1), (2, .int v2), (3, .int v3)]) hx hb dX4_someFindFaults_44 hl (k := 4) rfl (by decide) (by decide) rfl (fun ls hl => ?_)
  refine lv_goto (tgt := 5) hx hb dX4_someFindFaults_47 (by decide) ?_
  exact j_X4_someFindFaults_5_4 C0 a gs K (state, left, tapeLen, tapeB, tLine, tReader, nodes) v1 v2 v3 H locs ls hP hD hS (lv_sub hl [1, 2, 3, 4, 0] rfl) hf
set_option maxHeartbeats 4000000 in
set_option maxRecDepth 100000 in
theorem j_X4_someFindFaults_5_3 {p : Program} {l : Launch} {e : Env} {s : State} {m : MethodId} {args : Array Value} {below : List Frame} {meth : Method} {c : Code} {dC : Nat → ClassId} {dI : Nat → Nat → Nat} {y : Nat → ClassId} {A : Nat → Prop} (C0 : Cx p s m args meth c cX4_someFindFaults 5 (some .boolean) wsX4_someFindFaults RX4 A dC dI y) (a : WireA) (gs : Nat → Nat → Nat) (K : Int32 → WireS → Prop) : ∀ (S : WireS) (v1 : Int32) (v2 : Int32) (v3 : Int32) (H : Heap) (locs : List Loc) (ls : Array Slot), va_P (dC, dI) vwCl (wrW y a gs S) H → va_D A (wrW y a gs S) → va_S A s.heap H locs → lv_has ls 5 [(0, .ref a.1), (1, .int v1), (2, .int v2), (3, .int v3), (4, .int 3)] → wp_X4_someFindFaults_5_3 K S v1 v2 v3 → W p l e ({ frames := 5, cells := 0, slots := 0, locals := 109 } : Room) s m args below meth c H locs 0 0 (MQ below (va_Qi K (BW dC dI A (fun u => wrW y a gs u)) A) args s 0 0 A) (F0 m 5 ls []) := by
  obtain ⟨hx, hb, hr, hml, hown, hts, hlocks, hA, hK⟩ := id C0
  have w11 := hts (Cond.fieldLink RX4 11 "SharedWire" "nodes" "[LSharedWire$Node;") (List.mem_of_getElem? (i := 1) rfl)
  have w181 := hts (Cond.fieldLink RX4 181 "SharedWire$Node" "found" "I") (List.mem_of_getElem? (i := 2) rfl)
  have hinX2 : ∀ w ∈ wsX20, w ∈ wsX4_someFindFaults := fun w h => List.mem_cons_of_mem _ (List.mem_append_left _ (List.mem_append_left _ (List.mem_append_left _ (List.mem_append_right _ (h)))))
  have hinX4 : ∀ w ∈ wsX40, w ∈ wsX4_someFindFaults := fun w h => List.mem_cons_of_mem _ (List.mem_append_left _ (List.mem_append_left _ (List.mem_append_left _ (List.mem_append_left _ (List.mem_append_right _ (h))))))
  intro S v1 v2 v3 H locs ls hP hD hS hl hf
  obtain ⟨state, left, tapeLen, tapeB, tLine, tReader, nodes⟩ := S
  unfold wp_X4_someFindFaults_5_3 at hf
  refine lv_iload hx hb dX4_someFindFaults_5 (lv_at hl 4 rfl) ?_
  refine lv_iconst (v := 4) hx hb dX4_someFindFaults_7 (by decide) ?_
  refine lv_icmp_ge (tgt := 50) hx hb dX4_someFindFaults_8 (by decide) (fun c9 => absurd c9 (by decide)) (fun _ => ?_)
  refine lv_aload_n hx hb dX4_someFindFaults_11 rfl (lv_at hl 0 rfl) ?_
  refine va_get (D := (dC, dI)) (ci := 4) (v := .ref a.2.1) (C := RX4) (T := TX4) (N := 7) hx hb hts hinX4 hown hK.1 hP 0 rfl rfl 0 (by decide) w11 (fun _ h9 => h9) rfl dX4_someFindFaults_12 ?_
  refine lv_iload hx hb dX4_someFindFaults_15 (lv_at hl 4 rfl) ?_
  refine ar_qld (j := 3) hx hb hK.1 hP 1 4 rfl rfl (clamp_lit 3 rfl) (vin_lit 3 4 rfl rfl) dX4_someFindFaults_17 ?_
  refine lv_iload_n hx hb dX4_someFindFaults_18 rfl (lv_at hl 1 rfl) ?_
  refine lv_iload_n hx hb dX4_someFindFaults_19 rfl (lv_at hl 2 rfl) ?_
  refine lv_iload hx hb dX4_someFindFaults_20 (lv_at hl 4 rfl) ?_
  refine lv_ishr hx hb dX4_someFindFaults_22 ?_
  refine lv_iconst (v := 1) hx hb dX4_someFindFaults_23 (by decide) ?_
  refine lv_iand hx hb dX4_someFindFaults_24 ?_
  refine lv_ixor hx hb dX4_someFindFaults_25 ?_
  refine kVv (As := [.int (v1 ^^^ ((v2 >>> (3 &&& 31)) &&& 1))]) (rest := []) (pre := (wrW y a gs (state, left, tapeLen, tapeB, tLine, tReader, nodes)).take 44) (post := (wrW y a gs (state, left, tapeLen, tapeB, tLine, tReader, nodes)).drop 56) ⟨hx, hb, hml, hown, hts⟩ (c_X2_look l dC dI y (aw (a.2.2.2.2.2 3) (gs 3)) H.size (nodes 3) (v1 ^^^ ((v2 >>> (3 &&& 31)) &&& 1)) _ hf) (cwV 1 hts gX4_someFindFaults_X2_look rfl rfl rfl (by decide +kernel) ⟨Nat.le_of_ble_eq_true rfl, Nat.le_of_ble_eq_true rfl⟩) hK hP hD (va_recv hK.1 hP (ci := 2) (q0 := 44) rfl rfl) hS hA rfl hl.1 rfl (Nat.le_of_ble_eq_true rfl) dX4_someFindFaults_26 ⟨Nat.zero_le _, Nat.zero_le _⟩ (fun u7 H locs hf hP hD hS => ?_)
  have hP : va_P (dC, dI) vwCl (wrW y a gs (state, left, tapeLen, tapeB, tLine, tReader, va_up nodes 3 u7)) H := hP
  have hD : va_D A (wrW y a gs (state, left, tapeLen, tapeB, tLine, tReader, va_up nodes 3 u7)) := hD
  refine lv_aload_n hx hb dX4_someFindFaults_29 rfl (lv_at hl 0 rfl) ?_
  refine va_get (D := (dC, dI)) (ci := 4) (v := .ref a.2.1) (C := RX4) (T := TX4) (N := 7) hx hb hts hinX4 hown hK.1 hP 0 rfl rfl 0 (by decide) w11 (fun _ h9 => h9) rfl dX4_someFindFaults_30 ?_
  refine lv_iload hx hb dX4_someFindFaults_33 (lv_at hl 4 rfl) ?_
  refine ar_qld (j := 3) hx hb hK.1 hP 1 4 rfl rfl (clamp_lit 3 rfl) (vin_lit 3 4 rfl rfl) dX4_someFindFaults_35 ?_
  refine va_get (D := (dC, dI)) (ci := 2) (v := .int u7.2.2.2.2.2.2.2.2.1) (C := RX2) (T := TX2) (N := 15) hx hb hts hinX2 hown hK.1 hP 44 rfl rfl 12 (by decide) w181 (fun _ h9 => h9) rfl dX4_someFindFaults_36 ?_
  refine lv_if_eq (tgt := 44) hx hb dX4_someFindFaults_39 (by decide) (fun c8 => ?_) (fun c8 => ?_)
  · replace hf := hf.1 c8
    exact j_X4_someFindFaults_44_3 C0 a gs K (state, left, tapeLen, tapeB, tLine, tReader, va_up nodes 3 u7) v1 v2 v3 H locs ls hP hD hS (lv_sub hl [0, 1, 2, 3, 4] rfl) hf
  · replace hf := hf.2 c8
    refine lv_iconst (v := 1) hx hb dX4_someFindFaults_42 (by decide) ?_
    refine lv_istore_n (lv' := [(3, .int 1), (0, .ref a.1), (1, .int v1), (2, .int v2), (4, .int 3)]) hx hb dX4_someFindFaults_43 rfl hl (by decide) rfl (fun ls hl => ?_)
    exact j_X4_someFindFaults_44_3 C0 a gs K (state, left, tapeLen, tapeB, tLine, tReader, va_up nodes 3 u7) v1 v2 1 H locs ls hP hD hS (lv_sub hl [1, 2, 3, 0, 4] rfl) hf
set_option maxHeartbeats 4000000 in
set_option maxRecDepth 100000 in
theorem j_X4_someFindFaults_44_2 {p : Program} {l : Launch} {e : Env} {s : State} {m : MethodId} {args : Array Value} {below : List Frame} {meth : Method} {c : Code} {dC : Nat → ClassId} {dI : Nat → Nat → Nat} {y : Nat → ClassId} {A : Nat → Prop} (C0 : Cx p s m args meth c cX4_someFindFaults 5 (some .boolean) wsX4_someFindFaults RX4 A dC dI y) (a : WireA) (gs : Nat → Nat → Nat) (K : Int32 → WireS → Prop) : ∀ (S : WireS) (v1 : Int32) (v2 : Int32) (v3 : Int32) (H : Heap) (locs : List Loc) (ls : Array Slot), va_P (dC, dI) vwCl (wrW y a gs S) H → va_D A (wrW y a gs S) → va_S A s.heap H locs → lv_has ls 5 [(0, .ref a.1), (1, .int v1), (2, .int v2), (3, .int v3), (4, .int 2)] → wp_X4_someFindFaults_44_2 K S v1 v2 v3 → W p l e ({ frames := 5, cells := 0, slots := 0, locals := 109 } : Room) s m args below meth c H locs 0 0 (MQ below (va_Qi K (BW dC dI A (fun u => wrW y a gs u)) A) args s 0 0 A) (F0 m 44 ls []) := by
  obtain ⟨hx, hb, hr, hml, hown, hts, hlocks, hA, hK⟩ := id C0
  intro S v1 v2 v3 H locs ls hP hD hS hl hf
  obtain ⟨state, left, tapeLen, tapeB, tLine, tReader, nodes⟩ := S
  unfold wp_X4_someFindFaults_44_2 at hf
  refine lv_iinc (v := 3) (lv' := [(4, .int 3), (0, .ref a.1), (1, .int v1), (2, .int v2), (3, .int v3)]) hx hb dX4_someFindFaults_44 hl (k := 4) rfl (by decide) (by decide) rfl (fun ls hl => ?_)
  refine lv_goto (tgt := 5) hx hb dX4_someFindFaults_47 (by decide) ?_
  exact j_X4_someFindFaults_5_3 C0 a gs K (state, left, tapeLen, tapeB, tLine, tReader, nodes) v1 v2 v3 H locs ls hP hD hS (lv_sub hl [1, 2, 3, 4, 0] rfl) hf
set_option maxHeartbeats 4000000 in
set_option maxRecDepth 100000 in
theorem j_X4_someFindFaults_5_2 {p : Program} {l : Launch} {e : Env} {s : State} {m : MethodId} {args : Array Value} {below : List Frame} {meth : Method} {c : Code} {dC : Nat → ClassId} {dI : Nat → Nat → Nat} {y : Nat → ClassId} {A : Nat → Prop} (C0 : Cx p s m args meth c cX4_someFindFaults 5 (some .boolean) wsX4_someFindFaults RX4 A dC dI y) (a : WireA) (gs : Nat → Nat → Nat) (K : Int32 → WireS → Prop) : ∀ (S : WireS) (v1 : Int32) (v2 : Int32) (v3 : Int32) (H : Heap) (locs : List Loc) (ls : Array Slot), va_P (dC, dI) vwCl (wrW y a gs S) H → va_D A (wrW y a gs S) → va_S A s.heap H locs → lv_has ls 5 [(0, .ref a.1), (1, .int v1), (2, .int v2), (3, .int v3), (4, .int 2)] → wp_X4_someFindFaults_5_2 K S v1 v2 v3 → W p l e ({ frames := 5, cells := 0, slots := 0, locals := 109 } : Room) s m args below meth c H locs 0 0 (MQ below (va_Qi K (BW dC dI A (fun u => wrW y a gs u)) A) args s 0 0 A) (F0 m 5 ls []) := by
  obtain ⟨hx, hb, hr, hml, hown, hts, hlocks, hA, hK⟩ := id C0
  have w11 := hts (Cond.fieldLink RX4 11 "SharedWire" "nodes" "[LSharedWire$Node;") (List.mem_of_getElem? (i := 1) rfl)
  have w181 := hts (Cond.fieldLink RX4 181 "SharedWire$Node" "found" "I") (List.mem_of_getElem? (i := 2) rfl)
  have hinX2 : ∀ w ∈ wsX20, w ∈ wsX4_someFindFaults := fun w h => List.mem_cons_of_mem _ (List.mem_append_left _ (List.mem_append_left _ (List.mem_append_left _ (List.mem_append_right _ (h)))))
  have hinX4 : ∀ w ∈ wsX40, w ∈ wsX4_someFindFaults := fun w h => List.mem_cons_of_mem _ (List.mem_append_left _ (List.mem_append_left _ (List.mem_append_left _ (List.mem_append_left _ (List.mem_append_right _ (h))))))
  intro S v1 v2 v3 H locs ls hP hD hS hl hf
  obtain ⟨state, left, tapeLen, tapeB, tLine, tReader, nodes⟩ := S
  unfold wp_X4_someFindFaults_5_2 at hf
  refine lv_iload hx hb dX4_someFindFaults_5 (lv_at hl 4 rfl) ?_
  refine lv_iconst (v := 4) hx hb dX4_someFindFaults_7 (by decide) ?_
  refine lv_icmp_ge (tgt := 50) hx hb dX4_someFindFaults_8 (by decide) (fun c9 => absurd c9 (by decide)) (fun _ => ?_)
  refine lv_aload_n hx hb dX4_someFindFaults_11 rfl (lv_at hl 0 rfl) ?_
  refine va_get (D := (dC, dI)) (ci := 4) (v := .ref a.2.1) (C := RX4) (T := TX4) (N := 7) hx hb hts hinX4 hown hK.1 hP 0 rfl rfl 0 (by decide) w11 (fun _ h9 => h9) rfl dX4_someFindFaults_12 ?_
  refine lv_iload hx hb dX4_someFindFaults_15 (lv_at hl 4 rfl) ?_
  refine ar_qld (j := 2) hx hb hK.1 hP 1 4 rfl rfl (clamp_lit 2 rfl) (vin_lit 2 4 rfl rfl) dX4_someFindFaults_17 ?_
  refine lv_iload_n hx hb dX4_someFindFaults_18 rfl (lv_at hl 1 rfl) ?_
  refine lv_iload_n hx hb dX4_someFindFaults_19 rfl (lv_at hl 2 rfl) ?_
  refine lv_iload hx hb dX4_someFindFaults_20 (lv_at hl 4 rfl) ?_
  refine lv_ishr hx hb dX4_someFindFaults_22 ?_
  refine lv_iconst (v := 1) hx hb dX4_someFindFaults_23 (by decide) ?_
  refine lv_iand hx hb dX4_someFindFaults_24 ?_
  refine lv_ixor hx hb dX4_someFindFaults_25 ?_
  refine kVv (As := [.int (v1 ^^^ ((v2 >>> (2 &&& 31)) &&& 1))]) (rest := []) (pre := (wrW y a gs (state, left, tapeLen, tapeB, tLine, tReader, nodes)).take 32) (post := (wrW y a gs (state, left, tapeLen, tapeB, tLine, tReader, nodes)).drop 44) ⟨hx, hb, hml, hown, hts⟩ (c_X2_look l dC dI y (aw (a.2.2.2.2.2 2) (gs 2)) H.size (nodes 2) (v1 ^^^ ((v2 >>> (2 &&& 31)) &&& 1)) _ hf) (cwV 1 hts gX4_someFindFaults_X2_look rfl rfl rfl (by decide +kernel) ⟨Nat.le_of_ble_eq_true rfl, Nat.le_of_ble_eq_true rfl⟩) hK hP hD (va_recv hK.1 hP (ci := 2) (q0 := 32) rfl rfl) hS hA rfl hl.1 rfl (Nat.le_of_ble_eq_true rfl) dX4_someFindFaults_26 ⟨Nat.zero_le _, Nat.zero_le _⟩ (fun u5 H locs hf hP hD hS => ?_)
  have hP : va_P (dC, dI) vwCl (wrW y a gs (state, left, tapeLen, tapeB, tLine, tReader, va_up nodes 2 u5)) H := hP
  have hD : va_D A (wrW y a gs (state, left, tapeLen, tapeB, tLine, tReader, va_up nodes 2 u5)) := hD
  refine lv_aload_n hx hb dX4_someFindFaults_29 rfl (lv_at hl 0 rfl) ?_
  refine va_get (D := (dC, dI)) (ci := 4) (v := .ref a.2.1) (C := RX4) (T := TX4) (N := 7) hx hb hts hinX4 hown hK.1 hP 0 rfl rfl 0 (by decide) w11 (fun _ h9 => h9) rfl dX4_someFindFaults_30 ?_
  refine lv_iload hx hb dX4_someFindFaults_33 (lv_at hl 4 rfl) ?_
  refine ar_qld (j := 2) hx hb hK.1 hP 1 4 rfl rfl (clamp_lit 2 rfl) (vin_lit 2 4 rfl rfl) dX4_someFindFaults_35 ?_
  refine va_get (D := (dC, dI)) (ci := 2) (v := .int u5.2.2.2.2.2.2.2.2.1) (C := RX2) (T := TX2) (N := 15) hx hb hts hinX2 hown hK.1 hP 32 rfl rfl 12 (by decide) w181 (fun _ h9 => h9) rfl dX4_someFindFaults_36 ?_
  refine lv_if_eq (tgt := 44) hx hb dX4_someFindFaults_39 (by decide) (fun c6 => ?_) (fun c6 => ?_)
  · replace hf := hf.1 c6
    exact j_X4_someFindFaults_44_2 C0 a gs K (state, left, tapeLen, tapeB, tLine, tReader, va_up nodes 2 u5) v1 v2 v3 H locs ls hP hD hS (lv_sub hl [0, 1, 2, 3, 4] rfl) hf
  · replace hf := hf.2 c6
    refine lv_iconst (v := 1) hx hb dX4_someFindFaults_42 (by decide) ?_
    refine lv_istore_n (lv' := [(3, .int 1), (0, .ref a.1), (1, .int v1), (2, .int v2), (4, .int 2)]) hx hb dX4_someFindFaults_43 rfl hl (by decide) rfl (fun ls hl => ?_)
    exact j_X4_someFindFaults_44_2 C0 a gs K (state, left, tapeLen, tapeB, tLine, tReader, va_up nodes 2 u5) v1 v2 1 H locs ls hP hD hS (lv_sub hl [1, 2, 3, 0, 4] rfl) hf
set_option maxHeartbeats 4000000 in
set_option maxRecDepth 100000 in
theorem j_X4_someFindFaults_44_1 {p : Program} {l : Launch} {e : Env} {s : State} {m : MethodId} {args : Array Value} {below : List Frame} {meth : Method} {c : Code} {dC : Nat → ClassId} {dI : Nat → Nat → Nat} {y : Nat → ClassId} {A : Nat → Prop} (C0 : Cx p s m args meth c cX4_someFindFaults 5 (some .boolean) wsX4_someFindFaults RX4 A dC dI y) (a : WireA) (gs : Nat → Nat → Nat) (K : Int32 → WireS → Prop) : ∀ (S : WireS) (v1 : Int32) (v2 : Int32) (v3 : Int32) (H : Heap) (locs : List Loc) (ls : Array Slot), va_P (dC, dI) vwCl (wrW y a gs S) H → va_D A (wrW y a gs S) → va_S A s.heap H locs → lv_has ls 5 [(0, .ref a.1), (1, .int v1), (2, .int v2), (3, .int v3), (4, .int 1)] → wp_X4_someFindFaults_44_1 K S v1 v2 v3 → W p l e ({ frames := 5, cells := 0, slots := 0, locals := 109 } : Room) s m args below meth c H locs 0 0 (MQ below (va_Qi K (BW dC dI A (fun u => wrW y a gs u)) A) args s 0 0 A) (F0 m 44 ls []) := by
  obtain ⟨hx, hb, hr, hml, hown, hts, hlocks, hA, hK⟩ := id C0
  intro S v1 v2 v3 H locs ls hP hD hS hl hf
  obtain ⟨state, left, tapeLen, tapeB, tLine, tReader, nodes⟩ := S
  unfold wp_X4_someFindFaults_44_1 at hf
  refine lv_iinc (v := 2) (lv' := [(4, .int 2), (0, .ref a.1), (1, .int v1), (2, .int v2), (3, .int v3)]) hx hb dX4_someFindFaults_44 hl (k := 4) rfl (by decide) (by decide) rfl (fun ls hl => ?_)
  refine lv_goto (tgt := 5) hx hb dX4_someFindFaults_47 (by decide) ?_
  exact j_X4_someFindFaults_5_2 C0 a gs K (state, left, tapeLen, tapeB, tLine, tReader, nodes) v1 v2 v3 H locs ls hP hD hS (lv_sub hl [1, 2, 3, 4, 0] rfl) hf
set_option maxHeartbeats 4000000 in
set_option maxRecDepth 100000 in
theorem j_X4_someFindFaults_5_1 {p : Program} {l : Launch} {e : Env} {s : State} {m : MethodId} {args : Array Value} {below : List Frame} {meth : Method} {c : Code} {dC : Nat → ClassId} {dI : Nat → Nat → Nat} {y : Nat → ClassId} {A : Nat → Prop} (C0 : Cx p s m args meth c cX4_someFindFaults 5 (some .boolean) wsX4_someFindFaults RX4 A dC dI y) (a : WireA) (gs : Nat → Nat → Nat) (K : Int32 → WireS → Prop) : ∀ (S : WireS) (v1 : Int32) (v2 : Int32) (v3 : Int32) (H : Heap) (locs : List Loc) (ls : Array Slot), va_P (dC, dI) vwCl (wrW y a gs S) H → va_D A (wrW y a gs S) → va_S A s.heap H locs → lv_has ls 5 [(0, .ref a.1), (1, .int v1), (2, .int v2), (3, .int v3), (4, .int 1)] → wp_X4_someFindFaults_5_1 K S v1 v2 v3 → W p l e ({ frames := 5, cells := 0, slots := 0, locals := 109 } : Room) s m args below meth c H locs 0 0 (MQ below (va_Qi K (BW dC dI A (fun u => wrW y a gs u)) A) args s 0 0 A) (F0 m 5 ls []) := by
  obtain ⟨hx, hb, hr, hml, hown, hts, hlocks, hA, hK⟩ := id C0
  have w11 := hts (Cond.fieldLink RX4 11 "SharedWire" "nodes" "[LSharedWire$Node;") (List.mem_of_getElem? (i := 1) rfl)
  have w181 := hts (Cond.fieldLink RX4 181 "SharedWire$Node" "found" "I") (List.mem_of_getElem? (i := 2) rfl)
  have hinX2 : ∀ w ∈ wsX20, w ∈ wsX4_someFindFaults := fun w h => List.mem_cons_of_mem _ (List.mem_append_left _ (List.mem_append_left _ (List.mem_append_left _ (List.mem_append_right _ (h)))))
  have hinX4 : ∀ w ∈ wsX40, w ∈ wsX4_someFindFaults := fun w h => List.mem_cons_of_mem _ (List.mem_append_left _ (List.mem_append_left _ (List.mem_append_left _ (List.mem_append_left _ (List.mem_append_right _ (h))))))
  intro S v1 v2 v3 H locs ls hP hD hS hl hf
  obtain ⟨state, left, tapeLen, tapeB, tLine, tReader, nodes⟩ := S
  unfold wp_X4_someFindFaults_5_1 at hf
  refine lv_iload hx hb dX4_someFindFaults_5 (lv_at hl 4 rfl) ?_
  refine lv_iconst (v := 4) hx hb dX4_someFindFaults_7 (by decide) ?_
  refine lv_icmp_ge (tgt := 50) hx hb dX4_someFindFaults_8 (by decide) (fun c9 => absurd c9 (by decide)) (fun _ => ?_)
  refine lv_aload_n hx hb dX4_someFindFaults_11 rfl (lv_at hl 0 rfl) ?_
  refine va_get (D := (dC, dI)) (ci := 4) (v := .ref a.2.1) (C := RX4) (T := TX4) (N := 7) hx hb hts hinX4 hown hK.1 hP 0 rfl rfl 0 (by decide) w11 (fun _ h9 => h9) rfl dX4_someFindFaults_12 ?_
  refine lv_iload hx hb dX4_someFindFaults_15 (lv_at hl 4 rfl) ?_
  refine ar_qld (j := 1) hx hb hK.1 hP 1 4 rfl rfl (clamp_lit 1 rfl) (vin_lit 1 4 rfl rfl) dX4_someFindFaults_17 ?_
  refine lv_iload_n hx hb dX4_someFindFaults_18 rfl (lv_at hl 1 rfl) ?_
  refine lv_iload_n hx hb dX4_someFindFaults_19 rfl (lv_at hl 2 rfl) ?_
  refine lv_iload hx hb dX4_someFindFaults_20 (lv_at hl 4 rfl) ?_
  refine lv_ishr hx hb dX4_someFindFaults_22 ?_
  refine lv_iconst (v := 1) hx hb dX4_someFindFaults_23 (by decide) ?_
  refine lv_iand hx hb dX4_someFindFaults_24 ?_
  refine lv_ixor hx hb dX4_someFindFaults_25 ?_
  refine kVv (As := [.int (v1 ^^^ ((v2 >>> (1 &&& 31)) &&& 1))]) (rest := []) (pre := (wrW y a gs (state, left, tapeLen, tapeB, tLine, tReader, nodes)).take 20) (post := (wrW y a gs (state, left, tapeLen, tapeB, tLine, tReader, nodes)).drop 32) ⟨hx, hb, hml, hown, hts⟩ (c_X2_look l dC dI y (aw (a.2.2.2.2.2 1) (gs 1)) H.size (nodes 1) (v1 ^^^ ((v2 >>> (1 &&& 31)) &&& 1)) _ hf) (cwV 1 hts gX4_someFindFaults_X2_look rfl rfl rfl (by decide +kernel) ⟨Nat.le_of_ble_eq_true rfl, Nat.le_of_ble_eq_true rfl⟩) hK hP hD (va_recv hK.1 hP (ci := 2) (q0 := 20) rfl rfl) hS hA rfl hl.1 rfl (Nat.le_of_ble_eq_true rfl) dX4_someFindFaults_26 ⟨Nat.zero_le _, Nat.zero_le _⟩ (fun u3 H locs hf hP hD hS => ?_)
  have hP : va_P (dC, dI) vwCl (wrW y a gs (state, left, tapeLen, tapeB, tLine, tReader, va_up nodes 1 u3)) H := hP
  have hD : va_D A (wrW y a gs (state, left, tapeLen, tapeB, tLine, tReader, va_up nodes 1 u3)) := hD
  refine lv_aload_n hx hb dX4_someFindFaults_29 rfl (lv_at hl 0 rfl) ?_
  refine va_get (D := (dC, dI)) (ci := 4) (v := .ref a.2.1) (C := RX4) (T := TX4) (N := 7) hx hb hts hinX4 hown hK.1 hP 0 rfl rfl 0 (by decide) w11 (fun _ h9 => h9) rfl dX4_someFindFaults_30 ?_
  refine lv_iload hx hb dX4_someFindFaults_33 (lv_at hl 4 rfl) ?_
  refine ar_qld (j := 1) hx hb hK.1 hP 1 4 rfl rfl (clamp_lit 1 rfl) (vin_lit 1 4 rfl rfl) dX4_someFindFaults_35 ?_
  refine va_get (D := (dC, dI)) (ci := 2) (v := .int u3.2.2.2.2.2.2.2.2.1) (C := RX2) (T := TX2) (N := 15) hx hb hts hinX2 hown hK.1 hP 20 rfl rfl 12 (by decide) w181 (fun _ h9 => h9) rfl dX4_someFindFaults_36 ?_
  refine lv_if_eq (tgt := 44) hx hb dX4_someFindFaults_39 (by decide) (fun c4 => ?_) (fun c4 => ?_)
  · replace hf := hf.1 c4
    exact j_X4_someFindFaults_44_1 C0 a gs K (state, left, tapeLen, tapeB, tLine, tReader, va_up nodes 1 u3) v1 v2 v3 H locs ls hP hD hS (lv_sub hl [0, 1, 2, 3, 4] rfl) hf
  · replace hf := hf.2 c4
    refine lv_iconst (v := 1) hx hb dX4_someFindFaults_42 (by decide) ?_
    refine lv_istore_n (lv' := [(3, .int 1), (0, .ref a.1), (1, .int v1), (2, .int v2), (4, .int 1)]) hx hb dX4_someFindFaults_43 rfl hl (by decide) rfl (fun ls hl => ?_)
    exact j_X4_someFindFaults_44_1 C0 a gs K (state, left, tapeLen, tapeB, tLine, tReader, va_up nodes 1 u3) v1 v2 1 H locs ls hP hD hS (lv_sub hl [1, 2, 3, 0, 4] rfl) hf
set_option maxHeartbeats 4000000 in
set_option maxRecDepth 100000 in
theorem j_X4_someFindFaults_44_0 {p : Program} {l : Launch} {e : Env} {s : State} {m : MethodId} {args : Array Value} {below : List Frame} {meth : Method} {c : Code} {dC : Nat → ClassId} {dI : Nat → Nat → Nat} {y : Nat → ClassId} {A : Nat → Prop} (C0 : Cx p s m args meth c cX4_someFindFaults 5 (some .boolean) wsX4_someFindFaults RX4 A dC dI y) (a : WireA) (gs : Nat → Nat → Nat) (K : Int32 → WireS → Prop) : ∀ (S : WireS) (v1 : Int32) (v2 : Int32) (v3 : Int32) (H : Heap) (locs : List Loc) (ls : Array Slot), va_P (dC, dI) vwCl (wrW y a gs S) H → va_D A (wrW y a gs S) → va_S A s.heap H locs → lv_has ls 5 [(0, .ref a.1), (1, .int v1), (2, .int v2), (3, .int v3), (4, .int 0)] → wp_X4_someFindFaults_44_0 K S v1 v2 v3 → W p l e ({ frames := 5, cells := 0, slots := 0, locals := 109 } : Room) s m args below meth c H locs 0 0 (MQ below (va_Qi K (BW dC dI A (fun u => wrW y a gs u)) A) args s 0 0 A) (F0 m 44 ls []) := by
  obtain ⟨hx, hb, hr, hml, hown, hts, hlocks, hA, hK⟩ := id C0
  intro S v1 v2 v3 H locs ls hP hD hS hl hf
  obtain ⟨state, left, tapeLen, tapeB, tLine, tReader, nodes⟩ := S
  unfold wp_X4_someFindFaults_44_0 at hf
  refine lv_iinc (v := 1) (lv' := [(4, .int 1), (0, .ref a.1), (1, .int v1), (2, .int v2), (3, .int v3)]) hx hb dX4_someFindFaults_44 hl (k := 4) rfl (by decide) (by decide) rfl (fun ls hl => ?_)
  refine lv_goto (tgt := 5) hx hb dX4_someFindFaults_47 (by decide) ?_
  exact j_X4_someFindFaults_5_1 C0 a gs K (state, left, tapeLen, tapeB, tLine, tReader, nodes) v1 v2 v3 H locs ls hP hD hS (lv_sub hl [1, 2, 3, 4, 0] rfl) hf
set_option maxHeartbeats 4000000 in
set_option maxRecDepth 100000 in
theorem j_X4_someFindFaults_5_0 {p : Program} {l : Launch} {e : Env} {s : State} {m : MethodId} {args : Array Value} {below : List Frame} {meth : Method} {c : Code} {dC : Nat → ClassId} {dI : Nat → Nat → Nat} {y : Nat → ClassId} {A : Nat → Prop} (C0 : Cx p s m args meth c cX4_someFindFaults 5 (some .boolean) wsX4_someFindFaults RX4 A dC dI y) (a : WireA) (gs : Nat → Nat → Nat) (K : Int32 → WireS → Prop) : ∀ (S : WireS) (v1 : Int32) (v2 : Int32) (v3 : Int32) (H : Heap) (locs : List Loc) (ls : Array Slot), va_P (dC, dI) vwCl (wrW y a gs S) H → va_D A (wrW y a gs S) → va_S A s.heap H locs → lv_has ls 5 [(0, .ref a.1), (1, .int v1), (2, .int v2), (3, .int v3), (4, .int 0)] → wp_X4_someFindFaults_5_0 K S v1 v2 v3 → W p l e ({ frames := 5, cells := 0, slots := 0, locals := 109 } : Room) s m args below meth c H locs 0 0 (MQ below (va_Qi K (BW dC dI A (fun u => wrW y a gs u)) A) args s 0 0 A) (F0 m 5 ls []) := by
  obtain ⟨hx, hb, hr, hml, hown, hts, hlocks, hA, hK⟩ := id C0
  have w11 := hts (Cond.fieldLink RX4 11 "SharedWire" "nodes" "[LSharedWire$Node;") (List.mem_of_getElem? (i := 1) rfl)
  have w181 := hts (Cond.fieldLink RX4 181 "SharedWire$Node" "found" "I") (List.mem_of_getElem? (i := 2) rfl)
  have hinX2 : ∀ w ∈ wsX20, w ∈ wsX4_someFindFaults := fun w h => List.mem_cons_of_mem _ (List.mem_append_left _ (List.mem_append_left _ (List.mem_append_left _ (List.mem_append_right _ (h)))))
  have hinX4 : ∀ w ∈ wsX40, w ∈ wsX4_someFindFaults := fun w h => List.mem_cons_of_mem _ (List.mem_append_left _ (List.mem_append_left _ (List.mem_append_left _ (List.mem_append_left _ (List.mem_append_right _ (h))))))
  intro S v1 v2 v3 H locs ls hP hD hS hl hf
  obtain ⟨state, left, tapeLen, tapeB, tLine, tReader, nodes⟩ := S
  unfold wp_X4_someFindFaults_5_0 at hf
  refine lv_iload hx hb dX4_someFindFaults_5 (lv_at hl 4 rfl) ?_
  refine lv_iconst (v := 4) hx hb dX4_someFindFaults_7 (by decide) ?_
  refine lv_icmp_ge (tgt := 50) hx hb dX4_someFindFaults_8 (by decide) (fun c9 => absurd c9 (by decide)) (fun _ => ?_)
  refine lv_aload_n hx hb dX4_someFindFaults_11 rfl (lv_at hl 0 rfl) ?_
  refine va_get (D := (dC, dI)) (ci := 4) (v := .ref a.2.1) (C := RX4) (T := TX4) (N := 7) hx hb hts hinX4 hown hK.1 hP 0 rfl rfl 0 (by decide) w11 (fun _ h9 => h9) rfl dX4_someFindFaults_12 ?_
  refine lv_iload hx hb dX4_someFindFaults_15 (lv_at hl 4 rfl) ?_
  refine ar_qld (j := 0) hx hb hK.1 hP 1 4 rfl rfl (clamp_lit 0 rfl) (vin_lit 0 4 rfl rfl) dX4_someFindFaults_17 ?_
  refine lv_iload_n hx hb dX4_someFindFaults_18 rfl (lv_at hl 1 rfl) ?_
  refine lv_iload_n hx hb dX4_someFindFaults_19 rfl (lv_at hl 2 rfl) ?_
  refine lv_iload hx hb dX4_someFindFaults_20 (lv_at hl 4 rfl) ?_
  refine lv_ishr hx hb dX4_someFindFaults_22 ?_
  refine lv_iconst (v := 1) hx hb dX4_someFindFaults_23 (by decide) ?_
  refine lv_iand hx hb dX4_someFindFaults_24 ?_
  refine lv_ixor hx hb dX4_someFindFaults_25 ?_
  refine kVv (As := [.int (v1 ^^^ ((v2 >>> (0 &&& 31)) &&& 1))]) (rest := []) (pre := (wrW y a gs (state, left, tapeLen, tapeB, tLine, tReader, nodes)).take 8) (post := (wrW y a gs (state, left, tapeLen, tapeB, tLine, tReader, nodes)).drop 20) ⟨hx, hb, hml, hown, hts⟩ (c_X2_look l dC dI y (aw (a.2.2.2.2.2 0) (gs 0)) H.size (nodes 0) (v1 ^^^ ((v2 >>> (0 &&& 31)) &&& 1)) _ hf) (cwV 1 hts gX4_someFindFaults_X2_look rfl rfl rfl (by decide +kernel) ⟨Nat.le_of_ble_eq_true rfl, Nat.le_of_ble_eq_true rfl⟩) hK hP hD (va_recv hK.1 hP (ci := 2) (q0 := 8) rfl rfl) hS hA rfl hl.1 rfl (Nat.le_of_ble_eq_true rfl) dX4_someFindFaults_26 ⟨Nat.zero_le _, Nat.zero_le _⟩ (fun u1 H locs hf hP hD hS => ?_)
  have hP : va_P (dC, dI) vwCl (wrW y a gs (state, left, tapeLen, tapeB, tLine, tReader, va_up nodes 0 u1)) H := hP
  have hD : va_D A (wrW y a gs (state, left, tapeLen, tapeB, tLine, tReader, va_up nodes 0 u1)) := hD
  refine lv_aload_n hx hb dX4_someFindFaults_29 rfl (lv_at hl 0 rfl) ?_
  refine va_get (D := (dC, dI)) (ci := 4) (v := .ref a.2.1) (C := RX4) (T := TX4) (N := 7) hx hb hts hinX4 hown hK.1 hP 0 rfl rfl 0 (by decide) w11 (fun _ h9 => h9) rfl dX4_someFindFaults_30 ?_
  refine lv_iload hx hb dX4_someFindFaults_33 (lv_at hl 4 rfl) ?_
  refine ar_qld (j := 0) hx hb hK.1 hP 1 4 rfl rfl (clamp_lit 0 rfl) (vin_lit 0 4 rfl rfl) dX4_someFindFaults_35 ?_
  refine va_get (D := (dC, dI)) (ci := 2) (v := .int u1.2.2.2.2.2.2.2.2.1) (C := RX2) (T := TX2) (N := 15) hx hb hts hinX2 hown hK.1 hP 8 rfl rfl 12 (by decide) w181 (fun _ h9 => h9) rfl dX4_someFindFaults_36 ?_
  refine lv_if_eq (tgt := 44) hx hb dX4_someFindFaults_39 (by decide) (fun c2 => ?_) (fun c2 => ?_)
  · replace hf := hf.1 c2
    exact j_X4_someFindFaults_44_0 C0 a gs K (state, left, tapeLen, tapeB, tLine, tReader, va_up nodes 0 u1) v1 v2 v3 H locs ls hP hD hS (lv_sub hl [0, 1, 2, 3, 4] rfl) hf
  · replace hf := hf.2 c2
    refine lv_iconst (v := 1) hx hb dX4_someFindFaults_42 (by decide) ?_
    refine lv_istore_n (lv' := [(3, .int 1), (0, .ref a.1), (1, .int v1), (2, .int v2), (4, .int 0)]) hx hb dX4_someFindFaults_43 rfl hl (by decide) rfl (fun ls hl => ?_)
    exact j_X4_someFindFaults_44_0 C0 a gs K (state, left, tapeLen, tapeB, tLine, tReader, va_up nodes 0 u1) v1 v2 1 H locs ls hP hD hS (lv_sub hl [1, 2, 3, 0, 4] rfl) hf
set_option maxHeartbeats 4000000 in
set_option maxRecDepth 100000 in
theorem c_X4_someFindFaults (l : Launch) (dC : Nat → ClassId) (dI : Nat → Nat → Nat) (y : Nat → ClassId) (a : WireA) (gs : Nat → Nat → Nat) (sz : Nat) (S : WireS) (p0 : Int32) (p1 : Int32) (K : Int32 → WireS → Prop) (hf : wp_X4_someFindFaults S p0 p1 K) : MI l yX4_someFindFaults wsX4_someFindFaults { frames := 5, cells := 0, slots := 0, locals := 109 } dC dI y [.ref a.1, .int p0, .int p1] (wrW y a gs S) sz (fun u => wrW y a gs u) K := by
  refine Met.ofW (cc := cX4_someFindFaults) (maxL := 5) (ret := (some .boolean)) (by decide) rfl ?_
  intro p e s m args below meth c s₁ B hml hv
  obtain ⟨rfl, hsz, hP, hK, hD0⟩ := hv
  have hx := B.exec
  have hb := B.bytes
  have hr := B.returns
  have hts := atoms_spec (ws := wsX4_someFindFaults) B.pre
  have hown : s.vm.findClass RX4 = some m.cls := findClass_of_methodNamed B.named
  have hlocks := B.notSynchronized
  subst hsz
  have hD := hD0.self (sz := s.heap.size)
  generalize hAe : va_A (wrW y a gs S) s.heap.size = A at hD ⊢
  have hA : ∀ q : Nat, s.heap.size ≤ q → A q := fun q h => by rw [← hAe]; exact Or.inr h
  have hS : va_S A s.heap s.heap [] := va_S.rf
  have C0 : Cx p s m [.ref a.1, .int p0, .int p1].toArray meth c cX4_someFindFaults 5 (some .boolean) wsX4_someFindFaults RX4 A dC dI y := ⟨hx, hb, hr, hml, hown, hts, hlocks, hA, hK⟩
  have hl := lv_entry ([.ref a.1, .int p0, .int p1]) (n := 5) (Nat.le_of_ble_eq_true rfl)
  rw [lg_entry_eq]
  generalize (lg_sl ([.ref a.1, .int p0, .int p1]) ++ List.replicate (5 - (lg_sl ([.ref a.1, .int p0, .int p1])).length) Slot.unset).toArray = ls at hl ⊢
  have hl : lv_has ls 5 [(0, .ref a.1), (1, .int p0), (2, .int p1)] := hl
  obtain ⟨state, left, tapeLen, tapeB, tLine, tReader, nodes⟩ := S
  clear hAe hD0
  generalize hL0 : ([] : List Loc) = locs at hS ⊢
  unfold wp_X4_someFindFaults at hf
  refine lv_iconst (v := 0) hx hb dX4_someFindFaults_0 (by decide) ?_
  refine lv_istore_n (lv' := [(3, .int 0), (0, .ref a.1), (1, .int p0), (2, .int p1)]) hx hb dX4_someFindFaults_1 rfl hl (by decide) rfl (fun ls hl => ?_)
  refine lv_iconst (v := 0) hx hb dX4_someFindFaults_2 (by decide) ?_
  refine lv_istore (lv' := [(4, .int 0), (3, .int 0), (0, .ref a.1), (1, .int p0), (2, .int p1)]) hx hb dX4_someFindFaults_3 hl (by decide) rfl (fun ls hl => ?_)
  exact j_X4_someFindFaults_5_0 C0 a gs K (state, left, tapeLen, tapeB, tLine, tReader, nodes) p0 p1 0 s.heap locs ls hP hD hS (lv_sub hl [2, 3, 4, 1, 0] rfl) hf

def wp_X4_breakOff_2_4 (K : WireS → Prop) : WireS → Prop := fun (state, left, tapeLen, tapeB, tLine, tReader, nodes) => K (2, 14, tapeLen, tapeB, tLine, tReader, nodes)
def wp_X4_breakOff_2_3 (K : WireS → Prop) : WireS → Prop := fun (state, left, tapeLen, tapeB, tLine, tReader, nodes) => wp_X2_countFault (nodes 3) (fun u4 => wp_X4_breakOff_2_4 K (state, left, tapeLen, tapeB, tLine, tReader, va_up nodes 3 u4))
def wp_X4_breakOff_2_2 (K : WireS → Prop) : WireS → Prop := fun (state, left, tapeLen, tapeB, tLine, tReader, nodes) => wp_X2_countFault (nodes 2) (fun u3 => wp_X4_breakOff_2_3 K (state, left, tapeLen, tapeB, tLine, tReader, va_up nodes 2 u3))
def wp_X4_breakOff_2_1 (K : WireS → Prop) : WireS → Prop := fun (state, left, tapeLen, tapeB, tLine, tReader, nodes) => wp_X2_countFault (nodes 1) (fun u2 => wp_X4_breakOff_2_2 K (state, left, tapeLen, tapeB, tLine, tReader, va_up nodes 1 u2))
def wp_X4_breakOff_2_0 (K : WireS → Prop) : WireS → Prop := fun (state, left, tapeLen, tapeB, tLine, tReader, nodes) => wp_X2_countFault (nodes 0) (fun u1 => wp_X4_breakOff_2_1 K (state, left, tapeLen, tapeB, tLine, tReader, va_up nodes 0 u1))
def wp_X4_breakOff : WireS → (WireS → Prop) → Prop := fun (state, left, tapeLen, tapeB, tLine, tReader, nodes) K => wp_X4_breakOff_2_0 K (state, left, tapeLen, tapeB, tLine, tReader, nodes)
set_option maxHeartbeats 4000000 in
set_option maxRecDepth 100000 in
theorem j_X4_breakOff_2_4 {p : Program} {l : Launch} {e : Env} {s : State} {m : MethodId} {args : Array Value} {below : List Frame} {meth : Method} {c : Code} {dC : Nat → ClassId} {dI : Nat → Nat → Nat} {y : Nat → ClassId} {A : Nat → Prop} (C0 : Cx p s m args meth c cX4_breakOff 2 none wsX4_breakOff RX4 A dC dI y) (a : WireA) (gs : Nat → Nat → Nat) (K : WireS → Prop) : ∀ (S : WireS) (H : Heap) (locs : List Loc) (ls : Array Slot), va_P (dC, dI) vwCl (wrW y a gs S) H → va_D A (wrW y a gs S) → va_S A s.heap H locs → lv_has ls 2 [(0, .ref a.1), (1, .int 4)] → wp_X4_breakOff_2_4 K S → W p l e ({ frames := 1, cells := 0, slots := 0, locals := 20 } : Room) s m args below meth c H locs 0 0 (MQ below (va_Qv K (BW dC dI A (fun u => wrW y a gs u)) A) args s 0 0 A) (F0 m 2 ls []) := by
  obtain ⟨hx, hb, hr, hml, hown, hts, hlocks, hA, hK⟩ := id C0
  have w15 := hts (.fieldLink RX4 15 "SharedWire" "state" "I") (List.mem_of_getElem? (i := 2) rfl)
  have w19 := hts (.fieldLink RX4 19 "SharedWire" "stepsLeft" "I") (List.mem_of_getElem? (i := 3) rfl)
  have hinX4 : ∀ w ∈ wsX40, w ∈ wsX4_breakOff := fun w h => List.mem_cons_of_mem _ (List.mem_append_left _ (List.mem_append_right _ (h)))
  intro S H locs ls hP hD hS hl hf
  obtain ⟨state, left, tapeLen, tapeB, tLine, tReader, nodes⟩ := S
  unfold wp_X4_breakOff_2_4 at hf
  refine lv_iload_n hx hb dX4_breakOff_2 rfl (lv_at hl 1 rfl) ?_
  refine lv_iconst (v := 4) hx hb dX4_breakOff_3 (by decide) ?_
  refine lv_icmp_ge (tgt := 22) hx hb dX4_breakOff_4 (by decide) (fun _ => ?_) (fun c9 => absurd (by decide) c9)
  refine lv_aload_n hx hb dX4_breakOff_22 rfl (lv_at hl 0 rfl) ?_
  refine lv_iconst (v := 2) hx hb dX4_breakOff_23 (by decide) ?_
  refine va_put (D := (dC, dI)) (ci := 4) (v := .int 2) (ty := .int) (C := RX4) (T := TX4) (N := 7) hx hb hts hinX4 tyX4 tyX4_ok nmX4 hown hK.1 hP hD hS 0 rfl rfl 1 (by decide) w15 (fun _ h9 => h9) rfl (by decide +kernel) rfl rfl (Nat.le_of_ble_eq_true rfl) dX4_breakOff_24 (fun H locs hP hD hS => ?_)
  have hP : va_P (dC, dI) vwCl (wrW y a gs (2, left, tapeLen, tapeB, tLine, tReader, nodes)) H := hP
  have hD : va_D A (wrW y a gs (2, left, tapeLen, tapeB, tLine, tReader, nodes)) := hD
  refine lv_aload_n hx hb dX4_breakOff_27 rfl (lv_at hl 0 rfl) ?_
  refine lv_bipush (v := 14) hx hb dX4_breakOff_28 (by decide) ?_
  refine va_put (D := (dC, dI)) (ci := 4) (v := .int 14) (ty := .int) (C := RX4) (T := TX4) (N := 7) hx hb hts hinX4 tyX4 tyX4_ok nmX4 hown hK.1 hP hD hS 0 rfl rfl 2 (by decide) w19 (fun _ h9 => h9) rfl (by decide +kernel) rfl rfl (Nat.le_of_ble_eq_true rfl) dX4_breakOff_30 (fun H locs hP hD hS => ?_)
  have hP : va_P (dC, dI) vwCl (wrW y a gs (2, 14, tapeLen, tapeB, tLine, tReader, nodes)) H := hP
  have hD : va_D A (wrW y a gs (2, 14, tapeLen, tapeB, tLine, tReader, nodes)) := hD
  exact W.vret hx hb hr (fun t ht hW => ⟨⟨(2, 14, tapeLen, tapeB, tLine, tReader, nodes), rfl, hf, by rw [ht]; exact hP, hD⟩, hS.F ht⟩) hS.2.2 dX4_breakOff_33
set_option maxHeartbeats 4000000 in
set_option maxRecDepth 100000 in
theorem j_X4_breakOff_2_3 {p : Program} {l : Launch} {e : Env} {s : State} {m : MethodId} {args : Array Value} {below : List Frame} {meth : Method} {c : Code} {dC : Nat → ClassId} {dI : Nat → Nat → Nat} {y : Nat → ClassId} {A : Nat → Prop} (C0 : Cx p s m args meth c cX4_breakOff 2 none wsX4_breakOff RX4 A dC dI y) (a : WireA) (gs : Nat → Nat → Nat) (K : WireS → Prop) : ∀ (S : WireS) (H : Heap) (locs : List Loc) (ls : Array Slot), va_P (dC, dI) vwCl (wrW y a gs S) H → va_D A (wrW y a gs S) → va_S A s.heap H locs → lv_has ls 2 [(0, .ref a.1), (1, .int 3)] → wp_X4_breakOff_2_3 K S → W p l e ({ frames := 1, cells := 0, slots := 0, locals := 20 } : Room) s m args below meth c H locs 0 0 (MQ below (va_Qv K (BW dC dI A (fun u => wrW y a gs u)) A) args s 0 0 A) (F0 m 2 ls []) := by
  obtain ⟨hx, hb, hr, hml, hown, hts, hlocks, hA, hK⟩ := id C0
  have w11 := hts (.fieldLink RX4 11 "SharedWire" "nodes" "[LSharedWire$Node;") (List.mem_of_getElem? (i := 1) rfl)
  have hinX4 : ∀ w ∈ wsX40, w ∈ wsX4_breakOff := fun w h => List.mem_cons_of_mem _ (List.mem_append_left _ (List.mem_append_right _ (h)))
  intro S H locs ls hP hD hS hl hf
  obtain ⟨state, left, tapeLen, tapeB, tLine, tReader, nodes⟩ := S
  unfold wp_X4_breakOff_2_3 at hf
  refine lv_iload_n hx hb dX4_breakOff_2 rfl (lv_at hl 1 rfl) ?_
  refine lv_iconst (v := 4) hx hb dX4_breakOff_3 (by decide) ?_
  refine lv_icmp_ge (tgt := 22) hx hb dX4_breakOff_4 (by decide) (fun c9 => absurd c9 (by decide)) (fun _ => ?_)
  refine lv_aload_n hx hb dX4_breakOff_7 rfl (lv_at hl 0 rfl) ?_
  refine va_get (D := (dC, dI)) (ci := 4) (v := .ref a.2.1) (C := RX4) (T := TX4) (N := 7) hx hb hts hinX4 hown hK.1 hP 0 rfl rfl 0 (by decide) w11 (fun _ h9 => h9) rfl dX4_breakOff_8 ?_
  refine lv_iload_n hx hb dX4_breakOff_11 rfl (lv_at hl 1 rfl) ?_
  refine ar_qld (j := 3) hx hb hK.1 hP 1 4 rfl rfl (clamp_lit 3 rfl) (vin_lit 3 4 rfl rfl) dX4_breakOff_12 ?_
  refine kVv (As := []) (rest := []) (pre := (wrW y a gs (state, left, tapeLen, tapeB, tLine, tReader, nodes)).take 44) (post := (wrW y a gs (state, left, tapeLen, tapeB, tLine, tReader, nodes)).drop 56) ⟨hx, hb, hml, hown, hts⟩ (c_X2_countFault l dC dI y (aw (a.2.2.2.2.2 3) (gs 3)) H.size (nodes 3) _ hf) (cwV 0 hts gX4_breakOff_X2_countFault rfl rfl rfl (by decide +kernel) ⟨Nat.le_of_ble_eq_true rfl, Nat.le_of_ble_eq_true rfl⟩) hK hP hD (va_recv hK.1 hP (ci := 2) (q0 := 44) rfl rfl) hS hA rfl hl.1 rfl (Nat.le_of_ble_eq_true rfl) dX4_breakOff_13 ⟨Nat.zero_le _, Nat.zero_le _⟩ (fun u4 H locs hf hP hD hS => ?_)
  have hP : va_P (dC, dI) vwCl (wrW y a gs (state, left, tapeLen, tapeB, tLine, tReader, va_up nodes 3 u4)) H := hP
  have hD : va_D A (wrW y a gs (state, left, tapeLen, tapeB, tLine, tReader, va_up nodes 3 u4)) := hD
  refine lv_iinc (v := 4) (lv' := [(1, .int 4), (0, .ref a.1)]) hx hb dX4_breakOff_16 hl (k := 1) rfl (by decide) (by decide) rfl (fun ls hl => ?_)
  refine lv_goto (tgt := 2) hx hb dX4_breakOff_19 (by decide) ?_
  exact j_X4_breakOff_2_4 C0 a gs K (state, left, tapeLen, tapeB, tLine, tReader, va_up nodes 3 u4) H locs ls hP hD hS (lv_sub hl [1, 0] rfl) hf
set_option maxHeartbeats 4000000 in
set_option maxRecDepth 100000 in
theorem j_X4_breakOff_2_2 {p : Program} {l : Launch} {e : Env} {s : State} {m : MethodId} {args : Array Value} {below : List Frame} {meth : Method} {c : Code} {dC : Nat → ClassId} {dI : Nat → Nat → Nat} {y : Nat → ClassId} {A : Nat → Prop} (C0 : Cx p s m args meth c cX4_breakOff 2 none wsX4_breakOff RX4 A dC dI y) (a : WireA) (gs : Nat → Nat → Nat) (K : WireS → Prop) : ∀ (S : WireS) (H : Heap) (locs : List Loc) (ls : Array Slot), va_P (dC, dI) vwCl (wrW y a gs S) H → va_D A (wrW y a gs S) → va_S A s.heap H locs → lv_has ls 2 [(0, .ref a.1), (1, .int 2)] → wp_X4_breakOff_2_2 K S → W p l e ({ frames := 1, cells := 0, slots := 0, locals := 20 } : Room) s m args below meth c H locs 0 0 (MQ below (va_Qv K (BW dC dI A (fun u => wrW y a gs u)) A) args s 0 0 A) (F0 m 2 ls []) := by
  obtain ⟨hx, hb, hr, hml, hown, hts, hlocks, hA, hK⟩ := id C0
  have w11 := hts (.fieldLink RX4 11 "SharedWire" "nodes" "[LSharedWire$Node;") (List.mem_of_getElem? (i := 1) rfl)
  have hinX4 : ∀ w ∈ wsX40, w ∈ wsX4_breakOff := fun w h => List.mem_cons_of_mem _ (List.mem_append_left _ (List.mem_append_right _ (h)))
  intro S H locs ls hP hD hS hl hf
  obtain ⟨state, left, tapeLen, tapeB, tLine, tReader, nodes⟩ := S
  unfold wp_X4_breakOff_2_2 at hf
  refine lv_iload_n hx hb dX4_breakOff_2 rfl (lv_at hl 1 rfl) ?_
  refine lv_iconst (v := 4) hx hb dX4_breakOff_3 (by decide) ?_
  refine lv_icmp_ge (tgt := 22) hx hb dX4_breakOff_4 (by decide) (fun c9 => absurd c9 (by decide)) (fun _ => ?_)
  refine lv_aload_n hx hb dX4_breakOff_7 rfl (lv_at hl 0 rfl) ?_
  refine va_get (D := (dC, dI)) (ci := 4) (v := .ref a.2.1) (C := RX4) (T := TX4) (N := 7) hx hb hts hinX4 hown hK.1 hP 0 rfl rfl 0 (by decide) w11 (fun _ h9 => h9) rfl dX4_breakOff_8 ?_
  refine lv_iload_n hx hb dX4_breakOff_11 rfl (lv_at hl 1 rfl) ?_
  refine ar_qld (j := 2) hx hb hK.1 hP 1 4 rfl rfl (clamp_lit 2 rfl) (vin_lit 2 4 rfl rfl) dX4_breakOff_12 ?_
  refine kVv (As := []) (rest := []) (pre := (wrW y a gs (state, left, tapeLen, tapeB, tLine, tReader, nodes)).take 32) (post := (wrW y a gs (state, left, tapeLen, tapeB, tLine, tReader, nodes)).drop 44) ⟨hx, hb, hml, hown, hts⟩ (c_X2_countFault l dC dI y (aw (a.2.2.2.2.2 2) (gs 2)) H.size (nodes 2) _ hf) (cwV 0 hts gX4_breakOff_X2_countFault rfl rfl rfl (by decide +kernel) ⟨Nat.le_of_ble_eq_true rfl, Nat.le_of_ble_eq_true rfl⟩) hK hP hD (va_recv hK.1 hP (ci := 2) (q0 := 32) rfl rfl) hS hA rfl hl.1 rfl (Nat.le_of_ble_eq_true rfl) dX4_breakOff_13 ⟨Nat.zero_le _, Nat.zero_le _⟩ (fun u3 H locs hf hP hD hS => ?_)
  have hP : va_P (dC, dI) vwCl (wrW y a gs (state, left, tapeLen, tapeB, tLine, tReader, va_up nodes 2 u3)) H := hP
  have hD : va_D A (wrW y a gs (state, left, tapeLen, tapeB, tLine, tReader, va_up nodes 2 u3)) := hD
  refine lv_iinc (v := 3) (lv' := [(1, .int 3), (0, .ref a.1)]) hx hb dX4_breakOff_16 hl (k := 1) rfl (by decide) (by decide) rfl (fun ls hl => ?_)
  refine lv_goto (tgt := 2) hx hb dX4_breakOff_19 (by decide) ?_
  exact j_X4_breakOff_2_3 C0 a gs K (state, left, tapeLen, tapeB, tLine, tReader, va_up nodes 2 u3) H locs ls hP hD hS (lv_sub hl [1, 0] rfl) hf
set_option maxHeartbeats 4000000 in
set_option maxRecDepth 100000 in
theorem j_X4_breakOff_2_1 {p : Program} {l : Launch} {e : Env} {s : State} {m : MethodId} {args : Array Value} {below : List Frame} {meth : Method} {c : Code} {dC : Nat → ClassId} {dI : Nat → Nat → Nat} {y : Nat → ClassId} {A : Nat → Prop} (C0 : Cx p s m args meth c cX4_breakOff 2 none wsX4_breakOff RX4 A dC dI y) (a : WireA) (gs : Nat → Nat → Nat) (K : WireS → Prop) : ∀ (S : WireS) (H : Heap) (locs : List Loc) (ls : Array Slot), va_P (dC, dI) vwCl (wrW y a gs S) H → va_D A (wrW y a gs S) → va_S A s.heap H locs → lv_has ls 2 [(0, .ref a.1), (1, .int 1)] → wp_X4_breakOff_2_1 K S → W p l e ({ frames := 1, cells := 0, slots := 0, locals := 20 } : Room) s m args below meth c H locs 0 0 (MQ below (va_Qv K (BW dC dI A (fun u => wrW y a gs u)) A) args s 0 0 A) (F0 m 2 ls []) := by
  obtain ⟨hx, hb, hr, hml, hown, hts, hlocks, hA, hK⟩ := id C0
  have w11 := hts (.fieldLink RX4 11 "SharedWire" "nodes" "[LSharedWire$Node;") (List.mem_of_getElem? (i := 1) rfl)
  have hinX4 : ∀ w ∈ wsX40, w ∈ wsX4_breakOff := fun w h => List.mem_cons_of_mem _ (List.mem_append_left _ (List.mem_append_right _ (h)))
  intro S H locs ls hP hD hS hl hf
  obtain ⟨state, left, tapeLen, tapeB, tLine, tReader, nodes⟩ := S
  unfold wp_X4_breakOff_2_1 at hf
  refine lv_iload_n hx hb dX4_breakOff_2 rfl (lv_at hl 1 rfl) ?_
  refine lv_iconst (v := 4) hx hb dX4_breakOff_3 (by decide) ?_
  refine lv_icmp_ge (tgt := 22) hx hb dX4_breakOff_4 (by decide) (fun c9 => absurd c9 (by decide)) (fun _ => ?_)
  refine lv_aload_n hx hb dX4_breakOff_7 rfl (lv_at hl 0 rfl) ?_
  refine va_get (D := (dC, dI)) (ci := 4) (v := .ref a.2.1) (C := RX4) (T := TX4) (N := 7) hx hb hts hinX4 hown hK.1 hP 0 rfl rfl 0 (by decide) w11 (fun _ h9 => h9) rfl dX4_breakOff_8 ?_
  refine lv_iload_n hx hb dX4_breakOff_11 rfl (lv_at hl 1 rfl) ?_
  refine ar_qld (j := 1) hx hb hK.1 hP 1 4 rfl rfl (clamp_lit 1 rfl) (vin_lit 1 4 rfl rfl) dX4_breakOff_12 ?_
  refine kVv (As := []) (rest := []) (pre := (wrW y a gs (state, left, tapeLen, tapeB, tLine, tReader, nodes)).take 20) (post := (wrW y a gs (state, left, tapeLen, tapeB, tLine, tReader, nodes)).drop 32) ⟨hx, hb, hml, hown, hts⟩ (c_X2_countFault l dC dI y (aw (a.2.2.2.2.2 1) (gs 1)) H.size (nodes 1) _ hf) (cwV 0 hts gX4_breakOff_X2_countFault rfl rfl rfl (by decide +kernel) ⟨Nat.le_of_ble_eq_true rfl, Nat.le_of_ble_eq_true rfl⟩) hK hP hD (va_recv hK.1 hP (ci := 2) (q0 := 20) rfl rfl) hS hA rfl hl.1 rfl (Nat.le_of_ble_eq_true rfl) dX4_breakOff_13 ⟨Nat.zero_le _, Nat.zero_le _⟩ (fun u2 H locs hf hP hD hS => ?_)
  have hP : va_P (dC, dI) vwCl (wrW y a gs (state, left, tapeLen, tapeB, tLine, tReader, va_up nodes 1 u2)) H := hP
  have hD : va_D A (wrW y a gs (state, left, tapeLen, tapeB, tLine, tReader, va_up nodes 1 u2)) := hD
  refine lv_iinc (v := 2) (lv' := [(1, .int 2), (0, .ref a.1)]) hx hb dX4_breakOff_16 hl (k := 1) rfl (by decide) (by decide) rfl (fun ls hl => ?_)
  refine lv_goto (tgt := 2) hx hb dX4_breakOff_19 (by decide) ?_
  exact j_X4_breakOff_2_2 C0 a gs K (state, left, tapeLen, tapeB, tLine, tReader, va_up nodes 1 u2) H locs ls hP hD hS (lv_sub hl [1, 0] rfl) hf
set_option maxHeartbeats 4000000 in
set_option maxRecDepth 100000 in
theorem j_X4_breakOff_2_0 {p : Program} {l : Launch} {e : Env} {s : State} {m : MethodId} {args : Array Value} {below : List Frame} {meth : Method} {c : Code} {dC : Nat → ClassId} {dI : Nat → Nat → Nat} {y : Nat → ClassId} {A : Nat → Prop} (C0 : Cx p s m args meth c cX4_breakOff 2 none wsX4_breakOff RX4 A dC dI y) (a : WireA) (gs : Nat → Nat → Nat) (K : WireS → Prop) : ∀ (S : WireS) (H : Heap) (locs : List Loc) (ls : Array Slot), va_P (dC, dI) vwCl (wrW y a gs S) H → va_D A (wrW y a gs S) → va_S A s.heap H locs → lv_has ls 2 [(0, .ref a.1), (1, .int 0)] → wp_X4_breakOff_2_0 K S → W p l e ({ frames := 1, cells := 0, slots := 0, locals := 20 } : Room) s m args below meth c H locs 0 0 (MQ below (va_Qv K (BW dC dI A (fun u => wrW y a gs u)) A) args s 0 0 A) (F0 m 2 ls []) := by
  obtain ⟨hx, hb, hr, hml, hown, hts, hlocks, hA, hK⟩ := id C0
  have w11 := hts (.fieldLink RX4 11 "SharedWire" "nodes" "[LSharedWire$Node;") (List.mem_of_getElem? (i := 1) rfl)
  have hinX4 : ∀ w ∈ wsX40, w ∈ wsX4_breakOff := fun w h => List.mem_cons_of_mem _ (List.mem_append_left _ (List.mem_append_right _ (h)))
  intro S H locs ls hP hD hS hl hf
  obtain ⟨state, left, tapeLen, tapeB, tLine, tReader, nodes⟩ := S
  unfold wp_X4_breakOff_2_0 at hf
  refine lv_iload_n hx hb dX4_breakOff_2 rfl (lv_at hl 1 rfl) ?_
  refine lv_iconst (v := 4) hx hb dX4_breakOff_3 (by decide) ?_
  refine lv_icmp_ge (tgt := 22) hx hb dX4_breakOff_4 (by decide) (fun c9 => absurd c9 (by decide)) (fun _ => ?_)
  refine lv_aload_n hx hb dX4_breakOff_7 rfl (lv_at hl 0 rfl) ?_
  refine va_get (D := (dC, dI)) (ci := 4) (v := .ref a.2.1) (C := RX4) (T := TX4) (N := 7) hx hb hts hinX4 hown hK.1 hP 0 rfl rfl 0 (by decide) w11 (fun _ h9 => h9) rfl dX4_breakOff_8 ?_
  refine lv_iload_n hx hb dX4_breakOff_11 rfl (lv_at hl 1 rfl) ?_
  refine ar_qld (j := 0) hx hb hK.1 hP 1 4 rfl rfl (clamp_lit 0 rfl) (vin_lit 0 4 rfl rfl) dX4_breakOff_12 ?_
  refine kVv (As := []) (rest := []) (pre := (wrW y a gs (state, left, tapeLen, tapeB, tLine, tReader, nodes)).take 8) (post := (wrW y a gs (state, left, tapeLen, tapeB, tLine, tReader, nodes)).drop 20) ⟨hx, hb, hml, hown, hts⟩ (c_X2_countFault l dC dI y (aw (a.2.2.2.2.2 0) (gs 0)) H.size (nodes 0) _ hf) (cwV 0 hts gX4_breakOff_X2_countFault rfl rfl rfl (by decide +kernel) ⟨Nat.le_of_ble_eq_true rfl, Nat.le_of_ble_eq_true rfl⟩) hK hP hD (va_recv hK.1 hP (ci := 2) (q0 := 8) rfl rfl) hS hA rfl hl.1 rfl (Nat.le_of_ble_eq_true rfl) dX4_breakOff_13 ⟨Nat.zero_le _, Nat.zero_le _⟩ (fun u1 H locs hf hP hD hS => ?_)
  have hP : va_P (dC, dI) vwCl (wrW y a gs (state, left, tapeLen, tapeB, tLine, tReader, va_up nodes 0 u1)) H := hP
  have hD : va_D A (wrW y a gs (state, left, tapeLen, tapeB, tLine, tReader, va_up nodes 0 u1)) := hD
  refine lv_iinc (v := 1) (lv' := [(1, .int 1), (0, .ref a.1)]) hx hb dX4_breakOff_16 hl (k := 1) rfl (by decide) (by decide) rfl (fun ls hl => ?_)
  refine lv_goto (tgt := 2) hx hb dX4_breakOff_19 (by decide) ?_
  exact j_X4_breakOff_2_1 C0 a gs K (state, left, tapeLen, tapeB, tLine, tReader, va_up nodes 0 u1) H locs ls hP hD hS (lv_sub hl [1, 0] rfl) hf
set_option maxHeartbeats 4000000 in
set_option maxRecDepth 100000 in
theorem c_X4_breakOff (l : Launch) (dC : Nat → ClassId) (dI : Nat → Nat → Nat) (y : Nat → ClassId) (a : WireA) (gs : Nat → Nat → Nat) (sz : Nat) (S : WireS) (K : WireS → Prop) (hf : wp_X4_breakOff S K) : MV l yX4_breakOff wsX4_breakOff { frames := 1, cells := 0, slots := 0, locals := 20 } dC dI y [.ref a.1] (wrW y a gs S) sz (fun u => wrW y a gs u) K := by
  refine Met.ofW (cc := cX4_breakOff) (maxL := 2) (ret := none) (by decide) rfl ?_
  intro p e s m args below meth c s₁ B hml hv
  obtain ⟨rfl, hsz, hP, hK, hD0⟩ := hv
  have hx := B.exec
  have hb := B.bytes
  have hr := B.returns
  have hts := atoms_spec (ws := wsX4_breakOff) B.pre
  have hown : s.vm.findClass RX4 = some m.cls := findClass_of_methodNamed B.named
  have hlocks := B.notSynchronized
  subst hsz
  have hD := hD0.self (sz := s.heap.size)
  generalize hAe : va_A (wrW y a gs S) s.heap.size = A at hD ⊢
  have hA : ∀ q : Nat, s.heap.size ≤ q → A q := fun q h => by rw [← hAe]; exact Or.inr h
  have hS : va_S A s.heap s.heap [] := va_S.rf
  have C0 : Cx p s m [.ref a.1].toArray meth c cX4_breakOff 2 none wsX4_breakOff RX4 A dC dI y := ⟨hx, hb, hr, hml, hown, hts, hlocks, hA, hK⟩
  have hl := lv_entry ([.ref a.1]) (n := 2) (Nat.le_of_ble_eq_true rfl)
  rw [lg_entry_eq]
  generalize (lg_sl ([.ref a.1]) ++ List.replicate (2 - (lg_sl ([.ref a.1])).length) Slot.unset).toArray = ls at hl ⊢
  have hl : lv_has ls 2 [(0, .ref a.1)] := hl
  obtain ⟨state, left, tapeLen, tapeB, tLine, tReader, nodes⟩ := S
  clear hAe hD0
  generalize hL0 : ([] : List Loc) = locs at hS ⊢
  unfold wp_X4_breakOff at hf
  refine lv_iconst (v := 0) hx hb dX4_breakOff_0 (by decide) ?_
  refine lv_istore_n (lv' := [(1, .int 0), (0, .ref a.1)]) hx hb dX4_breakOff_1 rfl hl (by decide) rfl (fun ls hl => ?_)
  exact j_X4_breakOff_2_0 C0 a gs K (state, left, tapeLen, tapeB, tLine, tReader, nodes) s.heap locs ls hP hD hS (lv_sub hl [1, 0] rfl) hf

def wp_X4_goOn_4_4 (K : WireS → Prop) : WireS → Int32 → Prop := fun (state, left, tapeLen, tapeB, tLine, tReader, nodes) v1 => ((v1 = 0 → ((¬ state = 1 → K (state, left, tapeLen, tapeB, tLine, tReader, nodes)) ∧ (state = 1 → wp_X4_beginPause (state, left, tapeLen, tapeB, tLine, tReader, nodes) (fun u11 => K u11)))) ∧ (¬ v1 = 0 → K (1, left, tapeLen, tapeB, tLine, tReader, nodes)))
def wp_X4_goOn_33_3 (K : WireS → Prop) : WireS → Int32 → Prop := fun (state, left, tapeLen, tapeB, tLine, tReader, nodes) v1 => wp_X4_goOn_4_4 K (state, left, tapeLen, tapeB, tLine, tReader, nodes) v1
def wp_X4_goOn_4_3 (K : WireS → Prop) : WireS → Int32 → Prop := fun (state, left, tapeLen, tapeB, tLine, tReader, nodes) v1 => wp_X2_endFrame (nodes 3) (fun u7 => ((u7.2.1 = 1 → wp_X4_goOn_33_3 K (state, left, tapeLen, tapeB, tLine, tReader, va_up nodes 3 u7) v1) ∧ (¬ u7.2.1 = 1 → wp_X4_goOn_33_3 K (state, left, tapeLen, tapeB, tLine, tReader, va_up nodes 3 u7) 1)))
def wp_X4_goOn_33_2 (K : WireS → Prop) : WireS → Int32 → Prop := fun (state, left, tapeLen, tapeB, tLine, tReader, nodes) v1 => wp_X4_goOn_4_3 K (state, left, tapeLen, tapeB, tLine, tReader, nodes) v1
def wp_X4_goOn_4_2 (K : WireS → Prop) : WireS → Int32 → Prop := fun (state, left, tapeLen, tapeB, tLine, tReader, nodes) v1 => wp_X2_endFrame (nodes 2) (fun u5 => ((u5.2.1 = 1 → wp_X4_goOn_33_2 K (state, left, tapeLen, tapeB, tLine, tReader, va_up nodes 2 u5) v1) ∧ (¬ u5.2.1 = 1 → wp_X4_goOn_33_2 K (state, left, tapeLen, tapeB, tLine, tReader, va_up nodes 2 u5) 1)))
def wp_X4_goOn_33_1 (K : WireS → Prop) : WireS → Int32 → Prop := fun (state, left, tapeLen, tapeB, tLine, tReader, nodes) v1 => wp_X4_goOn_4_2 K (state, left, tapeLen, tapeB, tLine, tReader, nodes) v1
def wp_X4_goOn_4_1 (K : WireS → Prop) : WireS → Int32 → Prop := fun (state, left, tapeLen, tapeB, tLine, tReader, nodes) v1 => wp_X2_endFrame (nodes 1) (fun u3 => ((u3.2.1 = 1 → wp_X4_goOn_33_1 K (state, left, tapeLen, tapeB, tLine, tReader, va_up nodes 1 u3) v1) ∧ (¬ u3.2.1 = 1 → wp_X4_goOn_33_1 K (state, left, tapeLen, tapeB, tLine, tReader, va_up nodes 1 u3) 1)))
def wp_X4_goOn_33_0 (K : WireS → Prop) : WireS → Int32 → Prop := fun (state, left, tapeLen, tapeB, tLine, tReader, nodes) v1 => wp_X4_goOn_4_1 K (state, left, tapeLen, tapeB, tLine, tReader, nodes) v1
def wp_X4_goOn_4_0 (K : WireS → Prop) : WireS → Int32 → Prop := fun (state, left, tapeLen, tapeB, tLine, tReader, nodes) v1 => wp_X2_endFrame (nodes 0) (fun u1 => ((u1.2.1 = 1 → wp_X4_goOn_33_0 K (state, left, tapeLen, tapeB, tLine, tReader, va_up nodes 0 u1) v1) ∧ (¬ u1.2.1 = 1 → wp_X4_goOn_33_0 K (state, left, tapeLen, tapeB, tLine, tReader, va_up nodes 0 u1) 1)))
def wp_X4_goOn : WireS → (WireS → Prop) → Prop := fun (state, left, tapeLen, tapeB, tLine, tReader, nodes) K => wp_X4_goOn_4_0 K (state, left, tapeLen, tapeB, tLine, tReader, nodes) 0
set_option maxHeartbeats 4000000 in
set_option maxRecDepth 100000 in
theorem j_X4_goOn_4_4 {p : Program} {l : Launch} {e : Env} {s : State} {m : MethodId} {args : Array Value} {below : List Frame} {meth : Method} {c : Code} {dC : Nat → ClassId} {dI : Nat → Nat → Nat} {y : Nat → ClassId} {A : Nat → Prop} (C0 : Cx p s m args meth c cX4_goOn 3 none wsX4_goOn RX4 A dC dI y) (a : WireA) (K : WireS → Prop) : ∀ (S : WireS) (gs : Nat → Nat → Nat) (v1 : Int32) (H : Heap) (locs : List Loc) (ls : Array Slot), va_P (dC, dI) vwCl (wrW y a gs S) H → va_D A (wrW y a gs S) → va_S A s.heap H locs → lv_has ls 3 [(0, .ref a.1), (1, .int v1), (2, .int 4)] → wp_X4_goOn_4_4 K S v1 → W p l e ({ frames := 3, cells := 0, slots := 0, locals := 66 } : Room) s m args below meth c H locs 0 0 (MQ below (va_Qv (fun u => K u.1) (BW dC dI A (fun u : WireS × (Nat → Nat → Nat) => wrW y a u.2 u.1)) A) args s 0 0 A) (F0 m 4 ls []) := by
  obtain ⟨hx, hb, hr, hml, hown, hts, hlocks, hA, hK⟩ := id C0
  have w15 := hts (Cond.fieldLink RX4 15 "SharedWire" "state" "I") (List.mem_of_getElem? (i := 3) rfl)
  have hinX4 : ∀ w ∈ wsX40, w ∈ wsX4_goOn := fun w h => List.mem_cons_of_mem _ (List.mem_append_left _ (List.mem_append_left _ (List.mem_append_left _ (List.mem_append_left _ (List.mem_append_right _ (h))))))
  intro S gs v1 H locs ls hP hD hS hl hf
  obtain ⟨state, left, tapeLen, tapeB, tLine, tReader, nodes⟩ := S
  unfold wp_X4_goOn_4_4 at hf
  refine lv_iload_n hx hb dX4_goOn_4 rfl (lv_at hl 2 rfl) ?_
  refine lv_iconst (v := 4) hx hb dX4_goOn_5 (by decide) ?_
  refine lv_icmp_ge (tgt := 39) hx hb dX4_goOn_6 (by decide) (fun _ => ?_) (fun c9 => absurd (by decide) c9)
  refine lv_iload_n hx hb dX4_goOn_39 rfl (lv_at hl 1 rfl) ?_
  refine lv_if_eq (tgt := 51) hx hb dX4_goOn_40 (by decide) (fun c9 => ?_) (fun c9 => ?_)
  · replace hf := hf.1 c9
    refine lv_aload_n hx hb dX4_goOn_51 rfl (lv_at hl 0 rfl) ?_
    refine va_get (D := (dC, dI)) (ci := 4) (v := .int state) (C := RX4) (T := TX4) (N := 7) hx hb hts hinX4 hown hK.1 hP 0 rfl rfl 1 (by decide) w15 (fun _ h9 => h9) rfl dX4_goOn_52 ?_
    refine lv_iconst (v := 1) hx hb dX4_goOn_55 (by decide) ?_
    refine lv_icmp_ne (tgt := 63) hx hb dX4_goOn_56 (by decide) (fun c10 => ?_) (fun c10 => ?_)
    · replace hf := hf.1 c10
      exact W.vret hx hb hr (fun t ht hW => ⟨⟨((state, left, tapeLen, tapeB, tLine, tReader, nodes), gs), rfl, hf, by rw [ht]; exact hP, hD⟩, hS.F ht⟩) hS.2.2 dX4_goOn_63
    · replace hf := hf.2 c10
      refine lv_aload_n hx hb dX4_goOn_59 rfl (lv_at hl 0 rfl) ?_
      refine k0v (As := []) (rest := []) ⟨hx, hb, hml, hown, hts⟩ (c_X4_beginPause l dC dI y a gs H.size (state, left, tapeLen, tapeB, tLine, tReader, nodes) _ hf) (cwV 0 hts gX4_goOn_X4_beginPause rfl rfl rfl (by decide +kernel) ⟨Nat.le_of_ble_eq_true rfl, Nat.le_of_ble_eq_true rfl⟩) hK hP hD (va_recv hK.1 hP (ci := 4) (q0 := 0) rfl rfl) hS hA rfl hl.1 rfl (Nat.le_of_ble_eq_true rfl) dX4_goOn_60 ⟨Nat.zero_le _, Nat.zero_le _⟩ (fun u11 H locs hf hP hD hS => ?_)
      have hP : va_P (dC, dI) vwCl (wrW y a gs u11) H := hP
      have hD : va_D A (wrW y a gs u11) := hD
      exact W.vret hx hb hr (fun t ht hW => ⟨⟨(u11, gs), rfl, hf, by rw [ht]; exact hP, hD⟩, hS.F ht⟩) hS.2.2 dX4_goOn_63
  · replace hf := hf.2 c9
    refine lv_aload_n hx hb dX4_goOn_43 rfl (lv_at hl 0 rfl) ?_
    refine lv_iconst (v := 1) hx hb dX4_goOn_44 (by decide) ?_
    refine va_put (D := (dC, dI)) (ci := 4) (v := .int 1) (ty := .int) (C := RX4) (T := TX4) (N := 7) hx hb hts hinX4 tyX4 tyX4_ok nmX4 hown hK.1 hP hD hS 0 rfl rfl 1 (by decide) w15 (fun _ h9 => h9) rfl (by decide +kernel) rfl rfl (Nat.le_of_ble_eq_true rfl) dX4_goOn_45 (fun H locs hP hD hS => ?_)
    have hP : va_P (dC, dI) vwCl (wrW y a gs (1, left, tapeLen, tapeB, tLine, tReader, nodes)) H := hP
    have hD : va_D A (wrW y a gs (1, left, tapeLen, tapeB, tLine, tReader, nodes)) := hD
    refine lv_goto (tgt := 63) hx hb dX4_goOn_48 (by decide) ?_
    exact W.vret hx hb hr (fun t ht hW => ⟨⟨((1, left, tapeLen, tapeB, tLine, tReader, nodes), gs), rfl, hf, by rw [ht]; exact hP, hD⟩, hS.F ht⟩) hS.2.2 dX4_goOn_63
set_option maxHeartbeats 4000000 in
set_option maxRecDepth 100000 in
theorem j_X4_goOn_33_3 {p : Program} {l : Launch} {e : Env} {s : State} {m : MethodId} {args : Array Value} {below : List Frame} {meth : Method} {c : Code} {dC : Nat → ClassId} {dI : Nat → Nat → Nat} {y : Nat → ClassId} {A : Nat → Prop} (C0 : Cx p s m args meth c cX4_goOn 3 none wsX4_goOn RX4 A dC dI y) (a : WireA) (K : WireS → Prop) : ∀ (S : WireS) (gs : Nat → Nat → Nat) (v1 : Int32) (H : Heap) (locs : List Loc) (ls : Array Slot), va_P (dC, dI) vwCl (wrW y a gs S) H → va_D A (wrW y a gs S) → va_S A s.heap H locs → lv_has ls 3 [(0, .ref a.1), (1, .int v1), (2, .int 3)] → wp_X4_goOn_33_3 K S v1 → W p l e ({ frames := 3, cells := 0, slots := 0, locals := 66 } : Room) s m args below meth c H locs 0 0 (MQ below (va_Qv (fun u => K u.1) (BW dC dI A (fun u : WireS × (Nat → Nat → Nat) => wrW y a u.2 u.1)) A) args s 0 0 A) (F0 m 33 ls []) := by
  obtain ⟨hx, hb, hr, hml, hown, hts, hlocks, hA, hK⟩ := id C0
  intro S gs v1 H locs ls hP hD hS hl hf
  obtain ⟨state, left, tapeLen, tapeB, tLine, tReader, nodes⟩ := S
  unfold wp_X4_goOn_33_3 at hf
  refine lv_iinc (v := 4) (lv' := [(2, .int 4), (0, .ref a.1), (1, .int v1)]) hx hb dX4_goOn_33 hl (k := 2) rfl (by decide) (by decide) rfl (fun ls hl => ?_)
  refine lv_goto (tgt := 4) hx hb dX4_goOn_36 (by decide) ?_
  exact j_X4_goOn_4_4 C0 a K (state, left, tapeLen, tapeB, tLine, tReader, nodes) gs v1 H locs ls hP hD hS (lv_sub hl [1, 2, 0] rfl) hf
set_option maxHeartbeats 4000000 in
set_option maxRecDepth 100000 in
theorem j_X4_goOn_4_3 {p : Program} {l : Launch} {e : Env} {s : State} {m : MethodId} {args : Array Value} {below : List Frame} {meth : Method} {c : Code} {dC : Nat → ClassId} {dI : Nat → Nat → Nat} {y : Nat → ClassId} {A : Nat → Prop} (C0 : Cx p s m args meth c cX4_goOn 3 none wsX4_goOn RX4 A dC dI y) (a : WireA) (K : WireS → Prop) : ∀ (S : WireS) (gs : Nat → Nat → Nat) (v1 : Int32) (H : Heap) (locs : List Loc) (ls : Array Slot), va_P (dC, dI) vwCl (wrW y a gs S) H → va_D A (wrW y a gs S) → va_S A s.heap H locs → lv_has ls 3 [(0, .ref a.1), (1, .int v1), (2, .int 3)] → wp_X4_goOn_4_3 K S v1 → W p l e ({ frames := 3, cells := 0, slots := 0, locals := 66 } : Room) s m args below meth c H locs 0 0 (MQ below (va_Qv (fun u => K u.1) (BW dC dI A (fun u : WireS × (Nat → Nat → Nat) => wrW y a u.2 u.1)) A) args s 0 0 A) (F0 m 4 ls []) := by
  obtain ⟨hx, hb, hr, hml, hown, hts, hlocks, hA, hK⟩ := id C0
  have w11 := hts (Cond.fieldLink RX4 11 "SharedWire" "nodes" "[LSharedWire$Node;") (List.mem_of_getElem? (i := 1) rfl)
  have w75 := hts (Cond.fieldLink RX4 75 "SharedWire$Node" "role" "I") (List.mem_of_getElem? (i := 2) rfl)
  have hinX2 : ∀ w ∈ wsX20, w ∈ wsX4_goOn := fun w h => List.mem_cons_of_mem _ (List.mem_append_left _ (List.mem_append_left _ (List.mem_append_left _ (List.mem_append_right _ (h)))))
  have hinX4 : ∀ w ∈ wsX40, w ∈ wsX4_goOn := fun w h => List.mem_cons_of_mem _ (List.mem_append_left _ (List.mem_append_left _ (List.mem_append_left _ (List.mem_append_left _ (List.mem_append_right _ (h))))))
  intro S gs v1 H locs ls hP hD hS hl hf
  obtain ⟨state, left, tapeLen, tapeB, tLine, tReader, nodes⟩ := S
  unfold wp_X4_goOn_4_3 at hf
  refine lv_iload_n hx hb dX4_goOn_4 rfl (lv_at hl 2 rfl) ?_
  refine lv_iconst (v := 4) hx hb dX4_goOn_5 (by decide) ?_
  refine lv_icmp_ge (tgt := 39) hx hb dX4_goOn_6 (by decide) (fun c9 => absurd c9 (by decide)) (fun _ => ?_)
  refine lv_aload_n hx hb dX4_goOn_9 rfl (lv_at hl 0 rfl) ?_
  refine va_get (D := (dC, dI)) (ci := 4) (v := .ref a.2.1) (C := RX4) (T := TX4) (N := 7) hx hb hts hinX4 hown hK.1 hP 0 rfl rfl 0 (by decide) w11 (fun _ h9 => h9) rfl dX4_goOn_10 ?_
  refine lv_iload_n hx hb dX4_goOn_13 rfl (lv_at hl 2 rfl) ?_
  refine ar_qld (j := 3) hx hb hK.1 hP 1 4 rfl rfl (clamp_lit 3 rfl) (vin_lit 3 4 rfl rfl) dX4_goOn_14 ?_
  refine kVv (As := []) (rest := []) (pre := (wrW y a gs (state, left, tapeLen, tapeB, tLine, tReader, nodes)).take 44) (post := (wrW y a gs (state, left, tapeLen, tapeB, tLine, tReader, nodes)).drop 56) ⟨hx, hb, hml, hown, hts⟩ (c_X2_endFrame l dC dI y (aw (a.2.2.2.2.2 3) (gs 3)) H.size (nodes 3) _ hf) (cwV 0 hts gX4_goOn_X2_endFrame rfl rfl rfl (by decide +kernel) ⟨Nat.le_of_ble_eq_true rfl, Nat.le_of_ble_eq_true rfl⟩) hK hP hD (va_recv hK.1 hP (ci := 2) (q0 := 44) rfl rfl) hS hA rfl hl.1 rfl (Nat.le_of_ble_eq_true rfl) dX4_goOn_15 ⟨Nat.zero_le _, Nat.zero_le _⟩ (fun u7 H locs hf hP hD hS => ?_)
  have hP : va_P (dC, dI) vwCl (wrW y a (va_up gs 3 u7.2) (state, left, tapeLen, tapeB, tLine, tReader, va_up nodes 3 u7.1)) H := hP
  have hD : va_D A (wrW y a (va_up gs 3 u7.2) (state, left, tapeLen, tapeB, tLine, tReader, va_up nodes 3 u7.1)) := hD
  refine lv_aload_n hx hb dX4_goOn_18 rfl (lv_at hl 0 rfl) ?_
  refine va_get (D := (dC, dI)) (ci := 4) (v := .ref a.2.1) (C := RX4) (T := TX4) (N := 7) hx hb hts hinX4 hown hK.1 hP 0 rfl rfl 0 (by decide) w11 (fun _ h9 => h9) rfl dX4_goOn_19 ?_
  refine lv_iload_n hx hb dX4_goOn_22 rfl (lv_at hl 2 rfl) ?_
  refine ar_qld (j := 3) hx hb hK.1 hP 1 4 rfl rfl (clamp_lit 3 rfl) (vin_lit 3 4 rfl rfl) dX4_goOn_23 ?_
  refine va_get (D := (dC, dI)) (ci := 2) (v := .int u7.1.2.1) (C := RX2) (T := TX2) (N := 15) hx hb hts hinX2 hown hK.1 hP 44 rfl rfl 5 (by decide) w75 (fun _ h9 => h9) rfl dX4_goOn_24 ?_
  refine lv_iconst (v := 1) hx hb dX4_goOn_27 (by decide) ?_
  refine lv_icmp_eq (tgt := 33) hx hb dX4_goOn_28 (by decide) (fun c8 => ?_) (fun c8 => ?_)
  · replace hf := hf.1 c8
    exact j_X4_goOn_33_3 C0 a K (state, left, tapeLen, tapeB, tLine, tReader, va_up nodes 3 u7.1) (va_up gs 3 u7.2) v1 H locs ls hP hD hS (lv_sub hl [0, 1, 2] rfl) hf
  · replace hf := hf.2 c8
    refine lv_iconst (v := 1) hx hb dX4_goOn_31 (by decide) ?_
    refine lv_istore_n (lv' := [(1, .int 1), (0, .ref a.1), (2, .int 3)]) hx hb dX4_goOn_32 rfl hl (by decide) rfl (fun ls hl => ?_)
    exact j_X4_goOn_33_3 C0 a K (state, left, tapeLen, tapeB, tLine, tReader, va_up nodes 3 u7.1) (va_up gs 3 u7.2) 1 H locs ls hP hD hS (lv_sub hl [1, 0, 2] rfl) hf
set_option maxHeartbeats 4000000 in
set_option maxRecDepth 100000 in
theorem j_X4_goOn_33_2 {p : Program} {l : Launch} {e : Env} {s : State} {m : MethodId} {args : Array Value} {below : List Frame} {meth : Method} {c : Code} {dC : Nat → ClassId} {dI : Nat → Nat → Nat} {y : Nat → ClassId} {A : Nat → Prop} (C0 : Cx p s m args meth c cX4_goOn 3 none wsX4_goOn RX4 A dC dI y) (a : WireA) (K : WireS → Prop) : ∀ (S : WireS) (gs : Nat → Nat → Nat) (v1 : Int32) (H : Heap) (locs : List Loc) (ls : Array Slot), va_P (dC, dI) vwCl (wrW y a gs S) H → va_D A (wrW y a gs S) → va_S A s.heap H locs → lv_has ls 3 [(0, .ref a.1), (1, .int v1), (2, .int 2)] → wp_X4_goOn_33_2 K S v1 → W p l e ({ frames := 3, cells := 0, slots := 0, locals := 66 } : Room) s m args below meth c H locs 0 0 (MQ below (va_Qv (fun u => K u.1) (BW dC dI A (fun u : WireS × (Nat → Nat → Nat) => wrW y a u.2 u.1)) A) args s 0 0 A) (F0 m 33 ls []) := by
  obtain ⟨hx, hb, hr, hml, hown, hts, hlocks, hA, hK⟩ := id C0
  intro S gs v1 H locs ls hP hD hS hl hf
  obtain ⟨state, left, tapeLen, tapeB, tLine, tReader, nodes⟩ := S
  unfold wp_X4_goOn_33_2 at hf
  refine lv_iinc (v := 3) (lv' := [(2, .int 3), (0, .ref a.1), (1, .int v1)]) hx hb dX4_goOn_33 hl (k := 2) rfl (by decide) (by decide) rfl (fun ls hl => ?_)
  refine lv_goto (tgt := 4) hx hb dX4_goOn_36 (by decide) ?_
  exact j_X4_goOn_4_3 C0 a K (state, left, tapeLen, tapeB, tLine, tReader, nodes) gs v1 H locs ls hP hD hS (lv_sub hl [1, 2, 0] rfl) hf
set_option maxHeartbeats 4000000 in
set_option maxRecDepth 100000 in
theorem j_X4_goOn_4_2 {p : Program} {l : Launch} {e : Env} {s : State} {m : MethodId} {args : Array Value} {below : List Frame} {meth : Method} {c : Code} {dC : Nat → ClassId} {dI : Nat → Nat → Nat} {y : Nat → ClassId} {A : Nat → Prop} (C0 : Cx p s m args meth c cX4_goOn 3 none wsX4_goOn RX4 A dC dI y) (a : WireA) (K : WireS → Prop) : ∀ (S : WireS) (gs : Nat → Nat → Nat) (v1 : Int32) (H : Heap) (locs : List Loc) (ls : Array Slot), va_P (dC, dI) vwCl (wrW y a gs S) H → va_D A (wrW y a gs S) → va_S A s.heap H locs → lv_has ls 3 [(0, .ref a.1), (1, .int v1), (2, .int 2)] → wp_X4_goOn_4_2 K S v1 → W p l e ({ frames := 3, cells := 0, slots := 0, locals := 66 } : Room) s m args below meth c H locs 0 0 (MQ below (va_Qv (fun u => K u.1) (BW dC dI A (fun u : WireS × (Nat → Nat → Nat) => wrW y a u.2 u.1)) A) args s 0 0 A) (F0 m 4 ls []) := by
  obtain ⟨hx, hb, hr, hml, hown, hts, hlocks, hA, hK⟩ := id C0
  have w11 := hts (Cond.fieldLink RX4 11 "SharedWire" "nodes" "[LSharedWire$Node;") (List.mem_of_getElem? (i := 1) rfl)
  have w75 := hts (Cond.fieldLink RX4 75 "SharedWire$Node" "role" "I") (List.mem_of_getElem? (i := 2) rfl)
  have hinX2 : ∀ w ∈ wsX20, w ∈ wsX4_goOn := fun w h => List.mem_cons_of_mem _ (List.mem_append_left _ (List.mem_append_left _ (List.mem_append_left _ (List.mem_append_right _ (h)))))
  have hinX4 : ∀ w ∈ wsX40, w ∈ wsX4_goOn := fun w h => List.mem_cons_of_mem _ (List.mem_append_left _ (List.mem_append_left _ (List.mem_append_left _ (List.mem_append_left _ (List.mem_append_right _ (h))))))
  intro S gs v1 H locs ls hP hD hS hl hf
  obtain ⟨state, left, tapeLen, tapeB, tLine, tReader, nodes⟩ := S
  unfold wp_X4_goOn_4_2 at hf
  refine lv_iload_n hx hb dX4_goOn_4 rfl (lv_at hl 2 rfl) ?_
  refine lv_iconst (v := 4) hx hb dX4_goOn_5 (by decide) ?_
  refine lv_icmp_ge (tgt := 39) hx hb dX4_goOn_6 (by decide) (fun c9 => absurd c9 (by decide)) (fun _ => ?_)
  refine lv_aload_n hx hb dX4_goOn_9 rfl (lv_at hl 0 rfl) ?_
  refine va_get (D := (dC, dI)) (ci := 4) (v := .ref a.2.1) (C := RX4) (T := TX4) (N := 7) hx hb hts hinX4 hown hK.1 hP 0 rfl rfl 0 (by decide) w11 (fun _ h9 => h9) rfl dX4_goOn_10 ?_
  refine lv_iload_n hx hb dX4_goOn_13 rfl (lv_at hl 2 rfl) ?_
  refine ar_qld (j := 2) hx hb hK.1 hP 1 4 rfl rfl (clamp_lit 2 rfl) (vin_lit 2 4 rfl rfl) dX4_goOn_14 ?_
  refine kVv (As := []) (rest := []) (pre := (wrW y a gs (state, left, tapeLen, tapeB, tLine, tReader, nodes)).take 32) (post := (wrW y a gs (state, left, tapeLen, tapeB, tLine, tReader, nodes)).drop 44) ⟨hx, hb, hml, hown, hts⟩ (c_X2_endFrame l dC dI y (aw (a.2.2.2.2.2 2) (gs 2)) H.size (nodes 2) _ hf) (cwV 0 hts gX4_goOn_X2_endFrame rfl rfl rfl (by decide +kernel) ⟨Nat.le_of_ble_eq_true rfl, Nat.le_of_ble_eq_true rfl⟩) hK hP hD (va_recv hK.1 hP (ci := 2) (q0 := 32) rfl rfl) hS hA rfl hl.1 rfl (Nat.le_of_ble_eq_true rfl) dX4_goOn_15 ⟨Nat.zero_le _, Nat.zero_le _⟩ (fun u5 H locs hf hP hD hS => ?_)
  have hP : va_P (dC, dI) vwCl (wrW y a (va_up gs 2 u5.2) (state, left, tapeLen, tapeB, tLine, tReader, va_up nodes 2 u5.1)) H := hP
  have hD : va_D A (wrW y a (va_up gs 2 u5.2) (state, left, tapeLen, tapeB, tLine, tReader, va_up nodes 2 u5.1)) := hD
  refine lv_aload_n hx hb dX4_goOn_18 rfl (lv_at hl 0 rfl) ?_
  refine va_get (D := (dC, dI)) (ci := 4) (v := .ref a.2.1) (C := RX4) (T := TX4) (N := 7) hx hb hts hinX4 hown hK.1 hP 0 rfl rfl 0 (by decide) w11 (fun _ h9 => h9) rfl dX4_goOn_19 ?_
  refine lv_iload_n hx hb dX4_goOn_22 rfl (lv_at hl 2 rfl) ?_
  refine ar_qld (j := 2) hx hb hK.1 hP 1 4 rfl rfl (clamp_lit 2 rfl) (vin_lit 2 4 rfl rfl) dX4_goOn_23 ?_
  refine va_get (D := (dC, dI)) (ci := 2) (v := .int u5.1.2.1) (C := RX2) (T := TX2) (N := 15) hx hb hts hinX2 hown hK.1 hP 32 rfl rfl 5 (by decide) w75 (fun _ h9 => h9) rfl dX4_goOn_24 ?_
  refine lv_iconst (v := 1) hx hb dX4_goOn_27 (by decide) ?_
  refine lv_icmp_eq (tgt := 33) hx hb dX4_goOn_28 (by decide) (fun c6 => ?_) (fun c6 => ?_)
  · replace hf := hf.1 c6
    exact j_X4_goOn_33_2 C0 a K (state, left, tapeLen, tapeB, tLine, tReader, va_up nodes 2 u5.1) (va_up gs 2 u5.2) v1 H locs ls hP hD hS (lv_sub hl [0, 1, 2] rfl) hf
  · replace hf := hf.2 c6
    refine lv_iconst (v := 1) hx hb dX4_goOn_31 (by decide) ?_
    refine lv_istore_n (lv' := [(1, .int 1), (0, .ref a.1), (2, .int 2)]) hx hb dX4_goOn_32 rfl hl (by decide) rfl (fun ls hl => ?_)
    exact j_X4_goOn_33_2 C0 a K (state, left, tapeLen, tapeB, tLine, tReader, va_up nodes 2 u5.1) (va_up gs 2 u5.2) 1 H locs ls hP hD hS (lv_sub hl [1, 0, 2] rfl) hf
set_option maxHeartbeats 4000000 in
set_option maxRecDepth 100000 in
theorem j_X4_goOn_33_1 {p : Program} {l : Launch} {e : Env} {s : State} {m : MethodId} {args : Array Value} {below : List Frame} {meth : Method} {c : Code} {dC : Nat → ClassId} {dI : Nat → Nat → Nat} {y : Nat → ClassId} {A : Nat → Prop} (C0 : Cx p s m args meth c cX4_goOn 3 none wsX4_goOn RX4 A dC dI y) (a : WireA) (K : WireS → Prop) : ∀ (S : WireS) (gs : Nat → Nat → Nat) (v1 : Int32) (H : Heap) (locs : List Loc) (ls : Array Slot), va_P (dC, dI) vwCl (wrW y a gs S) H → va_D A (wrW y a gs S) → va_S A s.heap H locs → lv_has ls 3 [(0, .ref a.1), (1, .int v1), (2, .int 1)] → wp_X4_goOn_33_1 K S v1 → W p l e ({ frames := 3, cells := 0, slots := 0, locals := 66 } : Room) s m args below meth c H locs 0 0 (MQ below (va_Qv (fun u => K u.1) (BW dC dI A (fun u : WireS × (Nat → Nat → Nat) => wrW y a u.2 u.1)) A) args s 0 0 A) (F0 m 33 ls []) := by
  obtain ⟨hx, hb, hr, hml, hown, hts, hlocks, hA, hK⟩ := id C0
  intro S gs v1 H locs ls hP hD hS hl hf
  obtain ⟨state, left, tapeLen, tapeB, tLine, tReader, nodes⟩ := S
  unfold wp_X4_goOn_33_1 at hf
  refine lv_iinc (v := 2) (lv' := [(2, .int 2), (0, .ref a.1), (1, .int v1)]) hx hb dX4_goOn_33 hl (k := 2) rfl (by decide) (by decide) rfl (fun ls hl => ?_)
  refine lv_goto (tgt := 4) hx hb dX4_goOn_36 (by decide) ?_
  exact j_X4_goOn_4_2 C0 a K (state, left, tapeLen, tapeB, tLine, tReader, nodes) gs v1 H locs ls hP hD hS (lv_sub hl [1, 2, 0] rfl) hf
set_option maxHeartbeats 4000000 in
set_option maxRecDepth 100000 in
theorem j_X4_goOn_4_1 {p : Program} {l : Launch} {e : Env} {s : State} {m : MethodId} {args : Array Value} {below : List Frame} {meth : Method} {c : Code} {dC : Nat → ClassId} {dI : Nat → Nat → Nat} {y : Nat → ClassId} {A : Nat → Prop} (C0 : Cx p s m args meth c cX4_goOn 3 none wsX4_goOn RX4 A dC dI y) (a : WireA) (K : WireS → Prop) : ∀ (S : WireS) (gs : Nat → Nat → Nat) (v1 : Int32) (H : Heap) (locs : List Loc) (ls : Array Slot), va_P (dC, dI) vwCl (wrW y a gs S) H → va_D A (wrW y a gs S) → va_S A s.heap H locs → lv_has ls 3 [(0, .ref a.1), (1, .int v1), (2, .int 1)] → wp_X4_goOn_4_1 K S v1 → W p l e ({ frames := 3, cells := 0, slots := 0, locals := 66 } : Room) s m args below meth c H locs 0 0 (MQ below (va_Qv (fun u => K u.1) (BW dC dI A (fun u : WireS × (Nat → Nat → Nat) => wrW y a u.2 u.1)) A) args s 0 0 A) (F0 m 4 ls []) := by
  obtain ⟨hx, hb, hr, hml, hown, hts, hlocks, hA, hK⟩ := id C0
  have w11 := hts (Cond.fieldLink RX4 11 "SharedWire" "nodes" "[LSharedWire$Node;") (List.mem_of_getElem? (i := 1) rfl)
  have w75 := hts (Cond.fieldLink RX4 75 "SharedWire$Node" "role" "I") (List.mem_of_getElem? (i := 2) rfl)
  have hinX2 : ∀ w ∈ wsX20, w ∈ wsX4_goOn := fun w h => List.mem_cons_of_mem _ (List.mem_append_left _ (List.mem_append_left _ (List.mem_append_left _ (List.mem_append_right _ (h)))))
  have hinX4 : ∀ w ∈ wsX40, w ∈ wsX4_goOn := fun w h => List.mem_cons_of_mem _ (List.mem_append_left _ (List.mem_append_left _ (List.mem_append_left _ (List.mem_append_left _ (List.mem_append_right _ (h))))))
  intro S gs v1 H locs ls hP hD hS hl hf
  obtain ⟨state, left, tapeLen, tapeB, tLine, tReader, nodes⟩ := S
  unfold wp_X4_goOn_4_1 at hf
  refine lv_iload_n hx hb dX4_goOn_4 rfl (lv_at hl 2 rfl) ?_
  refine lv_iconst (v := 4) hx hb dX4_goOn_5 (by decide) ?_
  refine lv_icmp_ge (tgt := 39) hx hb dX4_goOn_6 (by decide) (fun c9 => absurd c9 (by decide)) (fun _ => ?_)
  refine lv_aload_n hx hb dX4_goOn_9 rfl (lv_at hl 0 rfl) ?_
  refine va_get (D := (dC, dI)) (ci := 4) (v := .ref a.2.1) (C := RX4) (T := TX4) (N := 7) hx hb hts hinX4 hown hK.1 hP 0 rfl rfl 0 (by decide) w11 (fun _ h9 => h9) rfl dX4_goOn_10 ?_
  refine lv_iload_n hx hb dX4_goOn_13 rfl (lv_at hl 2 rfl) ?_
  refine ar_qld (j := 1) hx hb hK.1 hP 1 4 rfl rfl (clamp_lit 1 rfl) (vin_lit 1 4 rfl rfl) dX4_goOn_14 ?_
  refine kVv (As := []) (rest := []) (pre := (wrW y a gs (state, left, tapeLen, tapeB, tLine, tReader, nodes)).take 20) (post := (wrW y a gs (state, left, tapeLen, tapeB, tLine, tReader, nodes)).drop 32) ⟨hx, hb, hml, hown, hts⟩ (c_X2_endFrame l dC dI y (aw (a.2.2.2.2.2 1) (gs 1)) H.size (nodes 1) _ hf) (cwV 0 hts gX4_goOn_X2_endFrame rfl rfl rfl (by decide +kernel) ⟨Nat.le_of_ble_eq_true rfl, Nat.le_of_ble_eq_true rfl⟩) hK hP hD (va_recv hK.1 hP (ci := 2) (q0 := 20) rfl rfl) hS hA rfl hl.1 rfl (Nat.le_of_ble_eq_true rfl) dX4_goOn_15 ⟨Nat.zero_le _, Nat.zero_le _⟩ (fun u3 H locs hf hP hD hS => ?_)
  have hP : va_P (dC, dI) vwCl (wrW y a (va_up gs 1 u3.2) (state, left, tapeLen, tapeB, tLine, tReader, va_up nodes 1 u3.1)) H := hP
  have hD : va_D A (wrW y a (va_up gs 1 u3.2) (state, left, tapeLen, tapeB, tLine, tReader, va_up nodes 1 u3.1)) := hD
  refine lv_aload_n hx hb dX4_goOn_18 rfl (lv_at hl 0 rfl) ?_
  refine va_get (D := (dC, dI)) (ci := 4) (v := .ref a.2.1) (C := RX4) (T := TX4) (N := 7) hx hb hts hinX4 hown hK.1 hP 0 rfl rfl 0 (by decide) w11 (fun _ h9 => h9) rfl dX4_goOn_19 ?_
  refine lv_iload_n hx hb dX4_goOn_22 rfl (lv_at hl 2 rfl) ?_
  refine ar_qld (j := 1) hx hb hK.1 hP 1 4 rfl rfl (clamp_lit 1 rfl) (vin_lit 1 4 rfl rfl) dX4_goOn_23 ?_
  refine va_get (D := (dC, dI)) (ci := 2) (v := .int u3.1.2.1) (C := RX2) (T := TX2) (N := 15) hx hb hts hinX2 hown hK.1 hP 20 rfl rfl 5 (by decide) w75 (fun _ h9 => h9) rfl dX4_goOn_24 ?_
  refine lv_iconst (v := 1) hx hb dX4_goOn_27 (by decide) ?_
  refine lv_icmp_eq (tgt := 33) hx hb dX4_goOn_28 (by decide) (fun c4 => ?_) (fun c4 => ?_)
  · replace hf := hf.1 c4
    exact j_X4_goOn_33_1 C0 a K (state, left, tapeLen, tapeB, tLine, tReader, va_up nodes 1 u3.1) (va_up gs 1 u3.2) v1 H locs ls hP hD hS (lv_sub hl [0, 1, 2] rfl) hf
  · replace hf := hf.2 c4
    refine lv_iconst (v := 1) hx hb dX4_goOn_31 (by decide) ?_
    refine lv_istore_n (lv' := [(1, .int 1), (0, .ref a.1), (2, .int 1)]) hx hb dX4_goOn_32 rfl hl (by decide) rfl (fun ls hl => ?_)
    exact j_X4_goOn_33_1 C0 a K (state, left, tapeLen, tapeB, tLine, tReader, va_up nodes 1 u3.1) (va_up gs 1 u3.2) 1 H locs ls hP hD hS (lv_sub hl [1, 0, 2] rfl) hf
set_option maxHeartbeats 4000000 in
set_option maxRecDepth 100000 in
theorem j_X4_goOn_33_0 {p : Program} {l : Launch} {e : Env} {s : State} {m : MethodId} {args : Array Value} {below : List Frame} {meth : Method} {c : Code} {dC : Nat → ClassId} {dI : Nat → Nat → Nat} {y : Nat → ClassId} {A : Nat → Prop} (C0 : Cx p s m args meth c cX4_goOn 3 none wsX4_goOn RX4 A dC dI y) (a : WireA) (K : WireS → Prop) : ∀ (S : WireS) (gs : Nat → Nat → Nat) (v1 : Int32) (H : Heap) (locs : List Loc) (ls : Array Slot), va_P (dC, dI) vwCl (wrW y a gs S) H → va_D A (wrW y a gs S) → va_S A s.heap H locs → lv_has ls 3 [(0, .ref a.1), (1, .int v1), (2, .int 0)] → wp_X4_goOn_33_0 K S v1 → W p l e ({ frames := 3, cells := 0, slots := 0, locals := 66 } : Room) s m args below meth c H locs 0 0 (MQ below (va_Qv (fun u => K u.1) (BW dC dI A (fun u : WireS × (Nat → Nat → Nat) => wrW y a u.2 u.1)) A) args s 0 0 A) (F0 m 33 ls []) := by
  obtain ⟨hx, hb, hr, hml, hown, hts, hlocks, hA, hK⟩ := id C0
  intro S gs v1 H locs ls hP hD hS hl hf
  obtain ⟨state, left, tapeLen, tapeB, tLine, tReader, nodes⟩ := S
  unfold wp_X4_goOn_33_0 at hf
  refine lv_iinc (v := 1) (lv' := [(2, .int 1), (0, .ref a.1), (1, .int v1)]) hx hb dX4_goOn_33 hl (k := 2) rfl (by decide) (by decide) rfl (fun ls hl => ?_)
  refine lv_goto (tgt := 4) hx hb dX4_goOn_36 (by decide) ?_
  exact j_X4_goOn_4_1 C0 a K (state, left, tapeLen, tapeB, tLine, tReader, nodes) gs v1 H locs ls hP hD hS (lv_sub hl [1, 2, 0] rfl) hf
set_option maxHeartbeats 4000000 in
set_option maxRecDepth 100000 in
theorem j_X4_goOn_4_0 {p : Program} {l : Launch} {e : Env} {s : State} {m : MethodId} {args : Array Value} {below : List Frame} {meth : Method} {c : Code} {dC : Nat → ClassId} {dI : Nat → Nat → Nat} {y : Nat → ClassId} {A : Nat → Prop} (C0 : Cx p s m args meth c cX4_goOn 3 none wsX4_goOn RX4 A dC dI y) (a : WireA) (K : WireS → Prop) : ∀ (S : WireS) (gs : Nat → Nat → Nat) (v1 : Int32) (H : Heap) (locs : List Loc) (ls : Array Slot), va_P (dC, dI) vwCl (wrW y a gs S) H → va_D A (wrW y a gs S) → va_S A s.heap H locs → lv_has ls 3 [(0, .ref a.1), (1, .int v1), (2, .int 0)] → wp_X4_goOn_4_0 K S v1 → W p l e ({ frames := 3, cells := 0, slots := 0, locals := 66 } : Room) s m args below meth c H locs 0 0 (MQ below (va_Qv (fun u => K u.1) (BW dC dI A (fun u : WireS × (Nat → Nat → Nat) => wrW y a u.2 u.1)) A) args s 0 0 A) (F0 m 4 ls []) := by
  obtain ⟨hx, hb, hr, hml, hown, hts, hlocks, hA, hK⟩ := id C0
  have w11 := hts (Cond.fieldLink RX4 11 "SharedWire" "nodes" "[LSharedWire$Node;") (List.mem_of_getElem? (i := 1) rfl)
  have w75 := hts (Cond.fieldLink RX4 75 "SharedWire$Node" "role" "I") (List.mem_of_getElem? (i := 2) rfl)
  have hinX2 : ∀ w ∈ wsX20, w ∈ wsX4_goOn := fun w h => List.mem_cons_of_mem _ (List.mem_append_left _ (List.mem_append_left _ (List.mem_append_left _ (List.mem_append_right _ (h)))))
  have hinX4 : ∀ w ∈ wsX40, w ∈ wsX4_goOn := fun w h => List.mem_cons_of_mem _ (List.mem_append_left _ (List.mem_append_left _ (List.mem_append_left _ (List.mem_append_left _ (List.mem_append_right _ (h))))))
  intro S gs v1 H locs ls hP hD hS hl hf
  obtain ⟨state, left, tapeLen, tapeB, tLine, tReader, nodes⟩ := S
  unfold wp_X4_goOn_4_0 at hf
  refine lv_iload_n hx hb dX4_goOn_4 rfl (lv_at hl 2 rfl) ?_
  refine lv_iconst (v := 4) hx hb dX4_goOn_5 (by decide) ?_
  refine lv_icmp_ge (tgt := 39) hx hb dX4_goOn_6 (by decide) (fun c9 => absurd c9 (by decide)) (fun _ => ?_)
  refine lv_aload_n hx hb dX4_goOn_9 rfl (lv_at hl 0 rfl) ?_
  refine va_get (D := (dC, dI)) (ci := 4) (v := .ref a.2.1) (C := RX4) (T := TX4) (N := 7) hx hb hts hinX4 hown hK.1 hP 0 rfl rfl 0 (by decide) w11 (fun _ h9 => h9) rfl dX4_goOn_10 ?_
  refine lv_iload_n hx hb dX4_goOn_13 rfl (lv_at hl 2 rfl) ?_
  refine ar_qld (j := 0) hx hb hK.1 hP 1 4 rfl rfl (clamp_lit 0 rfl) (vin_lit 0 4 rfl rfl) dX4_goOn_14 ?_
  refine kVv (As := []) (rest := []) (pre := (wrW y a gs (state, left, tapeLen, tapeB, tLine, tReader, nodes)).take 8) (post := (wrW y a gs (state, left, tapeLen, tapeB, tLine, tReader, nodes)).drop 20) ⟨hx, hb, hml, hown, hts⟩ (c_X2_endFrame l dC dI y (aw (a.2.2.2.2.2 0) (gs 0)) H.size (nodes 0) _ hf) (cwV 0 hts gX4_goOn_X2_endFrame rfl rfl rfl (by decide +kernel) ⟨Nat.le_of_ble_eq_true rfl, Nat.le_of_ble_eq_true rfl⟩) hK hP hD (va_recv hK.1 hP (ci := 2) (q0 := 8) rfl rfl) hS hA rfl hl.1 rfl (Nat.le_of_ble_eq_true rfl) dX4_goOn_15 ⟨Nat.zero_le _, Nat.zero_le _⟩ (fun u1 H locs hf hP hD hS => ?_)
  have hP : va_P (dC, dI) vwCl (wrW y a (va_up gs 0 u1.2) (state, left, tapeLen, tapeB, tLine, tReader, va_up nodes 0 u1.1)) H := hP
  have hD : va_D A (wrW y a (va_up gs 0 u1.2) (state, left, tapeLen, tapeB, tLine, tReader, va_up nodes 0 u1.1)) := hD
  refine lv_aload_n hx hb dX4_goOn_18 rfl (lv_at hl 0 rfl) ?_
  refine va_get (D := (dC, dI)) (ci := 4) (v := .ref a.2.1) (C := RX4) (T := TX4) (N := 7) hx hb hts hinX4 hown hK.1 hP 0 rfl rfl 0 (by decide) w11 (fun _ h9 => h9) rfl dX4_goOn_19 ?_
  refine lv_iload_n hx hb dX4_goOn_22 rfl (lv_at hl 2 rfl) ?_
  refine ar_qld (j := 0) hx hb hK.1 hP 1 4 rfl rfl (clamp_lit 0 rfl) (vin_lit 0 4 rfl rfl) dX4_goOn_23 ?_
  refine va_get (D := (dC, dI)) (ci := 2) (v := .int u1.1.2.1) (C := RX2) (T := TX2) (N := 15) hx hb hts hinX2 hown hK.1 hP 8 rfl rfl 5 (by decide) w75 (fun _ h9 => h9) rfl dX4_goOn_24 ?_
  refine lv_iconst (v := 1) hx hb dX4_goOn_27 (by decide) ?_
  refine lv_icmp_eq (tgt := 33) hx hb dX4_goOn_28 (by decide) (fun c2 => ?_) (fun c2 => ?_)
  · replace hf := hf.1 c2
    exact j_X4_goOn_33_0 C0 a K (state, left, tapeLen, tapeB, tLine, tReader, va_up nodes 0 u1.1) (va_up gs 0 u1.2) v1 H locs ls hP hD hS (lv_sub hl [0, 1, 2] rfl) hf
  · replace hf := hf.2 c2
    refine lv_iconst (v := 1) hx hb dX4_goOn_31 (by decide) ?_
    refine lv_istore_n (lv' := [(1, .int 1), (0, .ref a.1), (2, .int 0)]) hx hb dX4_goOn_32 rfl hl (by decide) rfl (fun ls hl => ?_)
    exact j_X4_goOn_33_0 C0 a K (state, left, tapeLen, tapeB, tLine, tReader, va_up nodes 0 u1.1) (va_up gs 0 u1.2) 1 H locs ls hP hD hS (lv_sub hl [1, 0, 2] rfl) hf
set_option maxHeartbeats 4000000 in
set_option maxRecDepth 100000 in
theorem c_X4_goOn (l : Launch) (dC : Nat → ClassId) (dI : Nat → Nat → Nat) (y : Nat → ClassId) (a : WireA) (gs : Nat → Nat → Nat) (sz : Nat) (S : WireS) (K : WireS → Prop) (hf : wp_X4_goOn S K) : MV l yX4_goOn wsX4_goOn { frames := 3, cells := 0, slots := 0, locals := 66 } dC dI y [.ref a.1] (wrW y a gs S) sz (fun u : WireS × (Nat → Nat → Nat) => wrW y a u.2 u.1) (fun u => K u.1) := by
  refine Met.ofW (cc := cX4_goOn) (maxL := 3) (ret := none) (by decide) rfl ?_
  intro p e s m args below meth c s₁ B hml hv
  obtain ⟨rfl, hsz, hP, hK, hD0⟩ := hv
  have hx := B.exec
  have hb := B.bytes
  have hr := B.returns
  have hts := atoms_spec (ws := wsX4_goOn) B.pre
  have hown : s.vm.findClass RX4 = some m.cls := findClass_of_methodNamed B.named
  have hlocks := B.notSynchronized
  subst hsz
  have hD := hD0.self (sz := s.heap.size)
  generalize hAe : va_A (wrW y a gs S) s.heap.size = A at hD ⊢
  have hA : ∀ q : Nat, s.heap.size ≤ q → A q := fun q h => by rw [← hAe]; exact Or.inr h
  have hS : va_S A s.heap s.heap [] := va_S.rf
  have C0 : Cx p s m [.ref a.1].toArray meth c cX4_goOn 3 none wsX4_goOn RX4 A dC dI y := ⟨hx, hb, hr, hml, hown, hts, hlocks, hA, hK⟩
  have hl := lv_entry ([.ref a.1]) (n := 3) (Nat.le_of_ble_eq_true rfl)
  rw [lg_entry_eq]
  generalize (lg_sl ([.ref a.1]) ++ List.replicate (3 - (lg_sl ([.ref a.1])).length) Slot.unset).toArray = ls at hl ⊢
  have hl : lv_has ls 3 [(0, .ref a.1)] := hl
  obtain ⟨state, left, tapeLen, tapeB, tLine, tReader, nodes⟩ := S
  clear hAe hD0
  generalize hL0 : ([] : List Loc) = locs at hS ⊢
  unfold wp_X4_goOn at hf
  refine lv_iconst (v := 0) hx hb dX4_goOn_0 (by decide) ?_
  refine lv_istore_n (lv' := [(1, .int 0), (0, .ref a.1)]) hx hb dX4_goOn_1 rfl hl (by decide) rfl (fun ls hl => ?_)
  refine lv_iconst (v := 0) hx hb dX4_goOn_2 (by decide) ?_
  refine lv_istore_n (lv' := [(2, .int 0), (1, .int 0), (0, .ref a.1)]) hx hb dX4_goOn_3 rfl hl (by decide) rfl (fun ls hl => ?_)
  exact j_X4_goOn_4_0 C0 a K (state, left, tapeLen, tapeB, tLine, tReader, nodes) gs 0 s.heap locs ls hP hD hS (lv_sub hl [2, 1, 0] rfl) hf

def wp_X4_oneStep_62 (K : Int32 → WireS → Prop) : WireS → Int32 → Prop := fun (state, left, tapeLen, tapeB, tLine, tReader, nodes) v2 => K v2 (state, left, tapeLen, tapeB, tLine, tReader, nodes)
def wp_X4_oneStep_37 (K : Int32 → WireS → Prop) : WireS → Int32 → Prop := fun (state, left, tapeLen, tapeB, tLine, tReader, nodes) v1 => wp_X4_levelSent (state, left, tapeLen, tapeB, tLine, tReader, nodes) (fun r4 => wp_X4_someFindFaults (state, left, tapeLen, tapeB, tLine, tReader, nodes) r4 v1 (fun r6 u7 => ((r6 = 0 → wp_X4_goOn u7 (fun u9 => wp_X4_oneStep_62 K u9 r4)) ∧ (¬ r6 = 0 → wp_X4_breakOff u7 (fun u10 => wp_X4_oneStep_62 K u10 r4)))))
def wp_X4_oneStep : WireS → Int32 → (Int32 → WireS → Prop) → Prop := fun (state, left, tapeLen, tapeB, tLine, tReader, nodes) p0 K => ((¬ state = 2 → ((¬ state = 3 → ((¬ state = 0 → wp_X4_oneStep_37 K (state, left, tapeLen, tapeB, tLine, tReader, nodes) p0) ∧ (state = 0 → wp_X4_startSenders (state, left, tapeLen, tapeB, tLine, tReader, nodes) (fun u11 => wp_X4_oneStep_37 K u11 p0)))) ∧ (state = 3 → wp_X4_pauseStep (state, left, tapeLen, tapeB, tLine, tReader, nodes) (fun r12 u13 => K r12 u13)))) ∧ (state = 2 → wp_X4_brokenStep (state, left, tapeLen, tapeB, tLine, tReader, nodes) (fun r14 u15 => K r14 u15)))
set_option maxHeartbeats 4000000 in
set_option maxRecDepth 100000 in
theorem j_X4_oneStep_62 {p : Program} {l : Launch} {e : Env} {s : State} {m : MethodId} {args : Array Value} {below : List Frame} {meth : Method} {c : Code} {dC : Nat → ClassId} {dI : Nat → Nat → Nat} {y : Nat → ClassId} {A : Nat → Prop} (C0 : Cx p s m args meth c cX4_oneStep 3 (some .int) wsX4_oneStep RX4 A dC dI y) (a : WireA) (K : Int32 → WireS → Prop) : ∀ (S : WireS) (gs : Nat → Nat → Nat) (v2 : Int32) (H : Heap) (locs : List Loc) (ls : Array Slot), va_P (dC, dI) vwCl (wrW y a gs S) H → va_D A (wrW y a gs S) → va_S A s.heap H locs → lv_has ls 3 [(2, .int v2)] → wp_X4_oneStep_62 K S v2 → W p l e ({ frames := 6, cells := 0, slots := 0, locals := 133 } : Room) s m args below meth c H locs 0 0 (MQ below (va_Qi (fun r u => K r u.1) (BW dC dI A (fun u : WireS × (Nat → Nat → Nat) => wrW y a u.2 u.1)) A) args s 0 0 A) (F0 m 62 ls []) := by
  obtain ⟨hx, hb, hr, hml, hown, hts, hlocks, hA, hK⟩ := id C0
  intro S gs v2 H locs ls hP hD hS hl hf
  obtain ⟨state, left, tapeLen, tapeB, tLine, tReader, nodes⟩ := S
  unfold wp_X4_oneStep_62 at hf
  refine lv_iload_n hx hb dX4_oneStep_62 rfl (lv_at hl 0 rfl) ?_
  exact W.iret (v := v2) hx hb hr (fun t ht hW => ⟨⟨v2, ((state, left, tapeLen, tapeB, tLine, tReader, nodes), gs), rfl, hf, by rw [ht]; exact hP, hD⟩, hS.F ht⟩) hS.2.2 dX4_oneStep_63
set_option maxHeartbeats 4000000 in
set_option maxRecDepth 100000 in
theorem j_X4_oneStep_37 {p : Program} {l : Launch} {e : Env} {s : State} {m : MethodId} {args : Array Value} {below : List Frame} {meth : Method} {c : Code} {dC : Nat → ClassId} {dI : Nat → Nat → Nat} {y : Nat → ClassId} {A : Nat → Prop} (C0 : Cx p s m args meth c cX4_oneStep 3 (some .int) wsX4_oneStep RX4 A dC dI y) (a : WireA) (K : Int32 → WireS → Prop) : ∀ (S : WireS) (gs : Nat → Nat → Nat) (v1 : Int32) (H : Heap) (locs : List Loc) (ls : Array Slot), va_P (dC, dI) vwCl (wrW y a gs S) H → va_D A (wrW y a gs S) → va_S A s.heap H locs → lv_has ls 3 [(0, .ref a.1), (1, .int v1)] → wp_X4_oneStep_37 K S v1 → W p l e ({ frames := 6, cells := 0, slots := 0, locals := 133 } : Room) s m args below meth c H locs 0 0 (MQ below (va_Qi (fun r u => K r u.1) (BW dC dI A (fun u : WireS × (Nat → Nat → Nat) => wrW y a u.2 u.1)) A) args s 0 0 A) (F0 m 37 ls []) := by
  obtain ⟨hx, hb, hr, hml, hown, hts, hlocks, hA, hK⟩ := id C0
  intro S gs v1 H locs ls hP hD hS hl hf
  obtain ⟨state, left, tapeLen, tapeB, tLine, tReader, nodes⟩ := S
  unfold wp_X4_oneStep_37 at hf
  refine lv_aload_n hx hb dX4_oneStep_37 rfl (lv_at hl 0 rfl) ?_
  refine k0i (As := []) (rest := []) ⟨hx, hb, hml, hown, hts⟩ (c_X4_levelSent l dC dI y a gs H.size (state, left, tapeLen, tapeB, tLine, tReader, nodes) _ hf) (cwV 0 hts gX4_oneStep_X4_levelSent rfl rfl rfl (by decide +kernel) ⟨Nat.le_of_ble_eq_true rfl, Nat.le_of_ble_eq_true rfl⟩) hK hP hD (va_recv hK.1 hP (ci := 4) (q0 := 0) rfl rfl) hS hA rfl hl.1 rfl (Nat.le_of_ble_eq_true rfl) dX4_oneStep_38 ⟨Nat.zero_le _, Nat.zero_le _⟩ (fun r4 u5 H locs hf hP hD hS => ?_)
  obtain ⟨hf, e9⟩ := hf
  have e9 := e9.symm
  subst e9
  have hP : va_P (dC, dI) vwCl (wrW y a gs (state, left, tapeLen, tapeB, tLine, tReader, nodes)) H := hP
  have hD : va_D A (wrW y a gs (state, left, tapeLen, tapeB, tLine, tReader, nodes)) := hD
  refine lv_istore_n (lv' := [(2, .int r4), (0, .ref a.1), (1, .int v1)]) hx hb dX4_oneStep_41 rfl hl (by decide) rfl (fun ls hl => ?_)
  refine lv_aload_n hx hb dX4_oneStep_42 rfl (lv_at hl 1 rfl) ?_
  refine lv_iload_n hx hb dX4_oneStep_43 rfl (lv_at hl 0 rfl) ?_
  refine lv_iload_n hx hb dX4_oneStep_44 rfl (lv_at hl 2 rfl) ?_
  refine k0i (As := [.int r4, .int v1]) (rest := []) ⟨hx, hb, hml, hown, hts⟩ (c_X4_someFindFaults l dC dI y a gs H.size (state, left, tapeLen, tapeB, tLine, tReader, nodes) r4 v1 _ hf) (cwV 2 hts gX4_oneStep_X4_someFindFaults rfl rfl rfl (by decide +kernel) ⟨Nat.le_of_ble_eq_true rfl, Nat.le_of_ble_eq_true rfl⟩) hK hP hD (va_recv hK.1 hP (ci := 4) (q0 := 0) rfl rfl) hS hA rfl hl.1 rfl (Nat.le_of_ble_eq_true rfl) dX4_oneStep_45 ⟨Nat.zero_le _, Nat.zero_le _⟩ (fun r6 u7 H locs hf hP hD hS => ?_)
  have hP : va_P (dC, dI) vwCl (wrW y a gs u7) H := hP
  have hD : va_D A (wrW y a gs u7) := hD
  refine lv_if_eq (tgt := 58) hx hb dX4_oneStep_48 (by decide) (fun c8 => ?_) (fun c8 => ?_)
  · replace hf := hf.1 c8
    refine lv_aload_n hx hb dX4_oneStep_58 rfl (lv_at hl 1 rfl) ?_
    refine k0v (As := []) (rest := []) ⟨hx, hb, hml, hown, hts⟩ (c_X4_goOn l dC dI y a gs H.size u7 _ hf) (cwV 0 hts gX4_oneStep_X4_goOn rfl rfl rfl (by decide +kernel) ⟨Nat.le_of_ble_eq_true rfl, Nat.le_of_ble_eq_true rfl⟩) hK hP hD (va_recv hK.1 hP (ci := 4) (q0 := 0) rfl rfl) hS hA rfl hl.1 rfl (Nat.le_of_ble_eq_true rfl) dX4_oneStep_59 ⟨Nat.zero_le _, Nat.zero_le _⟩ (fun u9 H locs hf hP hD hS => ?_)
    have hP : va_P (dC, dI) vwCl (wrW y a u9.2 u9.1) H := hP
    have hD : va_D A (wrW y a u9.2 u9.1) := hD
    exact j_X4_oneStep_62 C0 a K u9.1 u9.2 r4 H locs ls hP hD hS (lv_sub hl [0] rfl) hf
  · replace hf := hf.2 c8
    refine lv_aload_n hx hb dX4_oneStep_51 rfl (lv_at hl 1 rfl) ?_
    refine k0v (As := []) (rest := []) ⟨hx, hb, hml, hown, hts⟩ (c_X4_breakOff l dC dI y a gs H.size u7 _ hf) (cwV 0 hts gX4_oneStep_X4_breakOff rfl rfl rfl (by decide +kernel) ⟨Nat.le_of_ble_eq_true rfl, Nat.le_of_ble_eq_true rfl⟩) hK hP hD (va_recv hK.1 hP (ci := 4) (q0 := 0) rfl rfl) hS hA rfl hl.1 rfl (Nat.le_of_ble_eq_true rfl) dX4_oneStep_52 ⟨Nat.zero_le _, Nat.zero_le _⟩ (fun u10 H locs hf hP hD hS => ?_)
    have hP : va_P (dC, dI) vwCl (wrW y a gs u10) H := hP
    have hD : va_D A (wrW y a gs u10) := hD
    refine lv_goto (tgt := 62) hx hb dX4_oneStep_55 (by decide) ?_
    exact j_X4_oneStep_62 C0 a K u10 gs r4 H locs ls hP hD hS (lv_sub hl [0] rfl) hf
set_option maxHeartbeats 4000000 in
set_option maxRecDepth 100000 in
theorem c_X4_oneStep (l : Launch) (dC : Nat → ClassId) (dI : Nat → Nat → Nat) (y : Nat → ClassId) (a : WireA) (gs : Nat → Nat → Nat) (sz : Nat) (S : WireS) (p0 : Int32) (K : Int32 → WireS → Prop) (hf : wp_X4_oneStep S p0 K) : MI l yX4_oneStep wsX4_oneStep { frames := 6, cells := 0, slots := 0, locals := 133 } dC dI y [.ref a.1, .int p0] (wrW y a gs S) sz (fun u : WireS × (Nat → Nat → Nat) => wrW y a u.2 u.1) (fun r u => K r u.1) := by
  refine Met.ofW (cc := cX4_oneStep) (maxL := 3) (ret := (some .int)) (by decide) rfl ?_
  intro p e s m args below meth c s₁ B hml hv
  obtain ⟨rfl, hsz, hP, hK, hD0⟩ := hv
  have hx := B.exec
  have hb := B.bytes
  have hr := B.returns
  have hts := atoms_spec (ws := wsX4_oneStep) B.pre
  have hown : s.vm.findClass RX4 = some m.cls := findClass_of_methodNamed B.named
  have hlocks := B.notSynchronized
  subst hsz
  have hD := hD0.self (sz := s.heap.size)
  generalize hAe : va_A (wrW y a gs S) s.heap.size = A at hD ⊢
  have hA : ∀ q : Nat, s.heap.size ≤ q → A q := fun q h => by rw [← hAe]; exact Or.inr h
  have hS : va_S A s.heap s.heap [] := va_S.rf
  have C0 : Cx p s m [.ref a.1, .int p0].toArray meth c cX4_oneStep 3 (some .int) wsX4_oneStep RX4 A dC dI y := ⟨hx, hb, hr, hml, hown, hts, hlocks, hA, hK⟩
  have w15 := hts (Cond.fieldLink RX4 15 "SharedWire" "state" "I") (List.mem_of_getElem? (i := 1) rfl)
  have hinX4 : ∀ w ∈ wsX40, w ∈ wsX4_oneStep := fun w h => List.mem_cons_of_mem _ (List.mem_append_left _ (List.mem_append_left _ (List.mem_append_left _ (List.mem_append_left _ (List.mem_append_right _ (h))))))
  have hl := lv_entry ([.ref a.1, .int p0]) (n := 3) (Nat.le_of_ble_eq_true rfl)
  rw [lg_entry_eq]
  generalize (lg_sl ([.ref a.1, .int p0]) ++ List.replicate (3 - (lg_sl ([.ref a.1, .int p0])).length) Slot.unset).toArray = ls at hl ⊢
  have hl : lv_has ls 3 [(0, .ref a.1), (1, .int p0)] := hl
  obtain ⟨state, left, tapeLen, tapeB, tLine, tReader, nodes⟩ := S
  clear hAe hD0
  generalize hL0 : ([] : List Loc) = locs at hS ⊢
  unfold wp_X4_oneStep at hf
  refine lv_aload_n hx hb dX4_oneStep_0 rfl (lv_at hl 0 rfl) ?_
  refine va_get (D := (dC, dI)) (ci := 4) (v := .int state) (C := RX4) (T := TX4) (N := 7) hx hb hts hinX4 hown hK.1 hP 0 rfl rfl 1 (by decide) w15 (fun _ h9 => h9) rfl dX4_oneStep_1 ?_
  refine lv_iconst (v := 2) hx hb dX4_oneStep_4 (by decide) ?_
  refine lv_icmp_ne (tgt := 13) hx hb dX4_oneStep_5 (by decide) (fun c1 => ?_) (fun c1 => ?_)
  · replace hf := hf.1 c1
    refine lv_aload_n hx hb dX4_oneStep_13 rfl (lv_at hl 0 rfl) ?_
    refine va_get (D := (dC, dI)) (ci := 4) (v := .int state) (C := RX4) (T := TX4) (N := 7) hx hb hts hinX4 hown hK.1 hP 0 rfl rfl 1 (by decide) w15 (fun _ h9 => h9) rfl dX4_oneStep_14 ?_
    refine lv_iconst (v := 3) hx hb dX4_oneStep_17 (by decide) ?_
    refine lv_icmp_ne (tgt := 26) hx hb dX4_oneStep_18 (by decide) (fun c2 => ?_) (fun c2 => ?_)
    · replace hf := hf.1 c2
      refine lv_aload_n hx hb dX4_oneStep_26 rfl (lv_at hl 0 rfl) ?_
      refine va_get (D := (dC, dI)) (ci := 4) (v := .int state) (C := RX4) (T := TX4) (N := 7) hx hb hts hinX4 hown hK.1 hP 0 rfl rfl 1 (by decide) w15 (fun _ h9 => h9) rfl dX4_oneStep_27 ?_
      refine lv_if_ne (tgt := 37) hx hb dX4_oneStep_30 (by decide) (fun c3 => ?_) (fun c3 => ?_)
      · replace hf := hf.1 c3
        exact j_X4_oneStep_37 C0 a K (state, left, tapeLen, tapeB, tLine, tReader, nodes) gs p0 s.heap locs ls hP hD hS (lv_sub hl [0, 1] rfl) hf
      · replace hf := hf.2 c3
        refine lv_aload_n hx hb dX4_oneStep_33 rfl (lv_at hl 0 rfl) ?_
        refine k0v (As := []) (rest := []) ⟨hx, hb, hml, hown, hts⟩ (c_X4_startSenders l dC dI y a gs s.heap.size (state, left, tapeLen, tapeB, tLine, tReader, nodes) _ hf) (cwV 0 hts gX4_oneStep_X4_startSenders rfl rfl rfl (by decide +kernel) ⟨Nat.le_of_ble_eq_true rfl, Nat.le_of_ble_eq_true rfl⟩) hK hP hD (va_recv hK.1 hP (ci := 4) (q0 := 0) rfl rfl) hS hA rfl hl.1 rfl (Nat.le_of_ble_eq_true rfl) dX4_oneStep_34 ⟨Nat.zero_le _, Nat.zero_le _⟩ (fun u11 H locs hf hP hD hS => ?_)
        have hP : va_P (dC, dI) vwCl (wrW y a gs u11) H := hP
        have hD : va_D A (wrW y a gs u11) := hD
        exact j_X4_oneStep_37 C0 a K u11 gs p0 H locs ls hP hD hS (lv_sub hl [0, 1] rfl) hf
    · replace hf := hf.2 c2
      refine lv_aload_n hx hb dX4_oneStep_21 rfl (lv_at hl 0 rfl) ?_
      refine k0i (As := []) (rest := []) ⟨hx, hb, hml, hown, hts⟩ (c_X4_pauseStep l dC dI y a gs s.heap.size (state, left, tapeLen, tapeB, tLine, tReader, nodes) _ hf) (cwV 0 hts gX4_oneStep_X4_pauseStep rfl rfl rfl (by decide +kernel) ⟨Nat.le_of_ble_eq_true rfl, Nat.le_of_ble_eq_true rfl⟩) hK hP hD (va_recv hK.1 hP (ci := 4) (q0 := 0) rfl rfl) hS hA rfl hl.1 rfl (Nat.le_of_ble_eq_true rfl) dX4_oneStep_22 ⟨Nat.zero_le _, Nat.zero_le _⟩ (fun r12 u13 H locs hf hP hD hS => ?_)
      have hP : va_P (dC, dI) vwCl (wrW y a gs u13) H := hP
      have hD : va_D A (wrW y a gs u13) := hD
      exact W.iret (v := r12) hx hb hr (fun t ht hW => ⟨⟨r12, (u13, gs), rfl, hf, by rw [ht]; exact hP, hD⟩, hS.F ht⟩) hS.2.2 dX4_oneStep_25
  · replace hf := hf.2 c1
    refine lv_aload_n hx hb dX4_oneStep_8 rfl (lv_at hl 0 rfl) ?_
    refine k0i (As := []) (rest := []) ⟨hx, hb, hml, hown, hts⟩ (c_X4_brokenStep l dC dI y a gs s.heap.size (state, left, tapeLen, tapeB, tLine, tReader, nodes) _ hf) (cwV 0 hts gX4_oneStep_X4_brokenStep rfl rfl rfl (by decide +kernel) ⟨Nat.le_of_ble_eq_true rfl, Nat.le_of_ble_eq_true rfl⟩) hK hP hD (va_recv hK.1 hP (ci := 4) (q0 := 0) rfl rfl) hS hA rfl hl.1 rfl (Nat.le_of_ble_eq_true rfl) dX4_oneStep_9 ⟨Nat.zero_le _, Nat.zero_le _⟩ (fun r14 u15 H locs hf hP hD hS => ?_)
    have hP : va_P (dC, dI) vwCl (wrW y a gs u15) H := hP
    have hD : va_D A (wrW y a gs u15) := hD
    exact W.iret (v := r14) hx hb hr (fun t ht hW => ⟨⟨r14, (u15, gs), rfl, hf, by rw [ht]; exact hP, hD⟩, hS.F ht⟩) hS.2.2 dX4_oneStep_12
