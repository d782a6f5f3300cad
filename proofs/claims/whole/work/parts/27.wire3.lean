def wp_X4_want_52 (K : Int32 → WireS → Prop) (KE : String → WireS → Prop) : WireS → Prop := fun (state, left, tapeLen, tapeB, tLine, tReader, nodes) => KE "java/lang/IllegalArgumentException" (state, left, tapeLen, tapeB, tLine, tReader, nodes)
def wp_X4_want_26 (K : Int32 → WireS → Prop) (KE : String → WireS → Prop) : WireS → Int32 → Int32 → Int32 → Int64 → Int32 → Int32 → Prop := fun (state, left, tapeLen, tapeB, tLine, tReader, nodes) v1 v2 v3 v4 v6 k0 => ((v3 < 0 → wp_X4_want_52 K KE (state, left, tapeLen, tapeB, tLine, tReader, nodes)) ∧ (¬ v3 < 0 → ((1 <<< (k0 &&& 31) ≤ v3 → wp_X4_want_52 K KE (state, left, tapeLen, tapeB, tLine, tReader, nodes)) ∧ (¬ 1 <<< (k0 &&& 31) ≤ v3 → ((v6 < 0 → wp_X4_want_52 K KE (state, left, tapeLen, tapeB, tLine, tReader, nodes)) ∧ (¬ v6 < 0 → ((v6 ≤ 8 → (vp_in v1 4 ∧ (v1 = 0 → (((nodes 0).2.2.1 < 4 → wp_X2_addWanted (nodes 0) v2 v3 v4 v6 (fun u9 => K u9.2.2.1 (state, left, tapeLen, tapeB, tLine, tReader, va_up nodes 0 u9))) ∧ (¬ (nodes 0).2.2.1 < 4 → KE "java/lang/UnsupportedOperationException" (state, left, tapeLen, tapeB, tLine, tReader, nodes)))) ∧ (v1 = 1 → (((nodes 1).2.2.1 < 4 → wp_X2_addWanted (nodes 1) v2 v3 v4 v6 (fun u11 => K u11.2.2.1 (state, left, tapeLen, tapeB, tLine, tReader, va_up nodes 1 u11))) ∧ (¬ (nodes 1).2.2.1 < 4 → KE "java/lang/UnsupportedOperationException" (state, left, tapeLen, tapeB, tLine, tReader, nodes)))) ∧ (v1 = 2 → (((nodes 2).2.2.1 < 4 → wp_X2_addWanted (nodes 2) v2 v3 v4 v6 (fun u13 => K u13.2.2.1 (state, left, tapeLen, tapeB, tLine, tReader, va_up nodes 2 u13))) ∧ (¬ (nodes 2).2.2.1 < 4 → KE "java/lang/UnsupportedOperationException" (state, left, tapeLen, tapeB, tLine, tReader, nodes)))) ∧ (v1 = 3 → (((nodes 3).2.2.1 < 4 → wp_X2_addWanted (nodes 3) v2 v3 v4 v6 (fun u15 => K u15.2.2.1 (state, left, tapeLen, tapeB, tLine, tReader, va_up nodes 3 u15))) ∧ (¬ (nodes 3).2.2.1 < 4 → KE "java/lang/UnsupportedOperationException" (state, left, tapeLen, tapeB, tLine, tReader, nodes)))))) ∧ (¬ v6 ≤ 8 → wp_X4_want_52 K KE (state, left, tapeLen, tapeB, tLine, tReader, nodes)))))))))
def wp_X4_want : WireS → Int32 → Int32 → Int32 → Int64 → Int32 → (Int32 → WireS → Prop) → (String → WireS → Prop) → Prop := fun (state, left, tapeLen, tapeB, tLine, tReader, nodes) p0 p1 p2 p3 p4 K KE => wp_X4_isNode p0 (fun r1 => ((¬ r1 = 0 → ((p1 = 0 → wp_X4_want_26 K KE (state, left, tapeLen, tapeB, tLine, tReader, nodes) p0 p1 p2 p3 p4 11) ∧ (¬ p1 = 0 → wp_X4_want_26 K KE (state, left, tapeLen, tapeB, tLine, tReader, nodes) p0 p1 p2 p3 p4 29))) ∧ (r1 = 0 → KE "java/lang/IndexOutOfBoundsException" (state, left, tapeLen, tapeB, tLine, tReader, nodes))))
set_option maxHeartbeats 4000000 in
set_option maxRecDepth 100000 in
theorem j_X4_want_52 {p : Program} {l : Launch} {e : Env} {s : State} {m : MethodId} {args : Array Value} {below : List Frame} {meth : Method} {c : Code} {dC : Nat → ClassId} {dI : Nat → Nat → Nat} {y : Nat → ClassId} {A : Nat → Prop} (C0 : Cx p s m args meth c cX4_want 9 (some .int) wsX4_want RX4 A dC dI y) (a : WireA) (gs : Nat → Nat → Nat) (K : Int32 → WireS → Prop) (KE : String → WireS → Prop) (hst : l.stackTraces = false) (hexc : ∀ x ∈ c.exceptionTable.toList, False) (hXW : XW s) (hZ : ZW A s s.heap) : ∀ (S : WireS) (H : Heap) (locs : List Loc) (ls : Array Slot), va_P (dC, dI) vwCl (wrW y a gs S) H → va_D A (wrW y a gs S) → va_S A s.heap H locs → lv_has ls 9 [] → wp_X4_want_52 K KE S → W p l e ({ frames := 6, cells := 1, slots := 6, locals := 89 } : Room) s m args below meth c H locs 0 0 (vx_MQ below (va_Qi K (BW dC dI A (fun u => wrW y a gs u)) A) (XE dC dI A (fun u => wrW y a gs u) KE) args s 1 6 A) (F0 m 52 ls []) := by
  obtain ⟨hx, hb, hr, hml, hown, hts, hlocks, hA, hK⟩ := id C0
  have w51 := hts (Cond.classLink RX4 51 "java/lang/IllegalArgumentException") (List.mem_of_getElem? (i := 3) rfl)
  intro S H locs ls hP hD hS hl hf
  obtain ⟨state, left, tapeLen, tapeB, tLine, tReader, nodes⟩ := S
  unfold wp_X4_want_52 at hf
  exact vx_throw0 (own := RX4) (cls := "java/lang/IllegalArgumentException") (names := exN) (ik := 51) (ic := 53) hx hb hst hown (by decide +kernel) (by decide +kernel) w51 (hts (.initialized "java/lang/IllegalArgumentException") (List.mem_of_getElem? (i := 4) rfl)) (hat_53 (fun w h => hts w (List.mem_cons_of_mem _ (List.mem_append_left _ (List.mem_append_right _ (h))))) hXW) got_53 hZ.1 hZ.2 hS (hl.1.trans hml.symm) dX4_want_52 dX4_want_55 dX4_want_56 dX4_want_59 (fun x h => (hexc x h).elim) (Nat.le_of_ble_eq_true rfl) (Nat.le_of_ble_eq_true rfl) (Nat.le_of_ble_eq_true rfl) (Nat.le_of_ble_eq_true rfl) hlocks (fun t hvm hz hk => xe_of (state, left, tapeLen, tapeB, tLine, tReader, nodes) hf hP hD hS hz hk) hS.2.2 (Nat.le_refl _) (Nat.le_refl _)
set_option maxHeartbeats 4000000 in
set_option maxRecDepth 100000 in
theorem j_X4_want_26 {p : Program} {l : Launch} {e : Env} {s : State} {m : MethodId} {args : Array Value} {below : List Frame} {meth : Method} {c : Code} {dC : Nat → ClassId} {dI : Nat → Nat → Nat} {y : Nat → ClassId} {A : Nat → Prop} (C0 : Cx p s m args meth c cX4_want 9 (some .int) wsX4_want RX4 A dC dI y) (a : WireA) (gs : Nat → Nat → Nat) (K : Int32 → WireS → Prop) (KE : String → WireS → Prop) (hst : l.stackTraces = false) (hexc : ∀ x ∈ c.exceptionTable.toList, False) (hXW : XW s) (hZ : ZW A s s.heap) : ∀ (S : WireS) (v1 : Int32) (v2 : Int32) (v3 : Int32) (v4 : Int64) (v6 : Int32) (k0 : Int32) (H : Heap) (locs : List Loc) (ls : Array Slot), va_P (dC, dI) vwCl (wrW y a gs S) H → va_D A (wrW y a gs S) → va_S A s.heap H locs → lv_has ls 9 [(0, .ref a.1), (1, .int v1), (2, .int v2), (3, .int v3), (4, .long v4), (6, .int v6)] → wp_X4_want_26 K KE S v1 v2 v3 v4 v6 k0 → W p l e ({ frames := 6, cells := 1, slots := 6, locals := 89 } : Room) s m args below meth c H locs 0 0 (vx_MQ below (va_Qi K (BW dC dI A (fun u => wrW y a gs u)) A) (XE dC dI A (fun u => wrW y a gs u) KE) args s 1 6 A) (F0 m 26 ls [.int k0]) := by
  obtain ⟨hx, hb, hr, hml, hown, hts, hlocks, hA, hK⟩ := id C0
  have w11 := hts (Cond.fieldLink RX4 11 "SharedWire" "nodes" "[LSharedWire$Node;") (List.mem_of_getElem? (i := 7) rfl)
  have w54 := hts (Cond.fieldLink RX4 54 "SharedWire$Node" "wants" "I") (List.mem_of_getElem? (i := 8) rfl)
  have w57 := hts (Cond.classLink RX4 57 "java/lang/UnsupportedOperationException") (List.mem_of_getElem? (i := 5) rfl)
  have hinX2 : ∀ w ∈ wsX20, w ∈ wsX4_want := fun w h => List.mem_cons_of_mem _ (List.mem_append_left _ (List.mem_append_left _ (List.mem_append_left _ (List.mem_append_left _ (List.mem_append_right _ (h))))))
  have hinX4 : ∀ w ∈ wsX40, w ∈ wsX4_want := fun w h => List.mem_cons_of_mem _ (List.mem_append_left _ (List.mem_append_left _ (List.mem_append_left _ (List.mem_append_left _ (List.mem_append_left _ (List.mem_append_right _ (h)))))))
  intro S v1 v2 v3 v4 v6 k0 H locs ls hP hD hS hl hf
  obtain ⟨state, left, tapeLen, tapeB, tLine, tReader, nodes⟩ := S
  unfold wp_X4_want_26 at hf
  refine lv_istore (lv' := [(7, .int k0), (0, .ref a.1), (1, .int v1), (2, .int v2), (3, .int v3), (4, .long v4), (6, .int v6)]) hx hb dX4_want_26 hl (by decide) rfl (fun ls hl => ?_)
  refine lv_iload_n hx hb dX4_want_28 rfl (lv_at hl 4 rfl) ?_
  refine lv_if_lt (tgt := 52) hx hb dX4_want_29 (by decide) (fun c4 => ?_) (fun c4 => ?_)
  · replace hf := hf.1 c4
    exact j_X4_want_52 C0 a gs K KE hst hexc hXW hZ (state, left, tapeLen, tapeB, tLine, tReader, nodes) H locs ls hP hD hS (lv_sub hl [] rfl) hf
  · replace hf := hf.2 c4
    refine lv_iload_n hx hb dX4_want_32 rfl (lv_at hl 4 rfl) ?_
    refine lv_iconst (v := 1) hx hb dX4_want_33 (by decide) ?_
    refine lv_iload hx hb dX4_want_34 (lv_at hl 0 rfl) ?_
    refine lv_ishl hx hb dX4_want_36 ?_
    refine lv_icmp_ge (tgt := 52) hx hb dX4_want_37 (by decide) (fun c5 => ?_) (fun c5 => ?_)
    · replace hf := hf.1 c5
      exact j_X4_want_52 C0 a gs K KE hst hexc hXW hZ (state, left, tapeLen, tapeB, tLine, tReader, nodes) H locs ls hP hD hS (lv_sub hl [] rfl) hf
    · replace hf := hf.2 c5
      refine lv_iload hx hb dX4_want_40 (lv_at hl 6 rfl) ?_
      refine lv_if_lt (tgt := 52) hx hb dX4_want_42 (by decide) (fun c6 => ?_) (fun c6 => ?_)
      · replace hf := hf.1 c6
        exact j_X4_want_52 C0 a gs K KE hst hexc hXW hZ (state, left, tapeLen, tapeB, tLine, tReader, nodes) H locs ls hP hD hS (lv_sub hl [] rfl) hf
      · replace hf := hf.2 c6
        refine lv_iload hx hb dX4_want_45 (lv_at hl 6 rfl) ?_
        refine lv_bipush (v := 8) hx hb dX4_want_47 (by decide) ?_
        refine lv_icmp_le (tgt := 60) hx hb dX4_want_49 (by decide) (fun c7 => ?_) (fun c7 => ?_)
        · replace hf := hf.1 c7
          refine lv_aload_n hx hb dX4_want_60 rfl (lv_at hl 1 rfl) ?_
          refine va_get (D := (dC, dI)) (ci := 4) (v := .ref a.2.1) (C := RX4) (T := TX4) (N := 7) hx hb hts hinX4 hown hK.1 hP 0 rfl rfl 0 (by decide) w11 (fun _ h9 => h9) rfl dX4_want_61 ?_
          refine lv_iload_n hx hb dX4_want_64 rfl (lv_at hl 2 rfl) ?_
          obtain ⟨hg9, hf0, hf1, hf2, hf3⟩ := hf
          rcases vin4 hg9 with e9 | e9 | e9 | e9
          · replace hf := hf0 e9
            subst e9
            refine ar_qld (j := 0) hx hb hK.1 hP 1 4 rfl rfl (clamp_lit 0 rfl) (vin_lit 0 4 rfl rfl) dX4_want_65 ?_
            refine lv_astore (lv' := [(8, .ref ((a.2.2.2.2.2 0).1)), (7, .int k0), (0, .ref a.1), (1, .int 0), (2, .int v2), (3, .int v3), (4, .long v4), (6, .int v6)]) hx hb dX4_want_66 hl (by decide) rfl (fun ls hl => ?_)
            refine lv_aload hx hb dX4_want_68 (lv_at hl 0 rfl) ?_
            refine va_get (D := (dC, dI)) (ci := 2) (v := .int ((nodes 0).2.2.1)) (C := RX2) (T := TX2) (N := 15) hx hb hts hinX2 hown hK.1 hP 8 rfl rfl 6 (by decide) w54 (fun _ h9 => h9) rfl dX4_want_70 ?_
            refine lv_iconst (v := 4) hx hb dX4_want_73 (by decide) ?_
            refine lv_icmp_lt (tgt := 85) hx hb dX4_want_74 (by decide) (fun c8 => ?_) (fun c8 => ?_)
            · replace hf := hf.1 c8
              refine lv_aload hx hb dX4_want_85 (lv_at hl 0 rfl) ?_
              refine lv_iload_n hx hb dX4_want_87 rfl (lv_at hl 4 rfl) ?_
              refine lv_iload_n hx hb dX4_want_88 rfl (lv_at hl 5 rfl) ?_
              refine lv_lload hx hb dX4_want_89 (lv_at hl 6 rfl) ?_
              refine lv_iload hx hb dX4_want_91 (lv_at hl 7 rfl) ?_
              refine kVv (As := [.int v2, .int v3, .long v4, .int v6]) (rest := []) (pre := (wrW y a gs (state, left, tapeLen, tapeB, tLine, tReader, nodes)).take 8) (post := (wrW y a gs (state, left, tapeLen, tapeB, tLine, tReader, nodes)).drop 20) ⟨hx, hb, hml, hown, hts⟩ (c_X2_addWanted l dC dI y (aw (a.2.2.2.2.2 0) (gs 0)) H.size (nodes 0) v2 v3 v4 v6 _ hf) (cwV 4 hts gX4_want_X2_addWanted rfl rfl rfl (by decide +kernel) ⟨Nat.le_of_ble_eq_true rfl, Nat.le_of_ble_eq_true rfl⟩) hK hP hD (va_recv hK.1 hP (ci := 2) (q0 := 8) rfl rfl) hS hA rfl hl.1 rfl (Nat.le_of_ble_eq_true rfl) dX4_want_93 ⟨Nat.zero_le _, Nat.zero_le _⟩ (fun u9 H locs hf hP hD hS => ?_)
              have hP : va_P (dC, dI) vwCl (wrW y a gs (state, left, tapeLen, tapeB, tLine, tReader, va_up nodes 0 u9)) H := hP
              have hD : va_D A (wrW y a gs (state, left, tapeLen, tapeB, tLine, tReader, va_up nodes 0 u9)) := hD
              refine lv_aload hx hb dX4_want_96 (lv_at hl 0 rfl) ?_
              refine va_get (D := (dC, dI)) (ci := 2) (v := .int u9.2.2.1) (C := RX2) (T := TX2) (N := 15) hx hb hts hinX2 hown hK.1 hP 8 rfl rfl 6 (by decide) w54 (fun _ h9 => h9) rfl dX4_want_98 ?_
              refine vx_ret (W.widen (k := 1) (n := 6) (Nat.zero_le _) (Nat.zero_le _) ?_)
              exact W.iret (v := u9.2.2.1) hx hb hr (fun t ht hW => ⟨⟨u9.2.2.1, (state, left, tapeLen, tapeB, tLine, tReader, va_up nodes 0 u9), rfl, hf, by rw [ht]; exact hP, hD⟩, hS.F ht⟩) hS.2.2 dX4_want_101
            · replace hf := hf.2 c8
              exact vx_throw0 (own := RX4) (cls := "java/lang/UnsupportedOperationException") (names := exN) (ik := 57) (ic := 59) hx hb hst hown (by decide +kernel) (by decide +kernel) w57 (hts (.initialized "java/lang/UnsupportedOperationException") (List.mem_of_getElem? (i := 6) rfl)) (hat_59 (fun w h => hts w (List.mem_cons_of_mem _ (List.mem_append_right _ (h)))) hXW) got_59 hZ.1 hZ.2 hS (hl.1.trans hml.symm) dX4_want_77 dX4_want_80 dX4_want_81 dX4_want_84 (fun x h => (hexc x h).elim) (Nat.le_of_ble_eq_true rfl) (Nat.le_of_ble_eq_true rfl) (Nat.le_of_ble_eq_true rfl) (Nat.le_of_ble_eq_true rfl) hlocks (fun t hvm hz hk => xe_of (state, left, tapeLen, tapeB, tLine, tReader, nodes) hf hP hD hS hz hk) hS.2.2 (Nat.le_refl _) (Nat.le_refl _)
          · replace hf := hf1 e9
            subst e9
            refine ar_qld (j := 1) hx hb hK.1 hP 1 4 rfl rfl (clamp_lit 1 rfl) (vin_lit 1 4 rfl rfl) dX4_want_65 ?_
            refine lv_astore (lv' := [(8, .ref ((a.2.2.2.2.2 1).1)), (7, .int k0), (0, .ref a.1), (1, .int 1), (2, .int v2), (3, .int v3), (4, .long v4), (6, .int v6)]) hx hb dX4_want_66 hl (by decide) rfl (fun ls hl => ?_)
            refine lv_aload hx hb dX4_want_68 (lv_at hl 0 rfl) ?_
            refine va_get (D := (dC, dI)) (ci := 2) (v := .int ((nodes 1).2.2.1)) (C := RX2) (T := TX2) (N := 15) hx hb hts hinX2 hown hK.1 hP 20 rfl rfl 6 (by decide) w54 (fun _ h9 => h9) rfl dX4_want_70 ?_
            refine lv_iconst (v := 4) hx hb dX4_want_73 (by decide) ?_
            refine lv_icmp_lt (tgt := 85) hx hb dX4_want_74 (by decide) (fun c10 => ?_) (fun c10 => ?_)
            · replace hf := hf.1 c10
              refine lv_aload hx hb dX4_want_85 (lv_at hl 0 rfl) ?_
              refine lv_iload_n hx hb dX4_want_87 rfl (lv_at hl 4 rfl) ?_
              refine lv_iload_n hx hb dX4_want_88 rfl (lv_at hl 5 rfl) ?_
              refine lv_lload hx hb dX4_want_89 (lv_at hl 6 rfl) ?_
              refine lv_iload hx hb dX4_want_91 (lv_at hl 7 rfl) ?_
              refine kVv (As := [.int v2, .int v3, .long v4, .int v6]) (rest := []) (pre := (wrW y a gs (state, left, tapeLen, tapeB, tLine, tReader, nodes)).take 20) (post := (wrW y a gs (state, left, tapeLen, tapeB, tLine, tReader, nodes)).drop 32) ⟨hx, hb, hml, hown, hts⟩ (c_X2_addWanted l dC dI y (aw (a.2.2.2.2.2 1) (gs 1)) H.size (nodes 1) v2 v3 v4 v6 _ hf) (cwV 4 hts gX4_want_X2_addWanted rfl rfl rfl (by decide +kernel) ⟨Nat.le_of_ble_eq_true rfl, Nat.le_of_ble_eq_true rfl⟩) hK hP hD (va_recv hK.1 hP (ci := 2) (q0 := 20) rfl rfl) hS hA rfl hl.1 rfl (Nat.le_of_ble_eq_true rfl) dX4_want_93 ⟨Nat.zero_le _, Nat.zero_le _⟩ (fun u11 H locs hf hP hD hS => ?_)
              have hP : va_P (dC, dI) vwCl (wrW y a gs (state, left, tapeLen, tapeB, tLine, tReader, va_up nodes 1 u11)) H := hP
              have hD : va_D A (wrW y a gs (state, left, tapeLen, tapeB, tLine, tReader, va_up nodes 1 u11)) := hD
              refine lv_aload hx hb dX4_want_96 (lv_at hl 0 rfl) ?_
              refine va_get (D := (dC, dI)) (ci := 2) (v := .int u11.2.2.1) (C := RX2) (T := TX2) (N := 15) hx hb hts hinX2 hown hK.1 hP 20 rfl rfl 6 (by decide) w54 (fun _ h9 => h9) rfl dX4_want_98 ?_
              refine vx_ret (W.widen (k := 1) (n := 6) (Nat.zero_le _) (Nat.zero_le _) ?_)
              exact W.iret (v := u11.2.2.1) hx hb hr (fun t ht hW => ⟨⟨u11.2.2.1, (state, left, tapeLen, tapeB, tLine, tReader, va_up nodes 1 u11), rfl, hf, by rw [ht]; exact hP, hD⟩, hS.F ht⟩) hS.2.2 dX4_want_101
            · replace hf := hf.2 c10
              exact vx_throw0 (own := RX4) (cls := "java/lang/UnsupportedOperationException") (names := exN) (ik := 57) (ic := 59) hx hb hst hown (by decide +kernel) (by decide +kernel) w57 (hts (.initialized "java/lang/UnsupportedOperationException") (List.mem_of_getElem? (i := 6) rfl)) (hat_59 (fun w h => hts w (List.mem_cons_of_mem _ (List.mem_append_right _ (h)))) hXW) got_59 hZ.1 hZ.2 hS (hl.1.trans hml.symm) dX4_want_77 dX4_want_80 dX4_want_81 dX4_want_84 (fun x h => (hexc x h).elim) (Nat.le_of_ble_eq_true rfl) (Nat.le_of_ble_eq_true rfl) (Nat.le_of_ble_eq_true rfl) (Nat.le_of_ble_eq_true rfl) hlocks (fun t hvm hz hk => xe_of (state, left, tapeLen, tapeB, tLine, tReader, nodes) hf hP hD hS hz hk) hS.2.2 (Nat.le_refl _) (Nat.le_refl _)
          · replace hf := hf2 e9
            subst e9
            refine ar_qld (j := 2) hx hb hK.1 hP 1 4 rfl rfl (clamp_lit 2 rfl) (vin_lit 2 4 rfl rfl) dX4_want_65 ?_
            refine lv_astore (lv' := [(8, .ref ((a.2.2.2.2.2 2).1)), (7, .int k0), (0, .ref a.1), (1, .int 2), (2, .int v2), (3, .int v3), (4, .long v4), (6, .int v6)]) hx hb dX4_want_66 hl (by decide) rfl (fun ls hl => ?_)
            refine lv_aload hx hb dX4_want_68 (lv_at hl 0 rfl) ?_
            refine va_get (D := (dC, dI)) (ci := 2) (v := .int ((nodes 2).2.2.1)) (C := RX2) (T := TX2) (N := 15) hx hb hts hinX2 hown hK.1 hP 32 rfl rfl 6 (by decide) w54 (fun _ h9 => h9) rfl dX4_want_70 ?_
            refine lv_iconst (v := 4) hx hb dX4_want_73 (by decide) ?_
            refine lv_icmp_lt (tgt := 85) hx hb dX4_want_74 (by decide) (fun c12 => ?_) (fun c12 => ?_)
            · replace hf := hf.1 c12
              refine lv_aload hx hb dX4_want_85 (lv_at hl 0 rfl) ?_
              refine lv_iload_n hx hb dX4_want_87 rfl (lv_at hl 4 rfl) ?_
              refine lv_iload_n hx hb dX4_want_88 rfl (lv_at hl 5 rfl) ?_
              refine lv_lload hx hb dX4_want_89 (lv_at hl 6 rfl) ?_
              refine lv_iload hx hb dX4_want_91 (lv_at hl 7 rfl) ?_
              refine kVv (As := [.int v2, .int v3, .long v4, .int v6]) (rest := []) (pre := (wrW y a gs (state, left, tapeLen, tapeB, tLine, tReader, nodes)).take 32) (post := (wrW y a gs (state, left, tapeLen, tapeB, tLine, tReader, nodes)).drop 44) ⟨hx, hb, hml, hown, hts⟩ (c_X2_addWanted l dC dI y (aw (a.2.2.2.2.2 2) (gs 2)) H.size (nodes 2) v2 v3 v4 v6 _ hf) (cwV 4 hts gX4_want_X2_addWanted rfl rfl rfl (by decide +kernel) ⟨Nat.le_of_ble_eq_true rfl, Nat.le_of_ble_eq_true rfl⟩) hK hP hD (va_recv hK.1 hP (ci := 2) (q0 := 32) rfl rfl) hS hA rfl hl.1 rfl (Nat.le_of_ble_eq_true rfl) dX4_want_93 ⟨Nat.zero_le _, Nat.zero_le _⟩ (fun u13 H locs hf hP hD hS => ?_)
              have hP : va_P (dC, dI) vwCl (wrW y a gs (state, left, tapeLen, tapeB, tLine, tReader, va_up nodes 2 u13)) H := hP
              have hD : va_D A (wrW y a gs (state, left, tapeLen, tapeB, tLine, tReader, va_up nodes 2 u13)) := hD
              refine lv_aload hx hb dX4_want_96 (lv_at hl 0 rfl) ?_
              refine va_get (D := (dC, dI)) (ci := 2) (v := .int u13.2.2.1) (C := RX2) (T := TX2) (N := 15) hx hb hts hinX2 hown hK.1 hP 32 rfl rfl 6 (by decide) w54 (fun _ h9 => h9) rfl dX4_want_98 ?_
              refine vx_ret (W.widen (k := 1) (n := 6) (Nat.zero_le _) (Nat.zero_le _) ?_)
              exact W.iret (v := u13.2.2.1) hx hb hr (fun t ht hW => ⟨⟨u13.2.2.1, (state, left, tapeLen, tapeB, tLine, tReader, va_up nodes 2 u13), rfl, hf, by rw [ht]; exact hP, hD⟩, hS.F ht⟩) hS.2.2 dX4_want_101
            · replace hf := hf.2 c12
              exact vx_throw0 (own := RX4) (cls := "java/lang/UnsupportedOperationException") (names := exN) (ik := 57) (ic := 59) hx hb hst hown (by decide +kernel) (by decide +kernel) w57 (hts (.initialized "java/lang/UnsupportedOperationException") (List.mem_of_getElem? (i := 6) rfl)) (hat_59 (fun w h => hts w (List.mem_cons_of_mem _ (List.mem_append_right _ (h)))) hXW) got_59 hZ.1 hZ.2 hS (hl.1.trans hml.symm) dX4_want_77 dX4_want_80 dX4_want_81 dX4_want_84 (fun x h => (hexc x h).elim) (Nat.le_of_ble_eq_true rfl) (Nat.le_of_ble_eq_true rfl) (Nat.le_of_ble_eq_true rfl) (Nat.le_of_ble_eq_true rfl) hlocks (fun t hvm hz hk => xe_of (state, left, tapeLen, tapeB, tLine, tReader, nodes) hf hP hD hS hz hk) hS.2.2 (Nat.le_refl _) (Nat.le_refl _)
          · replace hf := hf3 e9
            subst e9
            refine ar_qld (j := 3) hx hb hK.1 hP 1 4 rfl rfl (clamp_lit 3 rfl) (vin_lit 3 4 rfl rfl) dX4_want_65 ?_
            refine lv_astore (lv' := [(8, .ref ((a.2.2.2.2.2 3).1)), (7, .int k0), (0, .ref a.1), (1, .int 3), (2, .int v2), (3, .int v3), (4, .long v4), (6, .int v6)]) hx hb dX4_want_66 hl (by decide) rfl (fun ls hl => ?_)
            refine lv_aload hx hb dX4_want_68 (lv_at hl 0 rfl) ?_
            refine va_get (D := (dC, dI)) (ci := 2) (v := .int ((nodes 3).2.2.1)) (C := RX2) (T := TX2) (N := 15) hx hb hts hinX2 hown hK.1 hP 44 rfl rfl 6 (by decide) w54 (fun _ h9 => h9) rfl dX4_want_70 ?_
            refine lv_iconst (v := 4) hx hb dX4_want_73 (by decide) ?_
            refine lv_icmp_lt (tgt := 85) hx hb dX4_want_74 (by decide) (fun c14 => ?_) (fun c14 => ?_)
            · replace hf := hf.1 c14
              refine lv_aload hx hb dX4_want_85 (lv_at hl 0 rfl) ?_
              refine lv_iload_n hx hb dX4_want_87 rfl (lv_at hl 4 rfl) ?_
              refine lv_iload_n hx hb dX4_want_88 rfl (lv_at hl 5 rfl) ?_
              refine lv_lload hx hb dX4_want_89 (lv_at hl 6 rfl) ?_
              refine lv_iload hx hb dX4_want_91 (lv_at hl 7 rfl) ?_
              refine kVv (As := [.int v2, .int v3, .long v4, .int v6]) (rest := []) (pre := (wrW y a gs (state, left, tapeLen, tapeB, tLine, tReader, nodes)).take 44) (post := (wrW y a gs (state, left, tapeLen, tapeB, tLine, tReader, nodes)).drop 56) ⟨hx, hb, hml, hown, hts⟩ (c_X2_addWanted l dC dI y (aw (a.2.2.2.2.2 3) (gs 3)) H.size (nodes 3) v2 v3 v4 v6 _ hf) (cwV 4 hts gX4_want_X2_addWanted rfl rfl rfl (by decide +kernel) ⟨Nat.le_of_ble_eq_true rfl, Nat.le_of_ble_eq_true rfl⟩) hK hP hD (va_recv hK.1 hP (ci := 2) (q0 := 44) rfl rfl) hS hA rfl hl.1 rfl (Nat.le_of_ble_eq_true rfl) dX4_want_93 ⟨Nat.zero_le _, Nat.zero_le _⟩ (fun u15 H locs hf hP hD hS => ?_)
              have hP : va_P (dC, dI) vwCl (wrW y a gs (state, left, tapeLen, tapeB, tLine, tReader, va_up nodes 3 u15)) H := hP
              have hD : va_D A (wrW y a gs (state, left, tapeLen, tapeB, tLine, tReader, va_up nodes 3 u15)) := hD
              refine lv_aload hx hb dX4_want_96 (lv_at hl 0 rfl) ?_
              refine va_get (D := (dC, dI)) (ci := 2) (v := .int u15.2.2.1) (C := RX2) (T := TX2) (N := 15) hx hb hts hinX2 hown hK.1 hP 44 rfl rfl 6 (by decide) w54 (fun _ h9 => h9) rfl dX4_want_98 ?_
              refine vx_ret (W.widen (k := 1) (n := 6) (Nat.zero_le _) (Nat.zero_le _) ?_)
              exact W.iret (v := u15.2.2.1) hx hb hr (fun t ht hW => ⟨⟨u15.2.2.1, (state, left, tapeLen, tapeB, tLine, tReader, va_up nodes 3 u15), rfl, hf, by rw [ht]; exact hP, hD⟩, hS.F ht⟩) hS.2.2 dX4_want_101
            · replace hf := hf.2 c14
              exact vx_throw0 (own := RX4) (cls := "java/lang/UnsupportedOperationException") (names := exN) (ik := 57) (ic := 59) hx hb hst hown (by decide +kernel) (by decide +kernel) w57 (hts (.initialized "java/lang/UnsupportedOperationException") (List.mem_of_getElem? (i := 6) rfl)) (hat_59 (fun w h => hts w (List.mem_cons_of_mem _ (List.mem_append_right _ (h)))) hXW) got_59 hZ.1 hZ.2 hS (hl.1.trans hml.symm) dX4_want_77 dX4_want_80 dX4_want_81 dX4_want_84 (fun x h => (hexc x h).elim) (Nat.le_of_ble_eq_true rfl) (Nat.le_of_ble_eq_true rfl) (Nat.le_of_ble_eq_true rfl) (Nat.le_of_ble_eq_true rfl) hlocks (fun t hvm hz hk => xe_of (state, left, tapeLen, tapeB, tLine, tReader, nodes) hf hP hD hS hz hk) hS.2.2 (Nat.le_refl _) (Nat.le_refl _)
        · replace hf := hf.2 c7
          exact j_X4_want_52 C0 a gs K KE hst hexc hXW hZ (state, left, tapeLen, tapeB, tLine, tReader, nodes) H locs ls hP hD hS (lv_sub hl [] rfl) hf
set_option maxHeartbeats 4000000 in
set_option maxRecDepth 100000 in
theorem c_X4_want (l : Launch) (dC : Nat → ClassId) (dI : Nat → Nat → Nat) (y : Nat → ClassId) (a : WireA) (gs : Nat → Nat → Nat) (sz : Nat) (S : WireS) (p0 : Int32) (p1 : Int32) (p2 : Int32) (p3 : Int64) (p4 : Int32) (K : Int32 → WireS → Prop) (KE : String → WireS → Prop) (hst : l.stackTraces = false) (hf : wp_X4_want S p0 p1 p2 p3 p4 K KE) : MIX l yX4_want wsX4_want { frames := 6, cells := 1, slots := 6, locals := 89 } dC dI y [.ref a.1, .int p0, .int p1, .int p2, .long p3, .int p4] (wrW y a gs S) sz (fun u => wrW y a gs u) K KE := by
  refine vx_ofW (cc := cX4_want) (maxL := 9) (ret := (some .int)) (by decide) rfl ?_
  intro p e s m args below meth c s₁ B hml hexc hv
  obtain ⟨rfl, hsz, hP, hK, hXW, hZ, hD0⟩ := hv
  have hx := B.exec
  have hb := B.bytes
  have hr := B.returns
  have hts := atoms_spec (ws := wsX4_want) B.pre
  have hown : s.vm.findClass RX4 = some m.cls := findClass_of_methodNamed B.named
  have hlocks := B.notSynchronized
  subst hsz
  have hD := hD0.self (sz := s.heap.size)
  generalize hAe : va_A (wrW y a gs S) s.heap.size = A at hD hZ ⊢
  have hA : ∀ q : Nat, s.heap.size ≤ q → A q := fun q h => by rw [← hAe]; exact Or.inr h
  have hS : va_S A s.heap s.heap [] := va_S.rf
  have C0 : Cx p s m [.ref a.1, .int p0, .int p1, .int p2, .long p3, .int p4].toArray meth c cX4_want 9 (some .int) wsX4_want RX4 A dC dI y := ⟨hx, hb, hr, hml, hown, hts, hlocks, hA, hK⟩
  have w48 := hts (Cond.classLink RX4 48 "java/lang/IndexOutOfBoundsException") (List.mem_of_getElem? (i := 1) rfl)
  have hl := lv_entry ([.ref a.1, .int p0, .int p1, .int p2, .long p3, .int p4]) (n := 9) (Nat.le_of_ble_eq_true rfl)
  rw [lg_entry_eq]
  generalize (lg_sl ([.ref a.1, .int p0, .int p1, .int p2, .long p3, .int p4]) ++ List.replicate (9 - (lg_sl ([.ref a.1, .int p0, .int p1, .int p2, .long p3, .int p4])).length) Slot.unset).toArray = ls at hl ⊢
  have hl : lv_has ls 9 [(0, .ref a.1), (1, .int p0), (2, .int p1), (3, .int p2), (4, .long p3), (6, .int p4)] := hl
  obtain ⟨state, left, tapeLen, tapeB, tLine, tReader, nodes⟩ := S
  clear hAe hD0
  generalize hL0 : ([] : List Loc) = locs at hS ⊢
  unfold wp_X4_want at hf
  refine lv_iload_n hx hb dX4_want_0 rfl (lv_at hl 1 rfl) ?_
  refine kSi (As := [.int p0]) (rest := []) ⟨hx, hb, hml, hown, hts⟩ (c_X4_isNode l dC dI y s.heap.size p0 _ hf) (va_cwS 1 hts gX4_want_X4_isNode rfl rfl rfl (by decide +kernel) ⟨Nat.le_of_ble_eq_true rfl, Nat.le_of_ble_eq_true rfl⟩) hK hP hD hS hA rfl hl.1 rfl (Nat.le_of_ble_eq_true rfl) dX4_want_1 ⟨Nat.zero_le _, Nat.zero_le _⟩ (fun r1 H locs hf hP hD hS => ?_)
  refine lv_if_ne (tgt := 15) hx hb dX4_want_4 (by decide) (fun c2 => ?_) (fun c2 => ?_)
  · replace hf := hf.1 c2
    refine lv_iload_n hx hb dX4_want_15 rfl (lv_at hl 2 rfl) ?_
    refine lv_if_eq (tgt := 24) hx hb dX4_want_16 (by decide) (fun c3 => ?_) (fun c3 => ?_)
    · replace hf := hf.1 c3
      refine lv_bipush (v := 11) hx hb dX4_want_24 (by decide) ?_
      exact j_X4_want_26 C0 a gs K KE hst hexc hXW hZ (state, left, tapeLen, tapeB, tLine, tReader, nodes) p0 p1 p2 p3 p4 11 H locs ls hP hD hS (lv_sub hl [0, 1, 2, 3, 4, 5] rfl) hf
    · replace hf := hf.2 c3
      refine lv_bipush (v := 29) hx hb dX4_want_19 (by decide) ?_
      refine lv_goto (tgt := 26) hx hb dX4_want_21 (by decide) ?_
      exact j_X4_want_26 C0 a gs K KE hst hexc hXW hZ (state, left, tapeLen, tapeB, tLine, tReader, nodes) p0 p1 p2 p3 p4 29 H locs ls hP hD hS (lv_sub hl [0, 1, 2, 3, 4, 5] rfl) hf
  · replace hf := hf.2 c2
    exact vx_throw0 (own := RX4) (cls := "java/lang/IndexOutOfBoundsException") (names := exN) (ik := 48) (ic := 50) hx hb hst hown (by decide +kernel) (by decide +kernel) w48 (hts (.initialized "java/lang/IndexOutOfBoundsException") (List.mem_of_getElem? (i := 2) rfl)) (hat_50 (fun w h => hts w (List.mem_cons_of_mem _ (List.mem_append_left _ (List.mem_append_left _ (List.mem_append_right _ (h)))))) hXW) got_50 hZ.1 hZ.2 hS (hl.1.trans hml.symm) dX4_want_7 dX4_want_10 dX4_want_11 dX4_want_14 (fun x h => (hexc x h).elim) (Nat.le_of_ble_eq_true rfl) (Nat.le_of_ble_eq_true rfl) (Nat.le_of_ble_eq_true rfl) (Nat.le_of_ble_eq_true rfl) hlocks (fun t hvm hz hk => xe_of (state, left, tapeLen, tapeB, tLine, tReader, nodes) hf hP hD hS hz hk) hS.2.2 (Nat.le_refl _) (Nat.le_refl _)

def wp_X4_step_22 (K : Int32 → WireS → Prop) (KE : String → WireS → Prop) : WireS → Prop := fun (state, left, tapeLen, tapeB, tLine, tReader, nodes) => KE "java/lang/IllegalArgumentException" (state, left, tapeLen, tapeB, tLine, tReader, nodes)
def wp_X4_step_39 (K : Int32 → WireS → Prop) (KE : String → WireS → Prop) : Nat → WireS → Int32 → Int32 → Int32 → Prop
  | 0, _, _, _, _ => False
  | n + 1, (state, left, tapeLen, tapeB, tLine, tReader, nodes), v1, v3, v4 => ((v1 ≤ v4 → K v3 (state, left, tapeLen, tapeB, tLine, tReader, nodes)) ∧ (¬ v1 ≤ v4 → wp_X4_oneStep (state, left, tapeLen, tapeB, tLine, tReader, nodes) 0 (fun r8 u9 => (∀ n10 : Int32, n10 = v4 + 1 → wp_X4_step_39 K KE n u9 v1 r8 n10))))
def wp_X4_step : WireS → Int32 → Int32 → (Int32 → WireS → Prop) → (String → WireS → Prop) → Prop := fun (state, left, tapeLen, tapeB, tLine, tReader, nodes) p0 p1 K KE => ((p0 < 1 → wp_X4_step_22 K KE (state, left, tapeLen, tapeB, tLine, tReader, nodes)) ∧ (¬ p0 < 1 → ((200 < p0 → wp_X4_step_22 K KE (state, left, tapeLen, tapeB, tLine, tReader, nodes)) ∧ (¬ 200 < p0 → ((p1 < 0 → wp_X4_step_22 K KE (state, left, tapeLen, tapeB, tLine, tReader, nodes)) ∧ (¬ p1 < 0 → ((p1 ≤ 15 → wp_X4_oneStep (state, left, tapeLen, tapeB, tLine, tReader, nodes) p1 (fun r5 u6 => wp_X4_step_39 K KE 1000 u6 p0 r5 1)) ∧ (¬ p1 ≤ 15 → wp_X4_step_22 K KE (state, left, tapeLen, tapeB, tLine, tReader, nodes)))))))))
set_option maxHeartbeats 4000000 in
set_option maxRecDepth 100000 in
theorem j_X4_step_22 {p : Program} {l : Launch} {e : Env} {s : State} {m : MethodId} {args : Array Value} {below : List Frame} {meth : Method} {c : Code} {dC : Nat → ClassId} {dI : Nat → Nat → Nat} {y : Nat → ClassId} {A : Nat → Prop} (C0 : Cx p s m args meth c cX4_step 5 (some .int) wsX4_step RX4 A dC dI y) (a : WireA) (K : Int32 → WireS → Prop) (KE : String → WireS → Prop) (hst : l.stackTraces = false) (hexc : ∀ x ∈ c.exceptionTable.toList, False) (hXW : XW s) (hZ : ZW A s s.heap) : ∀ (S : WireS) (gs : Nat → Nat → Nat) (H : Heap) (locs : List Loc) (ls : Array Slot), va_P (dC, dI) vwCl (wrW y a gs S) H → va_D A (wrW y a gs S) → va_S A s.heap H locs → lv_has ls 5 [] → wp_X4_step_22 K KE S → W p l e ({ frames := 7, cells := 1, slots := 6, locals := 155 } : Room) s m args below meth c H locs 0 0 (vx_MQ below (va_Qi (fun r u => K r u.1) (BW dC dI A (fun u : WireS × (Nat → Nat → Nat) => wrW y a u.2 u.1)) A) (XE dC dI A (fun u : WireS × (Nat → Nat → Nat) => wrW y a u.2 u.1) (fun E u => KE E u.1)) args s 1 6 A) (F0 m 22 ls []) := by
  obtain ⟨hx, hb, hr, hml, hown, hts, hlocks, hA, hK⟩ := id C0
  have w51 := hts (Cond.classLink RX4 51 "java/lang/IllegalArgumentException") (List.mem_of_getElem? (i := 1) rfl)
  intro S gs H locs ls hP hD hS hl hf
  obtain ⟨state, left, tapeLen, tapeB, tLine, tReader, nodes⟩ := S
  unfold wp_X4_step_22 at hf
  exact vx_throw0 (own := RX4) (cls := "java/lang/IllegalArgumentException") (names := exN) (ik := 51) (ic := 53) hx hb hst hown (by decide +kernel) (by decide +kernel) w51 (hts (.initialized "java/lang/IllegalArgumentException") (List.mem_of_getElem? (i := 2) rfl)) (hat_53 (fun w h => hts w (List.mem_cons_of_mem _ (List.mem_append_right _ (h)))) hXW) got_53 hZ.1 hZ.2 hS (hl.1.trans hml.symm) dX4_step_22 dX4_step_25 dX4_step_26 dX4_step_29 (fun x h => (hexc x h).elim) (Nat.le_of_ble_eq_true rfl) (Nat.le_of_ble_eq_true rfl) (Nat.le_of_ble_eq_true rfl) (Nat.le_of_ble_eq_true rfl) hlocks (fun t hvm hz hk => xe_of ((state, left, tapeLen, tapeB, tLine, tReader, nodes), gs) hf hP hD hS hz hk) hS.2.2 (Nat.le_refl _) (Nat.le_refl _)
set_option maxHeartbeats 4000000 in
set_option maxRecDepth 100000 in
theorem j_X4_step_39 {p : Program} {l : Launch} {e : Env} {s : State} {m : MethodId} {args : Array Value} {below : List Frame} {meth : Method} {c : Code} {dC : Nat → ClassId} {dI : Nat → Nat → Nat} {y : Nat → ClassId} {A : Nat → Prop} (C0 : Cx p s m args meth c cX4_step 5 (some .int) wsX4_step RX4 A dC dI y) (a : WireA) (K : Int32 → WireS → Prop) (KE : String → WireS → Prop) (hst : l.stackTraces = false) (hexc : ∀ x ∈ c.exceptionTable.toList, False) (hXW : XW s) (hZ : ZW A s s.heap) : ∀ n : Nat, ∀ (S : WireS) (gs : Nat → Nat → Nat) (v1 : Int32) (v3 : Int32) (v4 : Int32) (H : Heap) (locs : List Loc) (ls : Array Slot), va_P (dC, dI) vwCl (wrW y a gs S) H → va_D A (wrW y a gs S) → va_S A s.heap H locs → lv_has ls 5 [(0, .ref a.1), (1, .int v1), (3, .int v3), (4, .int v4)] → wp_X4_step_39 K KE n S v1 v3 v4 → W p l e ({ frames := 7, cells := 1, slots := 6, locals := 155 } : Room) s m args below meth c H locs 0 0 (vx_MQ below (va_Qi (fun r u => K r u.1) (BW dC dI A (fun u : WireS × (Nat → Nat → Nat) => wrW y a u.2 u.1)) A) (XE dC dI A (fun u : WireS × (Nat → Nat → Nat) => wrW y a u.2 u.1) (fun E u => KE E u.1)) args s 1 6 A) (F0 m 39 ls []) := by
  obtain ⟨hx, hb, hr, hml, hown, hts, hlocks, hA, hK⟩ := id C0
  intro n
  induction n with
  | zero =>
    intro S gs v1 v3 v4 H locs ls hP hD hS hl hf
    exact False.elim (by unfold wp_X4_step_39 at hf; exact hf)
  | succ n ih =>
    intro S gs v1 v3 v4 H locs ls hP hD hS hl hf
    obtain ⟨state, left, tapeLen, tapeB, tLine, tReader, nodes⟩ := S
    unfold wp_X4_step_39 at hf
    refine lv_iload hx hb dX4_step_39 (lv_at hl 3 rfl) ?_
    refine lv_iload_n hx hb dX4_step_41 rfl (lv_at hl 1 rfl) ?_
    refine lv_icmp_ge (tgt := 57) hx hb dX4_step_42 (by decide) (fun c7 => ?_) (fun c7 => ?_)
    · replace hf := hf.1 c7
      refine lv_iload_n hx hb dX4_step_57 rfl (lv_at hl 2 rfl) ?_
      refine vx_ret (W.widen (k := 1) (n := 6) (Nat.zero_le _) (Nat.zero_le _) ?_)
      exact W.iret (v := v3) hx hb hr (fun t ht hW => ⟨⟨v3, ((state, left, tapeLen, tapeB, tLine, tReader, nodes), gs), rfl, hf, by rw [ht]; exact hP, hD⟩, hS.F ht⟩) hS.2.2 dX4_step_58
    · replace hf := hf.2 c7
      refine lv_aload_n hx hb dX4_step_45 rfl (lv_at hl 0 rfl) ?_
      refine lv_iconst (v := 0) hx hb dX4_step_46 (by decide) ?_
      refine k0i (As := [.int 0]) (rest := []) ⟨hx, hb, hml, hown, hts⟩ (c_X4_oneStep l dC dI y a gs H.size (state, left, tapeLen, tapeB, tLine, tReader, nodes) 0 _ hf) (cwV 1 hts gX4_step_X4_oneStep rfl rfl rfl (by decide +kernel) ⟨Nat.le_of_ble_eq_true rfl, Nat.le_of_ble_eq_true rfl⟩) hK hP hD (va_recv hK.1 hP (ci := 4) (q0 := 0) rfl rfl) hS hA rfl hl.1 rfl (Nat.le_of_ble_eq_true rfl) dX4_step_47 ⟨Nat.zero_le _, Nat.zero_le _⟩ (fun r8 u9 H locs hf hP hD hS => ?_)
      have hP : va_P (dC, dI) vwCl (wrW y a u9.2 u9.1) H := hP
      have hD : va_D A (wrW y a u9.2 u9.1) := hD
      refine lv_istore_n (lv' := [(3, .int r8), (0, .ref a.1), (1, .int v1), (4, .int v4)]) hx hb dX4_step_50 rfl hl (by decide) rfl (fun ls hl => ?_)
      obtain ⟨n10, en10⟩ : ∃ z : Int32, z = v4 + 1 := ⟨_, rfl⟩
      replace hf := hf n10 en10
      refine lv_iinc (v := n10) (lv' := [(4, .int n10), (3, .int r8), (0, .ref a.1), (1, .int v1)]) hx hb dX4_step_51 hl (k := 3) rfl (by rw [en10]; rfl) (by decide) rfl (fun ls hl => ?_)
      refine lv_goto (tgt := 39) hx hb dX4_step_54 (by decide) ?_
      exact ih u9.1 u9.2 v1 r8 n10 H locs ls hP hD hS (lv_sub hl [2, 3, 1, 0] rfl) hf
set_option maxHeartbeats 4000000 in
set_option maxRecDepth 100000 in
theorem c_X4_step (l : Launch) (dC : Nat → ClassId) (dI : Nat → Nat → Nat) (y : Nat → ClassId) (a : WireA) (gs : Nat → Nat → Nat) (sz : Nat) (S : WireS) (p0 : Int32) (p1 : Int32) (K : Int32 → WireS → Prop) (KE : String → WireS → Prop) (hst : l.stackTraces = false) (hf : wp_X4_step S p0 p1 K KE) : MIX l yX4_step wsX4_step { frames := 7, cells := 1, slots := 6, locals := 155 } dC dI y [.ref a.1, .int p0, .int p1] (wrW y a gs S) sz (fun u : WireS × (Nat → Nat → Nat) => wrW y a u.2 u.1) (fun r u => K r u.1) (fun E u => KE E u.1) := by
  refine vx_ofW (cc := cX4_step) (maxL := 5) (ret := (some .int)) (by decide) rfl ?_
  intro p e s m args below meth c s₁ B hml hexc hv
  obtain ⟨rfl, hsz, hP, hK, hXW, hZ, hD0⟩ := hv
  have hx := B.exec
  have hb := B.bytes
  have hr := B.returns
  have hts := atoms_spec (ws := wsX4_step) B.pre
  have hown : s.vm.findClass RX4 = some m.cls := findClass_of_methodNamed B.named
  have hlocks := B.notSynchronized
  subst hsz
  have hD := hD0.self (sz := s.heap.size)
  generalize hAe : va_A (wrW y a gs S) s.heap.size = A at hD hZ ⊢
  have hA : ∀ q : Nat, s.heap.size ≤ q → A q := fun q h => by rw [← hAe]; exact Or.inr h
  have hS : va_S A s.heap s.heap [] := va_S.rf
  have C0 : Cx p s m [.ref a.1, .int p0, .int p1].toArray meth c cX4_step 5 (some .int) wsX4_step RX4 A dC dI y := ⟨hx, hb, hr, hml, hown, hts, hlocks, hA, hK⟩
  have hl := lv_entry ([.ref a.1, .int p0, .int p1]) (n := 5) (Nat.le_of_ble_eq_true rfl)
  rw [lg_entry_eq]
  generalize (lg_sl ([.ref a.1, .int p0, .int p1]) ++ List.replicate (5 - (lg_sl ([.ref a.1, .int p0, .int p1])).length) Slot.unset).toArray = ls at hl ⊢
  have hl : lv_has ls 5 [(0, .ref a.1), (1, .int p0), (2, .int p1)] := hl
  obtain ⟨state, left, tapeLen, tapeB, tLine, tReader, nodes⟩ := S
  clear hAe hD0
  generalize hL0 : ([] : List Loc) = locs at hS ⊢
  unfold wp_X4_step at hf
  refine lv_iload_n hx hb dX4_step_0 rfl (lv_at hl 1 rfl) ?_
  refine lv_iconst (v := 1) hx hb dX4_step_1 (by decide) ?_
  refine lv_icmp_lt (tgt := 22) hx hb dX4_step_2 (by decide) (fun c1 => ?_) (fun c1 => ?_)
  · replace hf := hf.1 c1
    exact j_X4_step_22 C0 a K KE hst hexc hXW hZ (state, left, tapeLen, tapeB, tLine, tReader, nodes) gs s.heap locs ls hP hD hS (lv_sub hl [] rfl) hf
  · replace hf := hf.2 c1
    refine lv_iload_n hx hb dX4_step_5 rfl (lv_at hl 1 rfl) ?_
    refine lv_sipush (v := 200) hx hb dX4_step_6 (by decide) ?_
    refine lv_icmp_gt (tgt := 22) hx hb dX4_step_9 (by decide) (fun c2 => ?_) (fun c2 => ?_)
    · replace hf := hf.1 c2
      exact j_X4_step_22 C0 a K KE hst hexc hXW hZ (state, left, tapeLen, tapeB, tLine, tReader, nodes) gs s.heap locs ls hP hD hS (lv_sub hl [] rfl) hf
    · replace hf := hf.2 c2
      refine lv_iload_n hx hb dX4_step_12 rfl (lv_at hl 2 rfl) ?_
      refine lv_if_lt (tgt := 22) hx hb dX4_step_13 (by decide) (fun c3 => ?_) (fun c3 => ?_)
      · replace hf := hf.1 c3
        exact j_X4_step_22 C0 a K KE hst hexc hXW hZ (state, left, tapeLen, tapeB, tLine, tReader, nodes) gs s.heap locs ls hP hD hS (lv_sub hl [] rfl) hf
      · replace hf := hf.2 c3
        refine lv_iload_n hx hb dX4_step_16 rfl (lv_at hl 2 rfl) ?_
        refine lv_bipush (v := 15) hx hb dX4_step_17 (by decide) ?_
        refine lv_icmp_le (tgt := 30) hx hb dX4_step_19 (by decide) (fun c4 => ?_) (fun c4 => ?_)
        · replace hf := hf.1 c4
          refine lv_aload_n hx hb dX4_step_30 rfl (lv_at hl 0 rfl) ?_
          refine lv_iload_n hx hb dX4_step_31 rfl (lv_at hl 2 rfl) ?_
          refine k0i (As := [.int p1]) (rest := []) ⟨hx, hb, hml, hown, hts⟩ (c_X4_oneStep l dC dI y a gs s.heap.size (state, left, tapeLen, tapeB, tLine, tReader, nodes) p1 _ hf) (cwV 1 hts gX4_step_X4_oneStep rfl rfl rfl (by decide +kernel) ⟨Nat.le_of_ble_eq_true rfl, Nat.le_of_ble_eq_true rfl⟩) hK hP hD (va_recv hK.1 hP (ci := 4) (q0 := 0) rfl rfl) hS hA rfl hl.1 rfl (Nat.le_of_ble_eq_true rfl) dX4_step_32 ⟨Nat.zero_le _, Nat.zero_le _⟩ (fun r5 u6 H locs hf hP hD hS => ?_)
          have hP : va_P (dC, dI) vwCl (wrW y a u6.2 u6.1) H := hP
          have hD : va_D A (wrW y a u6.2 u6.1) := hD
          refine lv_istore_n (lv' := [(3, .int r5), (0, .ref a.1), (1, .int p0), (2, .int p1)]) hx hb dX4_step_35 rfl hl (by decide) rfl (fun ls hl => ?_)
          refine lv_iconst (v := 1) hx hb dX4_step_36 (by decide) ?_
          refine lv_istore (lv' := [(4, .int 1), (3, .int r5), (0, .ref a.1), (1, .int p0), (2, .int p1)]) hx hb dX4_step_37 hl (by decide) rfl (fun ls hl => ?_)
          exact j_X4_step_39 C0 a K KE hst hexc hXW hZ 1000 u6.1 u6.2 p0 r5 1 H locs ls hP hD hS (lv_sub hl [2, 3, 1, 0] rfl) hf
        · replace hf := hf.2 c4
          exact j_X4_step_22 C0 a K KE hst hexc hXW hZ (state, left, tapeLen, tapeB, tLine, tReader, nodes) gs s.heap locs ls hP hD hS (lv_sub hl [] rfl) hf

def wp_X4_join : WireS → Int32 → (Int32 → WireS → Prop) → (String → WireS → Prop) → Prop := fun (state, left, tapeLen, tapeB, tLine, tReader, nodes) p0 K KE => wp_X4_isNode p0 (fun r1 => ((¬ r1 = 0 → (vp_in p0 4 ∧ (p0 = 0 → (((nodes 0).1 = 0 → wp_X2_switchOn (nodes 0) (fun u4 => K 1 (state, left, tapeLen, tapeB, tLine, tReader, va_up nodes 0 u4))) ∧ (¬ (nodes 0).1 = 0 → K 0 (state, left, tapeLen, tapeB, tLine, tReader, nodes)))) ∧ (p0 = 1 → (((nodes 1).1 = 0 → wp_X2_switchOn (nodes 1) (fun u6 => K 1 (state, left, tapeLen, tapeB, tLine, tReader, va_up nodes 1 u6))) ∧ (¬ (nodes 1).1 = 0 → K 0 (state, left, tapeLen, tapeB, tLine, tReader, nodes)))) ∧ (p0 = 2 → (((nodes 2).1 = 0 → wp_X2_switchOn (nodes 2) (fun u8 => K 1 (state, left, tapeLen, tapeB, tLine, tReader, va_up nodes 2 u8))) ∧ (¬ (nodes 2).1 = 0 → K 0 (state, left, tapeLen, tapeB, tLine, tReader, nodes)))) ∧ (p0 = 3 → (((nodes 3).1 = 0 → wp_X2_switchOn (nodes 3) (fun u10 => K 1 (state, left, tapeLen, tapeB, tLine, tReader, va_up nodes 3 u10))) ∧ (¬ (nodes 3).1 = 0 → K 0 (state, left, tapeLen, tapeB, tLine, tReader, nodes)))))) ∧ (r1 = 0 → KE "java/lang/IndexOutOfBoundsException" (state, left, tapeLen, tapeB, tLine, tReader, nodes))))
set_option maxHeartbeats 4000000 in
set_option maxRecDepth 100000 in
theorem c_X4_join (l : Launch) (dC : Nat → ClassId) (dI : Nat → Nat → Nat) (y : Nat → ClassId) (a : WireA) (gs : Nat → Nat → Nat) (sz : Nat) (S : WireS) (p0 : Int32) (K : Int32 → WireS → Prop) (KE : String → WireS → Prop) (hst : l.stackTraces = false) (hf : wp_X4_join S p0 K KE) : MIX l yX4_join wsX4_join { frames := 6, cells := 1, slots := 6, locals := 89 } dC dI y [.ref a.1, .int p0] (wrW y a gs S) sz (fun u => wrW y a gs u) K KE := by
  refine vx_ofW (cc := cX4_join) (maxL := 3) (ret := (some .boolean)) (by decide) rfl ?_
  intro p e s m args below meth c s₁ B hml hexc hv
  obtain ⟨rfl, hsz, hP, hK, hXW, hZ, hD0⟩ := hv
  have hx := B.exec
  have hb := B.bytes
  have hr := B.returns
  have hts := atoms_spec (ws := wsX4_join) B.pre
  have hown : s.vm.findClass RX4 = some m.cls := findClass_of_methodNamed B.named
  have hlocks := B.notSynchronized
  subst hsz
  have hD := hD0.self (sz := s.heap.size)
  generalize hAe : va_A (wrW y a gs S) s.heap.size = A at hD hZ ⊢
  have hA : ∀ q : Nat, s.heap.size ≤ q → A q := fun q h => by rw [← hAe]; exact Or.inr h
  have hS : va_S A s.heap s.heap [] := va_S.rf
  have C0 : Cx p s m [.ref a.1, .int p0].toArray meth c cX4_join 3 (some .boolean) wsX4_join RX4 A dC dI y := ⟨hx, hb, hr, hml, hown, hts, hlocks, hA, hK⟩
  have w11 := hts (.fieldLink RX4 11 "SharedWire" "nodes" "[LSharedWire$Node;") (List.mem_of_getElem? (i := 3) rfl)
  have w48 := hts (.classLink RX4 48 "java/lang/IndexOutOfBoundsException") (List.mem_of_getElem? (i := 1) rfl)
  have w68 := hts (.fieldLink RX4 68 "SharedWire$Node" "on" "Z") (List.mem_of_getElem? (i := 4) rfl)
  have hinX2 : ∀ w ∈ wsX20, w ∈ wsX4_join := fun w h => List.mem_cons_of_mem _ (List.mem_append_left _ (List.mem_append_right _ (h)))
  have hinX4 : ∀ w ∈ wsX40, w ∈ wsX4_join := fun w h => List.mem_cons_of_mem _ (List.mem_append_left _ (List.mem_append_left _ (List.mem_append_right _ (h))))
  have hl := lv_entry ([.ref a.1, .int p0]) (n := 3) (Nat.le_of_ble_eq_true rfl)
  rw [lg_entry_eq]
  generalize (lg_sl ([.ref a.1, .int p0]) ++ List.replicate (3 - (lg_sl ([.ref a.1, .int p0])).length) Slot.unset).toArray = ls at hl ⊢
  have hl : lv_has ls 3 [(0, .ref a.1), (1, .int p0)] := hl
  obtain ⟨state, left, tapeLen, tapeB, tLine, tReader, nodes⟩ := S
  clear hAe hD0
  generalize hL0 : ([] : List Loc) = locs at hS ⊢
  unfold wp_X4_join at hf
  refine lv_iload_n hx hb dX4_join_0 rfl (lv_at hl 1 rfl) ?_
  refine kSi (As := [.int p0]) (rest := []) ⟨hx, hb, hml, hown, hts⟩ (c_X4_isNode l dC dI y s.heap.size p0 _ hf) (va_cwS 1 hts gX4_join_X4_isNode rfl rfl rfl (by decide +kernel) ⟨Nat.le_of_ble_eq_true rfl, Nat.le_of_ble_eq_true rfl⟩) hK hP hD hS hA rfl hl.1 rfl (Nat.le_of_ble_eq_true rfl) dX4_join_1 ⟨Nat.zero_le _, Nat.zero_le _⟩ (fun r1 H locs hf hP hD hS => ?_)
  refine lv_if_ne (tgt := 15) hx hb dX4_join_4 (by decide) (fun c2 => ?_) (fun c2 => ?_)
  · replace hf := hf.1 c2
    refine lv_aload_n hx hb dX4_join_15 rfl (lv_at hl 0 rfl) ?_
    refine va_get (D := (dC, dI)) (ci := 4) (v := .ref a.2.1) (C := RX4) (T := TX4) (N := 7) hx hb hts hinX4 hown hK.1 hP 0 rfl rfl 0 (by decide) w11 (fun _ h9 => h9) rfl dX4_join_16 ?_
    refine lv_iload_n hx hb dX4_join_19 rfl (lv_at hl 1 rfl) ?_
    obtain ⟨hg9, hf0, hf1, hf2, hf3⟩ := hf
    rcases vin4 hg9 with e9 | e9 | e9 | e9
    · replace hf := hf0 e9
      subst e9
      refine ar_qld (j := 0) hx hb hK.1 hP 1 4 rfl rfl (clamp_lit 0 rfl) (vin_lit 0 4 rfl rfl) dX4_join_20 ?_
      refine lv_astore_n (lv' := [(2, .ref ((a.2.2.2.2.2 0).1)), (0, .ref a.1), (1, .int 0)]) hx hb dX4_join_21 rfl hl (by decide) rfl (fun ls hl => ?_)
      refine lv_aload_n hx hb dX4_join_22 rfl (lv_at hl 0 rfl) ?_
      refine va_get (D := (dC, dI)) (ci := 2) (v := .int ((nodes 0).1)) (C := RX2) (T := TX2) (N := 15) hx hb hts hinX2 hown hK.1 hP 8 rfl rfl 4 (by decide) w68 (fun _ h9 => h9) rfl dX4_join_23 ?_
      refine lv_if_eq (tgt := 31) hx hb dX4_join_26 (by decide) (fun c3 => ?_) (fun c3 => ?_)
      · replace hf := hf.1 c3
        refine lv_aload_n hx hb dX4_join_31 rfl (lv_at hl 0 rfl) ?_
        refine kVv (As := []) (rest := []) (pre := (wrW y a gs (state, left, tapeLen, tapeB, tLine, tReader, nodes)).take 8) (post := (wrW y a gs (state, left, tapeLen, tapeB, tLine, tReader, nodes)).drop 20) ⟨hx, hb, hml, hown, hts⟩ (c_X2_switchOn l dC dI y (aw (a.2.2.2.2.2 0) (gs 0)) H.size (nodes 0) _ hf) (cwV 0 hts gX4_join_X2_switchOn rfl rfl rfl (by decide +kernel) ⟨Nat.le_of_ble_eq_true rfl, Nat.le_of_ble_eq_true rfl⟩) hK hP hD (va_recv hK.1 hP (ci := 2) (q0 := 8) rfl rfl) hS hA rfl hl.1 rfl (Nat.le_of_ble_eq_true rfl) dX4_join_32 ⟨Nat.zero_le _, Nat.zero_le _⟩ (fun u4 H locs hf hP hD hS => ?_)
        have hP : va_P (dC, dI) vwCl (wrW y a gs (state, left, tapeLen, tapeB, tLine, tReader, va_up nodes 0 u4)) H := hP
        have hD : va_D A (wrW y a gs (state, left, tapeLen, tapeB, tLine, tReader, va_up nodes 0 u4)) := hD
        refine lv_iconst (v := 1) hx hb dX4_join_35 (by decide) ?_
        refine vx_ret (W.widen (k := 1) (n := 6) (Nat.zero_le _) (Nat.zero_le _) ?_)
        exact W.zret (v := 1) (ty := .boolean) hx hb hr rfl (fun t ht hW => ⟨⟨1, (state, left, tapeLen, tapeB, tLine, tReader, va_up nodes 0 u4), rfl, hf, by rw [ht]; exact hP, hD⟩, hS.F ht⟩) hS.2.2 dX4_join_36
      · replace hf := hf.2 c3
        refine lv_iconst (v := 0) hx hb dX4_join_29 (by decide) ?_
        refine vx_ret (W.widen (k := 1) (n := 6) (Nat.zero_le _) (Nat.zero_le _) ?_)
        exact W.zret (v := 0) (ty := .boolean) hx hb hr rfl (fun t ht hW => ⟨⟨0, (state, left, tapeLen, tapeB, tLine, tReader, nodes), rfl, hf, by rw [ht]; exact hP, hD⟩, hS.F ht⟩) hS.2.2 dX4_join_30
    · replace hf := hf1 e9
      subst e9
      refine ar_qld (j := 1) hx hb hK.1 hP 1 4 rfl rfl (clamp_lit 1 rfl) (vin_lit 1 4 rfl rfl) dX4_join_20 ?_
      refine lv_astore_n (lv' := [(2, .ref ((a.2.2.2.2.2 1).1)), (0, .ref a.1), (1, .int 1)]) hx hb dX4_join_21 rfl hl (by decide) rfl (fun ls hl => ?_)
      refine lv_aload_n hx hb dX4_join_22 rfl (lv_at hl 0 rfl) ?_
      refine va_get (D := (dC, dI)) (ci := 2) (v := .int ((nodes 1).1)) (C := RX2) (T := TX2) (N := 15) hx hb hts hinX2 hown hK.1 hP 20 rfl rfl 4 (by decide) w68 (fun _ h9 => h9) rfl dX4_join_23 ?_
      refine lv_if_eq (tgt := 31) hx hb dX4_join_26 (by decide) (fun c5 => ?_) (fun c5 => ?_)
      · replace hf := hf.1 c5
        refine lv_aload_n hx hb dX4_join_31 rfl (lv_at hl 0 rfl) ?_
        refine kVv (As := []) (rest := []) (pre := (wrW y a gs (state, left, tapeLen, tapeB, tLine, tReader, nodes)).take 20) (post := (wrW y a gs (state, left, tapeLen, tapeB, tLine, tReader, nodes)).drop 32) ⟨hx, hb, hml, hown, hts⟩ (c_X2_switchOn l dC dI y (aw (a.2.2.2.2.2 1) (gs 1)) H.size (nodes 1) _ hf) (cwV 0 hts gX4_join_X2_switchOn rfl rfl rfl (by decide +kernel) ⟨Nat.le_of_ble_eq_true rfl, Nat.le_of_ble_eq_true rfl⟩) hK hP hD (va_recv hK.1 hP (ci := 2) (q0 := 20) rfl rfl) hS hA rfl hl.1 rfl (Nat.le_of_ble_eq_true rfl) dX4_join_32 ⟨Nat.zero_le _, Nat.zero_le _⟩ (fun u6 H locs hf hP hD hS => ?_)
        have hP : va_P (dC, dI) vwCl (wrW y a gs (state, left, tapeLen, tapeB, tLine, tReader, va_up nodes 1 u6)) H := hP
        have hD : va_D A (wrW y a gs (state, left, tapeLen, tapeB, tLine, tReader, va_up nodes 1 u6)) := hD
        refine lv_iconst (v := 1) hx hb dX4_join_35 (by decide) ?_
        refine vx_ret (W.widen (k := 1) (n := 6) (Nat.zero_le _) (Nat.zero_le _) ?_)
        exact W.zret (v := 1) (ty := .boolean) hx hb hr rfl (fun t ht hW => ⟨⟨1, (state, left, tapeLen, tapeB, tLine, tReader, va_up nodes 1 u6), rfl, hf, by rw [ht]; exact hP, hD⟩, hS.F ht⟩) hS.2.2 dX4_join_36
      · replace hf := hf.2 c5
        refine lv_iconst (v := 0) hx hb dX4_join_29 (by decide) ?_
        refine vx_ret (W.widen (k := 1) (n := 6) (Nat.zero_le _) (Nat.zero_le _) ?_)
        exact W.zret (v := 0) (ty := .boolean) hx hb hr rfl (fun t ht hW => ⟨⟨0, (state, left, tapeLen, tapeB, tLine, tReader, nodes), rfl, hf, by rw [ht]; exact hP, hD⟩, hS.F ht⟩) hS.2.2 dX4_join_30
    · replace hf := hf2 e9
      subst e9
      refine ar_qld (j := 2) hx hb hK.1 hP 1 4 rfl rfl (clamp_lit 2 rfl) (vin_lit 2 4 rfl rfl) dX4_join_20 ?_
      refine lv_astore_n (lv' := [(2, .ref ((a.2.2.2.2.2 2).1)), (0, .ref a.1), (1, .int 2)]) hx hb dX4_join_21 rfl hl (by decide) rfl (fun ls hl => ?_)
      refine lv_aload_n hx hb dX4_join_22 rfl (lv_at hl 0 rfl) ?_
      refine va_get (D := (dC, dI)) (ci := 2) (v := .int ((nodes 2).1)) (C := RX2) (T := TX2) (N := 15) hx hb hts hinX2 hown hK.1 hP 32 rfl rfl 4 (by decide) w68 (fun _ h9 => h9) rfl dX4_join_23 ?_
      refine lv_if_eq (tgt := 31) hx hb dX4_join_26 (by decide) (fun c7 => ?_) (fun c7 => ?_)
      · replace hf := hf.1 c7
        refine lv_aload_n hx hb dX4_join_31 rfl (lv_at hl 0 rfl) ?_
        refine kVv (As := []) (rest := []) (pre := (wrW y a gs (state, left, tapeLen, tapeB, tLine, tReader, nodes)).take 32) (post := (wrW y a gs (state, left, tapeLen, tapeB, tLine, tReader, nodes)).drop 44) ⟨hx, hb, hml, hown, hts⟩ (c_X2_switchOn l dC dI y (aw (a.2.2.2.2.2 2) (gs 2)) H.size (nodes 2) _ hf) (cwV 0 hts gX4_join_X2_switchOn rfl rfl rfl (by decide +kernel) ⟨Nat.le_of_ble_eq_true rfl, Nat.le_of_ble_eq_true rfl⟩) hK hP hD (va_recv hK.1 hP (ci := 2) (q0 := 32) rfl rfl) hS hA rfl hl.1 rfl (Nat.le_of_ble_eq_true rfl) dX4_join_32 ⟨Nat.zero_le _, Nat.zero_le _⟩ (fun u8 H locs hf hP hD hS => ?_)
        have hP : va_P (dC, dI) vwCl (wrW y a gs (state, left, tapeLen, tapeB, tLine, tReader, va_up nodes 2 u8)) H := hP
        have hD : va_D A (wrW y a gs (state, left, tapeLen, tapeB, tLine, tReader, va_up nodes 2 u8)) := hD
        refine lv_iconst (v := 1) hx hb dX4_join_35 (by decide) ?_
        refine vx_ret (W.widen (k := 1) (n := 6) (Nat.zero_le _) (Nat.zero_le _) ?_)
        exact W.zret (v := 1) (ty := .boolean) hx hb hr rfl (fun t ht hW => ⟨⟨1, (state, left, tapeLen, tapeB, tLine, tReader, va_up nodes 2 u8), rfl, hf, by rw [ht]; exact hP, hD⟩, hS.F ht⟩) hS.2.2 dX4_join_36
      · replace hf := hf.2 c7
        refine lv_iconst (v := 0) hx hb dX4_join_29 (by decide) ?_
        refine vx_ret (W.widen (k := 1) (n := 6) (Nat.zero_le _) (Nat.zero_le _) ?_)
        exact W.zret (v := 0) (ty := .boolean) hx hb hr rfl (fun t ht hW => ⟨⟨0, (state, left, tapeLen, tapeB, tLine, tReader, nodes), rfl, hf, by rw [ht]; exact hP, hD⟩, hS.F ht⟩) hS.2.2 dX4_join_30
    · replace hf := hf3 e9
      subst e9
      refine ar_qld (j := 3) hx hb hK.1 hP 1 4 rfl rfl (clamp_lit 3 rfl) (vin_lit 3 4 rfl rfl) dX4_join_20 ?_
      refine lv_astore_n (lv' := [(2, .ref ((a.2.2.2.2.2 3).1)), (0, .ref a.1), (1, .int 3)]) hx hb dX4_join_21 rfl hl (by decide) rfl (fun ls hl => ?_)
      refine lv_aload_n hx hb dX4_join_22 rfl (lv_at hl 0 rfl) ?_
      refine va_get (D := (dC, dI)) (ci := 2) (v := .int ((nodes 3).1)) (C := RX2) (T := TX2) (N := 15) hx hb hts hinX2 hown hK.1 hP 44 rfl rfl 4 (by decide) w68 (fun _ h9 => h9) rfl dX4_join_23 ?_
      refine lv_if_eq (tgt := 31) hx hb dX4_join_26 (by decide) (fun c9 => ?_) (fun c9 => ?_)
      · replace hf := hf.1 c9
        refine lv_aload_n hx hb dX4_join_31 rfl (lv_at hl 0 rfl) ?_
        refine kVv (As := []) (rest := []) (pre := (wrW y a gs (state, left, tapeLen, tapeB, tLine, tReader, nodes)).take 44) (post := (wrW y a gs (state, left, tapeLen, tapeB, tLine, tReader, nodes)).drop 56) ⟨hx, hb, hml, hown, hts⟩ (c_X2_switchOn l dC dI y (aw (a.2.2.2.2.2 3) (gs 3)) H.size (nodes 3) _ hf) (cwV 0 hts gX4_join_X2_switchOn rfl rfl rfl (by decide +kernel) ⟨Nat.le_of_ble_eq_true rfl, Nat.le_of_ble_eq_true rfl⟩) hK hP hD (va_recv hK.1 hP (ci := 2) (q0 := 44) rfl rfl) hS hA rfl hl.1 rfl (Nat.le_of_ble_eq_true rfl) dX4_join_32 ⟨Nat.zero_le _, Nat.zero_le _⟩ (fun u10 H locs hf hP hD hS => ?_)
        have hP : va_P (dC, dI) vwCl (wrW y a gs (state, left, tapeLen, tapeB, tLine, tReader, va_up nodes 3 u10)) H := hP
        have hD : va_D A (wrW y a gs (state, left, tapeLen, tapeB, tLine, tReader, va_up nodes 3 u10)) := hD
        refine lv_iconst (v := 1) hx hb dX4_join_35 (by decide) ?_
        refine vx_ret (W.widen (k := 1) (n := 6) (Nat.zero_le _) (Nat.zero_le _) ?_)
        exact W.zret (v := 1) (ty := .boolean) hx hb hr rfl (fun t ht hW => ⟨⟨1, (state, left, tapeLen, tapeB, tLine, tReader, va_up nodes 3 u10), rfl, hf, by rw [ht]; exact hP, hD⟩, hS.F ht⟩) hS.2.2 dX4_join_36
      · replace hf := hf.2 c9
        refine lv_iconst (v := 0) hx hb dX4_join_29 (by decide) ?_
        refine vx_ret (W.widen (k := 1) (n := 6) (Nat.zero_le _) (Nat.zero_le _) ?_)
        exact W.zret (v := 0) (ty := .boolean) hx hb hr rfl (fun t ht hW => ⟨⟨0, (state, left, tapeLen, tapeB, tLine, tReader, nodes), rfl, hf, by rw [ht]; exact hP, hD⟩, hS.F ht⟩) hS.2.2 dX4_join_30
  · replace hf := hf.2 c2
    exact vx_throw0 (own := RX4) (cls := "java/lang/IndexOutOfBoundsException") (names := exN) (ik := 48) (ic := 50) hx hb hst hown (by decide +kernel) (by decide +kernel) w48 (hts (.initialized "java/lang/IndexOutOfBoundsException") (List.mem_of_getElem? (i := 2) rfl)) (hat_50 (fun w h => hts w (List.mem_cons_of_mem _ (List.mem_append_right _ (h)))) hXW) got_50 hZ.1 hZ.2 hS (hl.1.trans hml.symm) dX4_join_7 dX4_join_10 dX4_join_11 dX4_join_14 (fun x h => (hexc x h).elim) (Nat.le_of_ble_eq_true rfl) (Nat.le_of_ble_eq_true rfl) (Nat.le_of_ble_eq_true rfl) (Nat.le_of_ble_eq_true rfl) hlocks (fun t hvm hz hk => xe_of (state, left, tapeLen, tapeB, tLine, tReader, nodes) hf hP hD hS hz hk) hS.2.2 (Nat.le_refl _) (Nat.le_refl _)

def wp_X4_node : WireS → Int32 → Int32 → (Int32 → WireS → Prop) → (String → WireS → Prop) → Prop := fun (state, left, tapeLen, tapeB, tLine, tReader, nodes) p0 p1 K KE => wp_X4_isNode p0 (fun r1 => ((¬ r1 = 0 → (vp_in p0 4 ∧ (p0 = 0 → ((p1.toInt < 0 ∨ 6 < p1.toInt → KE "java/lang/IndexOutOfBoundsException" (state, left, tapeLen, tapeB, tLine, tReader, nodes)) ∧ (p1.toInt = 0 → (((nodes 0).1 = 0 → K 0 (state, left, tapeLen, tapeB, tLine, tReader, nodes)) ∧ (¬ (nodes 0).1 = 0 → K ((nodes 0).2.1) (state, left, tapeLen, tapeB, tLine, tReader, nodes)))) ∧ (p1.toInt = 1 → K ((nodes 0).2.2.2.1) (state, left, tapeLen, tapeB, tLine, tReader, nodes)) ∧ (p1.toInt = 2 → K ((nodes 0).2.2.2.2.1) (state, left, tapeLen, tapeB, tLine, tReader, nodes)) ∧ (p1.toInt = 3 → K ((nodes 0).2.2.1) (state, left, tapeLen, tapeB, tLine, tReader, nodes)) ∧ (p1.toInt = 4 → K ((nodes 0).2.2.2.2.2.1) (state, left, tapeLen, tapeB, tLine, tReader, nodes)) ∧ (p1.toInt = 5 → K ((nodes 0).2.2.2.2.2.2.1) (state, left, tapeLen, tapeB, tLine, tReader, nodes)) ∧ (p1.toInt = 6 → K ((nodes 0).2.2.2.2.2.2.2.1) (state, left, tapeLen, tapeB, tLine, tReader, nodes)))) ∧ (p0 = 1 → ((p1.toInt < 0 ∨ 6 < p1.toInt → KE "java/lang/IndexOutOfBoundsException" (state, left, tapeLen, tapeB, tLine, tReader, nodes)) ∧ (p1.toInt = 0 → (((nodes 1).1 = 0 → K 0 (state, left, tapeLen, tapeB, tLine, tReader, nodes)) ∧ (¬ (nodes 1).1 = 0 → K ((nodes 1).2.1) (state, left, tapeLen, tapeB, tLine, tReader, nodes)))) ∧ (p1.toInt = 1 → K ((nodes 1).2.2.2.1) (state, left, tapeLen, tapeB, tLine, tReader, nodes)) ∧ (p1.toInt = 2 → K ((nodes 1).2.2.2.2.1) (state, left, tapeLen, tapeB, tLine, tReader, nodes)) ∧ (p1.toInt = 3 → K ((nodes 1).2.2.1) (state, left, tapeLen, tapeB, tLine, tReader, nodes)) ∧ (p1.toInt = 4 → K ((nodes 1).2.2.2.2.2.1) (state, left, tapeLen, tapeB, tLine, tReader, nodes)) ∧ (p1.toInt = 5 → K ((nodes 1).2.2.2.2.2.2.1) (state, left, tapeLen, tapeB, tLine, tReader, nodes)) ∧ (p1.toInt = 6 → K ((nodes 1).2.2.2.2.2.2.2.1) (state, left, tapeLen, tapeB, tLine, tReader, nodes)))) ∧ (p0 = 2 → ((p1.toInt < 0 ∨ 6 < p1.toInt → KE "java/lang/IndexOutOfBoundsException" (state, left, tapeLen, tapeB, tLine, tReader, nodes)) ∧ (p1.toInt = 0 → (((nodes 2).1 = 0 → K 0 (state, left, tapeLen, tapeB, tLine, tReader, nodes)) ∧ (¬ (nodes 2).1 = 0 → K ((nodes 2).2.1) (state, left, tapeLen, tapeB, tLine, tReader, nodes)))) ∧ (p1.toInt = 1 → K ((nodes 2).2.2.2.1) (state, left, tapeLen, tapeB, tLine, tReader, nodes)) ∧ (p1.toInt = 2 → K ((nodes 2).2.2.2.2.1) (state, left, tapeLen, tapeB, tLine, tReader, nodes)) ∧ (p1.toInt = 3 → K ((nodes 2).2.2.1) (state, left, tapeLen, tapeB, tLine, tReader, nodes)) ∧ (p1.toInt = 4 → K ((nodes 2).2.2.2.2.2.1) (state, left, tapeLen, tapeB, tLine, tReader, nodes)) ∧ (p1.toInt = 5 → K ((nodes 2).2.2.2.2.2.2.1) (state, left, tapeLen, tapeB, tLine, tReader, nodes)) ∧ (p1.toInt = 6 → K ((nodes 2).2.2.2.2.2.2.2.1) (state, left, tapeLen, tapeB, tLine, tReader, nodes)))) ∧ (p0 = 3 → ((p1.toInt < 0 ∨ 6 < p1.toInt → KE "java/lang/IndexOutOfBoundsException" (state, left, tapeLen, tapeB, tLine, tReader, nodes)) ∧ (p1.toInt = 0 → (((nodes 3).1 = 0 → K 0 (state, left, tapeLen, tapeB, tLine, tReader, nodes)) ∧ (¬ (nodes 3).1 = 0 → K ((nodes 3).2.1) (state, left, tapeLen, tapeB, tLine, tReader, nodes)))) ∧ (p1.toInt = 1 → K ((nodes 3).2.2.2.1) (state, left, tapeLen, tapeB, tLine, tReader, nodes)) ∧ (p1.toInt = 2 → K ((nodes 3).2.2.2.2.1) (state, left, tapeLen, tapeB, tLine, tReader, nodes)) ∧ (p1.toInt = 3 → K ((nodes 3).2.2.1) (state, left, tapeLen, tapeB, tLine, tReader, nodes)) ∧ (p1.toInt = 4 → K ((nodes 3).2.2.2.2.2.1) (state, left, tapeLen, tapeB, tLine, tReader, nodes)) ∧ (p1.toInt = 5 → K ((nodes 3).2.2.2.2.2.2.1) (state, left, tapeLen, tapeB, tLine, tReader, nodes)) ∧ (p1.toInt = 6 → K ((nodes 3).2.2.2.2.2.2.2.1) (state, left, tapeLen, tapeB, tLine, tReader, nodes)))))) ∧ (r1 = 0 → KE "java/lang/IndexOutOfBoundsException" (state, left, tapeLen, tapeB, tLine, tReader, nodes))))
set_option maxHeartbeats 4000000 in
set_option maxRecDepth 100000 in
theorem c_X4_node (l : Launch) (dC : Nat → ClassId) (dI : Nat → Nat → Nat) (y : Nat → ClassId) (a : WireA) (gs : Nat → Nat → Nat) (sz : Nat) (S : WireS) (p0 : Int32) (p1 : Int32) (K : Int32 → WireS → Prop) (KE : String → WireS → Prop) (hst : l.stackTraces = false) (hf : wp_X4_node S p0 p1 K KE) : MIX l yX4_node wsX4_node { frames := 6, cells := 1, slots := 6, locals := 89 } dC dI y [.ref a.1, .int p0, .int p1] (wrW y a gs S) sz (fun u => wrW y a gs u) K KE := by
  refine vx_ofW (cc := cX4_node) (maxL := 4) (ret := (some .int)) (by decide) rfl ?_
  intro p e s m args below meth c s₁ B hml hexc hv
  obtain ⟨rfl, hsz, hP, hK, hXW, hZ, hD0⟩ := hv
  have hx := B.exec
  have hb := B.bytes
  have hr := B.returns
  have hts := atoms_spec (ws := wsX4_node) B.pre
  have hown : s.vm.findClass RX4 = some m.cls := findClass_of_methodNamed B.named
  have hlocks := B.notSynchronized
  subst hsz
  have hD := hD0.self (sz := s.heap.size)
  generalize hAe : va_A (wrW y a gs S) s.heap.size = A at hD hZ ⊢
  have hA : ∀ q : Nat, s.heap.size ≤ q → A q := fun q h => by rw [← hAe]; exact Or.inr h
  have hS : va_S A s.heap s.heap [] := va_S.rf
  have C0 : Cx p s m [.ref a.1, .int p0, .int p1].toArray meth c cX4_node 4 (some .int) wsX4_node RX4 A dC dI y := ⟨hx, hb, hr, hml, hown, hts, hlocks, hA, hK⟩
  have w11 := hts (.fieldLink RX4 11 "SharedWire" "nodes" "[LSharedWire$Node;") (List.mem_of_getElem? (i := 3) rfl)
  have w48 := hts (.classLink RX4 48 "java/lang/IndexOutOfBoundsException") (List.mem_of_getElem? (i := 1) rfl)
  have w54 := hts (.fieldLink RX4 54 "SharedWire$Node" "wants" "I") (List.mem_of_getElem? (i := 8) rfl)
  have w68 := hts (.fieldLink RX4 68 "SharedWire$Node" "on" "Z") (List.mem_of_getElem? (i := 4) rfl)
  have w75 := hts (.fieldLink RX4 75 "SharedWire$Node" "role" "I") (List.mem_of_getElem? (i := 5) rfl)
  have w78 := hts (.fieldLink RX4 78 "SharedWire$Node" "sendingCount" "I") (List.mem_of_getElem? (i := 6) rfl)
  have w81 := hts (.fieldLink RX4 81 "SharedWire$Node" "receivingCount" "I") (List.mem_of_getElem? (i := 7) rfl)
  have w84 := hts (.fieldLink RX4 84 "SharedWire$Node" "framesSent" "I") (List.mem_of_getElem? (i := 9) rfl)
  have w87 := hts (.fieldLink RX4 87 "SharedWire$Node" "framesReceived" "I") (List.mem_of_getElem? (i := 10) rfl)
  have w90 := hts (.fieldLink RX4 90 "SharedWire$Node" "lastFault" "I") (List.mem_of_getElem? (i := 11) rfl)
  have hinX2 : ∀ w ∈ wsX20, w ∈ wsX4_node := fun w h => List.mem_cons_of_mem _ (List.mem_append_left _ (List.mem_append_right _ (h)))
  have hinX4 : ∀ w ∈ wsX40, w ∈ wsX4_node := fun w h => List.mem_cons_of_mem _ (List.mem_append_left _ (List.mem_append_left _ (List.mem_append_right _ (h))))
  have hl := lv_entry ([.ref a.1, .int p0, .int p1]) (n := 4) (Nat.le_of_ble_eq_true rfl)
  rw [lg_entry_eq]
  generalize (lg_sl ([.ref a.1, .int p0, .int p1]) ++ List.replicate (4 - (lg_sl ([.ref a.1, .int p0, .int p1])).length) Slot.unset).toArray = ls at hl ⊢
  have hl : lv_has ls 4 [(0, .ref a.1), (1, .int p0), (2, .int p1)] := hl
  obtain ⟨state, left, tapeLen, tapeB, tLine, tReader, nodes⟩ := S
  clear hAe hD0
  generalize hL0 : ([] : List Loc) = locs at hS ⊢
  unfold wp_X4_node at hf
  refine lv_iload_n hx hb dX4_node_0 rfl (lv_at hl 1 rfl) ?_
  refine kSi (As := [.int p0]) (rest := []) ⟨hx, hb, hml, hown, hts⟩ (c_X4_isNode l dC dI y s.heap.size p0 _ hf) (va_cwS 1 hts gX4_node_X4_isNode rfl rfl rfl (by decide +kernel) ⟨Nat.le_of_ble_eq_true rfl, Nat.le_of_ble_eq_true rfl⟩) hK hP hD hS hA rfl hl.1 rfl (Nat.le_of_ble_eq_true rfl) dX4_node_1 ⟨Nat.zero_le _, Nat.zero_le _⟩ (fun r1 H locs hf hP hD hS => ?_)
  refine lv_if_ne (tgt := 15) hx hb dX4_node_4 (by decide) (fun c2 => ?_) (fun c2 => ?_)
  · replace hf := hf.1 c2
    refine lv_aload_n hx hb dX4_node_15 rfl (lv_at hl 0 rfl) ?_
    refine va_get (D := (dC, dI)) (ci := 4) (v := .ref a.2.1) (C := RX4) (T := TX4) (N := 7) hx hb hts hinX4 hown hK.1 hP 0 rfl rfl 0 (by decide) w11 (fun _ h9 => h9) rfl dX4_node_16 ?_
    refine lv_iload_n hx hb dX4_node_19 rfl (lv_at hl 1 rfl) ?_
    obtain ⟨hg9, hf0, hf1, hf2, hf3⟩ := hf
    rcases vin4 hg9 with e9 | e9 | e9 | e9
    · replace hf := hf0 e9
      subst e9
      refine ar_qld (j := 0) hx hb hK.1 hP 1 4 rfl rfl (clamp_lit 0 rfl) (vin_lit 0 4 rfl rfl) dX4_node_20 ?_
      refine lv_astore_n (lv' := [(3, .ref ((a.2.2.2.2.2 0).1)), (0, .ref a.1), (1, .int 0), (2, .int p1)]) hx hb dX4_node_21 rfl hl (by decide) rfl (fun ls hl => ?_)
      refine lv_iload_n hx hb dX4_node_22 rfl (lv_at hl 3 rfl) ?_
      by_cases hsw : p1.toInt < 0 ∨ 6 < p1.toInt
      · refine lv_tableOut (tgt := 110) hx hb dX4_node_23 hsw (by decide) ?_
        replace hf := hf.1 hsw
        exact vx_throw0 (own := RX4) (cls := "java/lang/IndexOutOfBoundsException") (names := exN) (ik := 48) (ic := 50) hx hb hst hown (by decide +kernel) (by decide +kernel) w48 (hts (.initialized "java/lang/IndexOutOfBoundsException") (List.mem_of_getElem? (i := 2) rfl)) (hat_50 (fun w h => hts w (List.mem_cons_of_mem _ (List.mem_append_right _ (h)))) hXW) got_50 hZ.1 hZ.2 hS (hl.1.trans hml.symm) dX4_node_110 dX4_node_113 dX4_node_114 dX4_node_117 (fun x h => (hexc x h).elim) (Nat.le_of_ble_eq_true rfl) (Nat.le_of_ble_eq_true rfl) (Nat.le_of_ble_eq_true rfl) (Nat.le_of_ble_eq_true rfl) hlocks (fun t hvm hz hk => xe_of (state, left, tapeLen, tapeB, tLine, tReader, nodes) hf hP hD hS hz hk) hS.2.2 (Nat.le_refl _) (Nat.le_refl _)
      · by_cases hs0 : p1.toInt = 0
        · refine lv_tableIn (off := 41) (tgt := 64) hx hb dX4_node_23 (by omega) (by omega) (by rw [hs0]; rfl) (by decide) ?_
          replace hf := hf.2.1 hs0
          refine lv_aload_n hx hb dX4_node_64 rfl (lv_at hl 0 rfl) ?_
          refine va_get (D := (dC, dI)) (ci := 2) (v := .int ((nodes 0).1)) (C := RX2) (T := TX2) (N := 15) hx hb hts hinX2 hown hK.1 hP 8 rfl rfl 4 (by decide) w68 (fun _ h9 => h9) rfl dX4_node_65 ?_
          refine lv_if_eq (tgt := 78) hx hb dX4_node_68 (by decide) (fun c3 => ?_) (fun c3 => ?_)
          · replace hf := hf.1 c3
            refine lv_iconst (v := 0) hx hb dX4_node_78 (by decide) ?_
            refine vx_ret (W.widen (k := 1) (n := 6) (Nat.zero_le _) (Nat.zero_le _) ?_)
            exact W.iret (v := 0) hx hb hr (fun t ht hW => ⟨⟨0, (state, left, tapeLen, tapeB, tLine, tReader, nodes), rfl, hf, by rw [ht]; exact hP, hD⟩, hS.F ht⟩) hS.2.2 dX4_node_79
          · replace hf := hf.2 c3
            refine lv_aload_n hx hb dX4_node_71 rfl (lv_at hl 0 rfl) ?_
            refine va_get (D := (dC, dI)) (ci := 2) (v := .int ((nodes 0).2.1)) (C := RX2) (T := TX2) (N := 15) hx hb hts hinX2 hown hK.1 hP 8 rfl rfl 5 (by decide) w75 (fun _ h9 => h9) rfl dX4_node_72 ?_
            refine lv_goto (tgt := 79) hx hb dX4_node_75 (by decide) ?_
            refine vx_ret (W.widen (k := 1) (n := 6) (Nat.zero_le _) (Nat.zero_le _) ?_)
            exact W.iret (v := (nodes 0).2.1) hx hb hr (fun t ht hW => ⟨⟨(nodes 0).2.1, (state, left, tapeLen, tapeB, tLine, tReader, nodes), rfl, hf, by rw [ht]; exact hP, hD⟩, hS.F ht⟩) hS.2.2 dX4_node_79
        by_cases hs1 : p1.toInt = 1
        · refine lv_tableIn (off := 57) (tgt := 80) hx hb dX4_node_23 (by omega) (by omega) (by rw [hs1]; rfl) (by decide) ?_
          replace hf := hf.2.2.1 hs1
          refine lv_aload_n hx hb dX4_node_80 rfl (lv_at hl 0 rfl) ?_
          refine va_get (D := (dC, dI)) (ci := 2) (v := .int ((nodes 0).2.2.2.1)) (C := RX2) (T := TX2) (N := 15) hx hb hts hinX2 hown hK.1 hP 8 rfl rfl 7 (by decide) w78 (fun _ h9 => h9) rfl dX4_node_81 ?_
          refine vx_ret (W.widen (k := 1) (n := 6) (Nat.zero_le _) (Nat.zero_le _) ?_)
          exact W.iret (v := (nodes 0).2.2.2.1) hx hb hr (fun t ht hW => ⟨⟨(nodes 0).2.2.2.1, (state, left, tapeLen, tapeB, tLine, tReader, nodes), rfl, hf, by rw [ht]; exact hP, hD⟩, hS.F ht⟩) hS.2.2 dX4_node_84
        by_cases hs2 : p1.toInt = 2
        · refine lv_tableIn (off := 62) (tgt := 85) hx hb dX4_node_23 (by omega) (by omega) (by rw [hs2]; rfl) (by decide) ?_
          replace hf := hf.2.2.2.1 hs2
          refine lv_aload_n hx hb dX4_node_85 rfl (lv_at hl 0 rfl) ?_
          refine va_get (D := (dC, dI)) (ci := 2) (v := .int ((nodes 0).2.2.2.2.1)) (C := RX2) (T := TX2) (N := 15) hx hb hts hinX2 hown hK.1 hP 8 rfl rfl 8 (by decide) w81 (fun _ h9 => h9) rfl dX4_node_86 ?_
          refine vx_ret (W.widen (k := 1) (n := 6) (Nat.zero_le _) (Nat.zero_le _) ?_)
          exact W.iret (v := (nodes 0).2.2.2.2.1) hx hb hr (fun t ht hW => ⟨⟨(nodes 0).2.2.2.2.1, (state, left, tapeLen, tapeB, tLine, tReader, nodes), rfl, hf, by rw [ht]; exact hP, hD⟩, hS.F ht⟩) hS.2.2 dX4_node_89
        by_cases hs3 : p1.toInt = 3
        · refine lv_tableIn (off := 67) (tgt := 90) hx hb dX4_node_23 (by omega) (by omega) (by rw [hs3]; rfl) (by decide) ?_
          replace hf := hf.2.2.2.2.1 hs3
          refine lv_aload_n hx hb dX4_node_90 rfl (lv_at hl 0 rfl) ?_
          refine va_get (D := (dC, dI)) (ci := 2) (v := .int ((nodes 0).2.2.1)) (C := RX2) (T := TX2) (N := 15) hx hb hts hinX2 hown hK.1 hP 8 rfl rfl 6 (by decide) w54 (fun _ h9 => h9) rfl dX4_node_91 ?_
          refine vx_ret (W.widen (k := 1) (n := 6) (Nat.zero_le _) (Nat.zero_le _) ?_)
          exact W.iret (v := (nodes 0).2.2.1) hx hb hr (fun t ht hW => ⟨⟨(nodes 0).2.2.1, (state, left, tapeLen, tapeB, tLine, tReader, nodes), rfl, hf, by rw [ht]; exact hP, hD⟩, hS.F ht⟩) hS.2.2 dX4_node_94
        by_cases hs4 : p1.toInt = 4
        · refine lv_tableIn (off := 72) (tgt := 95) hx hb dX4_node_23 (by omega) (by omega) (by rw [hs4]; rfl) (by decide) ?_
          replace hf := hf.2.2.2.2.2.1 hs4
          refine lv_aload_n hx hb dX4_node_95 rfl (lv_at hl 0 rfl) ?_
          refine va_get (D := (dC, dI)) (ci := 2) (v := .int ((nodes 0).2.2.2.2.2.1)) (C := RX2) (T := TX2) (N := 15) hx hb hts hinX2 hown hK.1 hP 8 rfl rfl 9 (by decide) w84 (fun _ h9 => h9) rfl dX4_node_96 ?_
          refine vx_ret (W.widen (k := 1) (n := 6) (Nat.zero_le _) (Nat.zero_le _) ?_)
          exact W.iret (v := (nodes 0).2.2.2.2.2.1) hx hb hr (fun t ht hW => ⟨⟨(nodes 0).2.2.2.2.2.1, (state, left, tapeLen, tapeB, tLine, tReader, nodes), rfl, hf, by rw [ht]; exact hP, hD⟩, hS.F ht⟩) hS.2.2 dX4_node_99
        by_cases hs5 : p1.toInt = 5
        · refine lv_tableIn (off := 77) (tgt := 100) hx hb dX4_node_23 (by omega) (by omega) (by rw [hs5]; rfl) (by decide) ?_
          replace hf := hf.2.2.2.2.2.2.1 hs5
          refine lv_aload_n hx hb dX4_node_100 rfl (lv_at hl 0 rfl) ?_
          refine va_get (D := (dC, dI)) (ci := 2) (v := .int ((nodes 0).2.2.2.2.2.2.1)) (C := RX2) (T := TX2) (N := 15) hx hb hts hinX2 hown hK.1 hP 8 rfl rfl 10 (by decide) w87 (fun _ h9 => h9) rfl dX4_node_101 ?_
          refine vx_ret (W.widen (k := 1) (n := 6) (Nat.zero_le _) (Nat.zero_le _) ?_)
          exact W.iret (v := (nodes 0).2.2.2.2.2.2.1) hx hb hr (fun t ht hW => ⟨⟨(nodes 0).2.2.2.2.2.2.1, (state, left, tapeLen, tapeB, tLine, tReader, nodes), rfl, hf, by rw [ht]; exact hP, hD⟩, hS.F ht⟩) hS.2.2 dX4_node_104
        by_cases hs6 : p1.toInt = 6
        · refine lv_tableIn (off := 82) (tgt := 105) hx hb dX4_node_23 (by omega) (by omega) (by rw [hs6]; rfl) (by decide) ?_
          replace hf := hf.2.2.2.2.2.2.2 hs6
          refine lv_aload_n hx hb dX4_node_105 rfl (lv_at hl 0 rfl) ?_
          refine va_get (D := (dC, dI)) (ci := 2) (v := .int ((nodes 0).2.2.2.2.2.2.2.1)) (C := RX2) (T := TX2) (N := 15) hx hb hts hinX2 hown hK.1 hP 8 rfl rfl 11 (by decide) w90 (fun _ h9 => h9) rfl dX4_node_106 ?_
          refine vx_ret (W.widen (k := 1) (n := 6) (Nat.zero_le _) (Nat.zero_le _) ?_)
          exact W.iret (v := (nodes 0).2.2.2.2.2.2.2.1) hx hb hr (fun t ht hW => ⟨⟨(nodes 0).2.2.2.2.2.2.2.1, (state, left, tapeLen, tapeB, tLine, tReader, nodes), rfl, hf, by rw [ht]; exact hP, hD⟩, hS.F ht⟩) hS.2.2 dX4_node_109
        · exact absurd hsw (by omega)
    · replace hf := hf1 e9
      subst e9
      refine ar_qld (j := 1) hx hb hK.1 hP 1 4 rfl rfl (clamp_lit 1 rfl) (vin_lit 1 4 rfl rfl) dX4_node_20 ?_
      refine lv_astore_n (lv' := [(3, .ref ((a.2.2.2.2.2 1).1)), (0, .ref a.1), (1, .int 1), (2, .int p1)]) hx hb dX4_node_21 rfl hl (by decide) rfl (fun ls hl => ?_)
      refine lv_iload_n hx hb dX4_node_22 rfl (lv_at hl 3 rfl) ?_
      by_cases hsw : p1.toInt < 0 ∨ 6 < p1.toInt
      · refine lv_tableOut (tgt := 110) hx hb dX4_node_23 hsw (by decide) ?_
        replace hf := hf.1 hsw
        exact vx_throw0 (own := RX4) (cls := "java/lang/IndexOutOfBoundsException") (names := exN) (ik := 48) (ic := 50) hx hb hst hown (by decide +kernel) (by decide +kernel) w48 (hts (.initialized "java/lang/IndexOutOfBoundsException") (List.mem_of_getElem? (i := 2) rfl)) (hat_50 (fun w h => hts w (List.mem_cons_of_mem _ (List.mem_append_right _ (h)))) hXW) got_50 hZ.1 hZ.2 hS (hl.1.trans hml.symm) dX4_node_110 dX4_node_113 dX4_node_114 dX4_node_117 (fun x h => (hexc x h).elim) (Nat.le_of_ble_eq_true rfl) (Nat.le_of_ble_eq_true rfl) (Nat.le_of_ble_eq_true rfl) (Nat.le_of_ble_eq_true rfl) hlocks (fun t hvm hz hk => xe_of (state, left, tapeLen, tapeB, tLine, tReader, nodes) hf hP hD hS hz hk) hS.2.2 (Nat.le_refl _) (Nat.le_refl _)
      · by_cases hs0 : p1.toInt = 0
        · refine lv_tableIn (off := 41) (tgt := 64) hx hb dX4_node_23 (by omega) (by omega) (by rw [hs0]; rfl) (by decide) ?_
          replace hf := hf.2.1 hs0
          refine lv_aload_n hx hb dX4_node_64 rfl (lv_at hl 0 rfl) ?_
          refine va_get (D := (dC, dI)) (ci := 2) (v := .int ((nodes 1).1)) (C := RX2) (T := TX2) (N := 15) hx hb hts hinX2 hown hK.1 hP 20 rfl rfl 4 (by decide) w68 (fun _ h9 => h9) rfl dX4_node_65 ?_
          refine lv_if_eq (tgt := 78) hx hb dX4_node_68 (by decide) (fun c4 => ?_) (fun c4 => ?_)
          · replace hf := hf.1 c4
            refine lv_iconst (v := 0) hx hb dX4_node_78 (by decide) ?_
            refine vx_ret (W.widen (k := 1) (n := 6) (Nat.zero_le _) (Nat.zero_le _) ?_)
            exact W.iret (v := 0) hx hb hr (fun t ht hW => ⟨⟨0, (state, left, tapeLen, tapeB, tLine, tReader, nodes), rfl, hf, by rw [ht]; exact hP, hD⟩, hS.F ht⟩) hS.2.2 dX4_node_79
          · replace hf := hf.2 c4
            refine lv_aload_n hx hb dX4_node_71 rfl (lv_at hl 0 rfl) ?_
            refine va_get (D := (dC, dI)) (ci := 2) (v := .int ((nodes 1).2.1)) (C := RX2) (T := TX2) (N := 15) hx hb hts hinX2 hown hK.1 hP 20 rfl rfl 5 (by decide) w75 (fun _ h9 => h9) rfl dX4_node_72 ?_
            refine lv_goto (tgt := 79) hx hb dX4_node_75 (by decide) ?_
            refine vx_ret (W.widen (k := 1) (n := 6) (Nat.zero_le _) (Nat.zero_le _) ?_)
            exact W.iret (v := (nodes 1).2.1) hx hb hr (fun t ht hW => ⟨⟨(nodes 1).2.1, (state, left, tapeLen, tapeB, tLine, tReader, nodes), rfl, hf, by rw [ht]; exact hP, hD⟩, hS.F ht⟩) hS.2.2 dX4_node_79
        by_cases hs1 : p1.toInt = 1
        · refine lv_tableIn (off := 57) (tgt := 80) hx hb dX4_node_23 (by omega) (by omega) (by rw [hs1]; rfl) (by decide) ?_
          replace hf := hf.2.2.1 hs1
          refine lv_aload_n hx hb dX4_node_80 rfl (lv_at hl 0 rfl) ?_
          refine va_get (D := (dC, dI)) (ci := 2) (v := .int ((nodes 1).2.2.2.1)) (C := RX2) (T := TX2) (N := 15) hx hb hts hinX2 hown hK.1 hP 20 rfl rfl 7 (by decide) w78 (fun _ h9 => h9) rfl dX4_node_81 ?_
          refine vx_ret (W.widen (k := 1) (n := 6) (Nat.zero_le _) (Nat.zero_le _) ?_)
          exact W.iret (v := (nodes 1).2.2.2.1) hx hb hr (fun t ht hW => ⟨⟨(nodes 1).2.2.2.1, (state, left, tapeLen, tapeB, tLine, tReader, nodes), rfl, hf, by rw [ht]; exact hP, hD⟩, hS.F ht⟩) hS.2.2 dX4_node_84
        by_cases hs2 : p1.toInt = 2
        · refine lv_tableIn (off := 62) (tgt := 85) hx hb dX4_node_23 (by omega) (by omega) (by rw [hs2]; rfl) (by decide) ?_
          replace hf := hf.2.2.2.1 hs2
          refine lv_aload_n hx hb dX4_node_85 rfl (lv_at hl 0 rfl) ?_
          refine va_get (D := (dC, dI)) (ci := 2) (v := .int ((nodes 1).2.2.2.2.1)) (C := RX2) (T := TX2) (N := 15) hx hb hts hinX2 hown hK.1 hP 20 rfl rfl 8 (by decide) w81 (fun _ h9 => h9) rfl dX4_node_86 ?_
          refine vx_ret (W.widen (k := 1) (n := 6) (Nat.zero_le _) (Nat.zero_le _) ?_)
          exact W.iret (v := (nodes 1).2.2.2.2.1) hx hb hr (fun t ht hW => ⟨⟨(nodes 1).2.2.2.2.1, (state, left, tapeLen, tapeB, tLine, tReader, nodes), rfl, hf, by rw [ht]; exact hP, hD⟩, hS.F ht⟩) hS.2.2 dX4_node_89
        by_cases hs3 : p1.toInt = 3
        · refine lv_tableIn (off := 67) (tgt := 90) hx hb dX4_node_23 (by omega) (by omega) (by rw [hs3]; rfl) (by decide) ?_
          replace hf := hf.2.2.2.2.1 hs3
          refine lv_aload_n hx hb dX4_node_90 rfl (lv_at hl 0 rfl) ?_
          refine va_get (D := (dC, dI)) (ci := 2) (v := .int ((nodes 1).2.2.1)) (C := RX2) (T := TX2) (N := 15) hx hb hts hinX2 hown hK.1 hP 20 rfl rfl 6 (by decide) w54 (fun _ h9 => h9) rfl dX4_node_91 ?_
          refine vx_ret (W.widen (k := 1) (n := 6) (Nat.zero_le _) (Nat.zero_le _) ?_)
          exact W.iret (v := (nodes 1).2.2.1) hx hb hr (fun t ht hW => ⟨⟨(nodes 1).2.2.1, (state, left, tapeLen, tapeB, tLine, tReader, nodes), rfl, hf, by rw [ht]; exact hP, hD⟩, hS.F ht⟩) hS.2.2 dX4_node_94
        by_cases hs4 : p1.toInt = 4
        · refine lv_tableIn (off := 72) (tgt := 95) hx hb dX4_node_23 (by omega) (by omega) (by rw [hs4]; rfl) (by decide) ?_
          replace hf := hf.2.2.2.2.2.1 hs4
          refine lv_aload_n hx hb dX4_node_95 rfl (lv_at hl 0 rfl) ?_
          refine va_get (D := (dC, dI)) (ci := 2) (v := .int ((nodes 1).2.2.2.2.2.1)) (C := RX2) (T := TX2) (N := 15) hx hb hts hinX2 hown hK.1 hP 20 rfl rfl 9 (by decide) w84 (fun _ h9 => h9) rfl dX4_node_96 ?_
          refine vx_ret (W.widen (k := 1) (n := 6) (Nat.zero_le _) (Nat.zero_le _) ?_)
          exact W.iret (v := (nodes 1).2.2.2.2.2.1) hx hb hr (fun t ht hW => ⟨⟨(nodes 1).2.2.2.2.2.1, (state, left, tapeLen, tapeB, tLine, tReader, nodes), rfl, hf, by rw [ht]; exact hP, hD⟩, hS.F ht⟩) hS.2.2 dX4_node_99
        by_cases hs5 : p1.toInt = 5
        · refine lv_tableIn (off := 77) (tgt := 100) hx hb dX4_node_23 (by omega) (by omega) (by rw [hs5]; rfl) (by decide) ?_
          replace hf := hf.2.2.2.2.2.2.1 hs5
          refine lv_aload_n hx hb dX4_node_100 rfl (lv_at hl 0 rfl) ?_
          refine va_get (D := (dC, dI)) (ci := 2) (v := .int ((nodes 1).2.2.2.2.2.2.1)) (C := RX2) (T := TX2) (N := 15) hx hb hts hinX2 hown hK.1 hP 20 rfl rfl 10 (by decide) w87 (fun _ h9 => h9) rfl dX4_node_101 ?_
          refine vx_ret (W.widen (k := 1) (n := 6) (Nat.zero_le _) (Nat.zero_le _) ?_)
          exact W.iret (v := (nodes 1).2.2.2.2.2.2.1) hx hb hr (fun t ht hW => ⟨⟨(nodes 1).2.2.2.2.2.2.1, (state, left, tapeLen, tapeB, tLine, tReader, nodes), rfl, hf, by rw [ht]; exact hP, hD⟩, hS.F ht⟩) hS.2.2 dX4_node_104
        by_cases hs6 : p1.toInt = 6
        · refine lv_tableIn (off := 82) (tgt := 105) hx hb dX4_node_23 (by omega) (by omega) (by rw [hs6]; rfl) (by decide) ?_
          replace hf := hf.2.2.2.2.2.2.2 hs6
          refine lv_aload_n hx hb dX4_node_105 rfl (lv_at hl 0 rfl) ?_
          refine va_get (D := (dC, dI)) (ci := 2) (v := .int ((nodes 1).2.2.2.2.2.2.2.1)) (C := RX2) (T := TX2) (N := 15) hx hb hts hinX2 hown hK.1 hP 20 rfl rfl 11 (by decide) w90 (fun _ h9 => h9) rfl dX4_node_106 ?_
          refine vx_ret (W.widen (k := 1) (n := 6) (Nat.zero_le _) (Nat.zero_le _) ?_)
          exact W.iret (v := (nodes 1).2.2.2.2.2.2.2.1) hx hb hr (fun t ht hW => ⟨⟨(nodes 1).2.2.2.2.2.2.2.1, (state, left, tapeLen, tapeB, tLine, tReader, nodes), rfl, hf, by rw [ht]; exact hP, hD⟩, hS.F ht⟩) hS.2.2 dX4_node_109
        · exact absurd hsw (by omega)
    · replace hf := hf2 e9
      subst e9
      refine ar_qld (j := 2) hx hb hK.1 hP 1 4 rfl rfl (clamp_lit 2 rfl) (vin_lit 2 4 rfl rfl) dX4_node_20 ?_
      refine lv_astore_n (lv' := [(3, .ref ((a.2.2.2.2.2 2).1)), (0, .ref a.1), (1, .int 2), (2, .int p1)]) hx hb dX4_node_21 rfl hl (by decide) rfl (fun ls hl => ?_)
      refine lv_iload_n hx hb dX4_node_22 rfl (lv_at hl 3 rfl) ?_
      by_cases hsw : p1.toInt < 0 ∨ 6 < p1.toInt
      · refine lv_tableOut (tgt := 110) hx hb dX4_node_23 hsw (by decide) ?_
        replace hf := hf.1 hsw
        exact vx_throw0 (own := RX4) (cls := "java/lang/IndexOutOfBoundsException") (names := exN) (ik := 48) (ic := 50) hx hb hst hown (by decide +kernel) (by decide +kernel) w48 (hts (.initialized "java/lang/IndexOutOfBoundsException") (List.mem_of_getElem? (i := 2) rfl)) (hat_50 (fun w h => hts w (List.mem_cons_of_mem _ (List.mem_append_right _ (h)))) hXW) got_50 hZ.1 hZ.2 hS (hl.1.trans hml.symm) dX4_node_110 dX4_node_113 dX4_node_114 dX4_node_117 (fun x h => (hexc x h).elim) (Nat.le_of_ble_eq_true rfl) (Nat.le_of_ble_eq_true rfl) (Nat.le_of_ble_eq_true rfl) (Nat.le_of_ble_eq_true rfl) hlocks (fun t hvm hz hk => xe_of (state, left, tapeLen, tapeB, tLine, tReader, nodes) hf hP hD hS hz hk) hS.2.2 (Nat.le_refl _) (Nat.le_refl _)
      · by_cases hs0 : p1.toInt = 0
        · refine lv_tableIn (off := 41) (tgt := 64) hx hb dX4_node_23 (by omega) (by omega) (by rw [hs0]; rfl) (by decide) ?_
          replace hf := hf.2.1 hs0
          refine lv_aload_n hx hb dX4_node_64 rfl (lv_at hl 0 rfl) ?_
          refine va_get (D := (dC, dI)) (ci := 2) (v := .int ((nodes 2).1)) (C := RX2) (T := TX2) (N := 15) hx hb hts hinX2 hown hK.1 hP 32 rfl rfl 4 (by decide) w68 (fun _ h9 => h9) rfl dX4_node_65 ?_
          refine lv_if_eq (tgt := 78) hx hb dX4_node_68 (by decide) (fun c5 => ?_) (fun c5 => ?_)
          · replace hf := hf.1 c5
            refine lv_iconst (v := 0) hx hb dX4_node_78 (by decide) ?_
            refine vx_ret (W.widen (k := 1) (n := 6) (Nat.zero_le _) (Nat.zero_le _) ?_)
            exact W.iret (v := 0) hx hb hr (fun t ht hW => ⟨⟨0, (state, left, tapeLen, tapeB, tLine, tReader, nodes), rfl, hf, by rw [ht]; exact hP, hD⟩, hS.F ht⟩) hS.2.2 dX4_node_79
          · replace hf := hf.2 c5
            refine lv_aload_n hx hb dX4_node_71 rfl (lv_at hl 0 rfl) ?_
            refine va_get (D := (dC, dI)) (ci := 2) (v := .int ((nodes 2).2.1)) (C := RX2) (T := TX2) (N := 15) hx hb hts hinX2 hown hK.1 hP 32 rfl rfl 5 (by decide) w75 (fun _ h9 => h9) rfl dX4_node_72 ?_
            refine lv_goto (tgt := 79) hx hb dX4_node_75 (by decide) ?_
            refine vx_ret (W.widen (k := 1) (n := 6) (Nat.zero_le _) (Nat.zero_le _) ?_)
            exact W.iret (v := (nodes 2).2.1) hx hb hr (fun t ht hW => ⟨⟨(nodes 2).2.1, (state, left, tapeLen, tapeB, tLine, tReader, nodes), rfl, hf, by rw [ht]; exact hP, hD⟩, hS.F ht⟩) hS.2.2 dX4_node_79
        by_cases hs1 : p1.toInt = 1
        · refine lv_tableIn (off := 57) (tgt := 80) hx hb dX4_node_23 (by omega) (by omega) (by rw [hs1]; rfl) (by decide) ?_
          replace hf := hf.2.2.1 hs1
          refine lv_aload_n hx hb dX4_node_80 rfl (lv_at hl 0 rfl) ?_
          refine va_get (D := (dC, dI)) (ci := 2) (v := .int ((nodes 2).2.2.2.1)) (C := RX2) (T := TX2) (N := 15) hx hb hts hinX2 hown hK.1 hP 32 rfl rfl 7 (by decide) w78 (fun _ h9 => h9) rfl dX4_node_81 ?_
          refine vx_ret (W.widen (k := 1) (n := 6) (Nat.zero_le _) (Nat.zero_le _) ?_)
          exact W.iret (v := (nodes 2).2.2.2.1) hx hb hr (fun t ht hW => ⟨⟨(nodes 2).2.2.2.1, (state, left, tapeLen, tapeB, tLine, tReader, nodes), rfl, hf, by rw [ht]; exact hP, hD⟩, hS.F ht⟩) hS.2.2 dX4_node_84
        by_cases hs2 : p1.toInt = 2
        · refine lv_tableIn (off := 62) (tgt := 85) hx hb dX4_node_23 (by omega) (by omega) (by rw [hs2]; rfl) (by decide) ?_
          replace hf := hf.2.2.2.1 hs2
          refine lv_aload_n hx hb dX4_node_85 rfl (lv_at hl 0 rfl) ?_
          refine va_get (D := (dC, dI)) (ci := 2) (v := .int ((nodes 2).2.2.2.2.1)) (C := RX2) (T := TX2) (N := 15) hx hb hts hinX2 hown hK.1 hP 32 rfl rfl 8 (by decide) w81 (fun _ h9 => h9) rfl dX4_node_86 ?_
          refine vx_ret (W.widen (k := 1) (n := 6) (Nat.zero_le _) (Nat.zero_le _) ?_)
          exact W.iret (v := (nodes 2).2.2.2.2.1) hx hb hr (fun t ht hW => ⟨⟨(nodes 2).2.2.2.2.1, (state, left, tapeLen, tapeB, tLine, tReader, nodes), rfl, hf, by rw [ht]; exact hP, hD⟩, hS.F ht⟩) hS.2.2 dX4_node_89
        by_cases hs3 : p1.toInt = 3
        · refine lv_tableIn (off := 67) (tgt := 90) hx hb dX4_node_23 (by omega) (by omega) (by rw [hs3]; rfl) (by decide) ?_
          replace hf := hf.2.2.2.2.1 hs3
          refine lv_aload_n hx hb dX4_node_90 rfl (lv_at hl 0 rfl) ?_
          refine va_get (D := (dC, dI)) (ci := 2) (v := .int ((nodes 2).2.2.1)) (C := RX2) (T := TX2) (N := 15) hx hb hts hinX2 hown hK.1 hP 32 rfl rfl 6 (by decide) w54 (fun _ h9 => h9) rfl dX4_node_91 ?_
          refine vx_ret (W.widen (k := 1) (n := 6) (Nat.zero_le _) (Nat.zero_le _) ?_)
          exact W.iret (v := (nodes 2).2.2.1) hx hb hr (fun t ht hW => ⟨⟨(nodes 2).2.2.1, (state, left, tapeLen, tapeB, tLine, tReader, nodes), rfl, hf, by rw [ht]; exact hP, hD⟩, hS.F ht⟩) hS.2.2 dX4_node_94
        by_cases hs4 : p1.toInt = 4
        · refine lv_tableIn (off := 72) (tgt := 95) hx hb dX4_node_23 (by omega) (by omega) (by rw [hs4]; rfl) (by decide) ?_
          replace hf := hf.2.2.2.2.2.1 hs4
          refine lv_aload_n hx hb dX4_node_95 rfl (lv_at hl 0 rfl) ?_
          refine va_get (D := (dC, dI)) (ci := 2) (v := .int ((nodes 2).2.2.2.2.2.1)) (C := RX2) (T := TX2) (N := 15) hx hb hts hinX2 hown hK.1 hP 32 rfl rfl 9 (by decide) w84 (fun _ h9 => h9) rfl dX4_node_96 ?_
          refine vx_ret (W.widen (k := 1) (n := 6) (Nat.zero_le _) (Nat.zero_le _) ?_)
          exact W.iret (v := (nodes 2).2.2.2.2.2.1) hx hb hr (fun t ht hW => ⟨⟨(nodes 2).2.2.2.2.2.1, (state, left, tapeLen, tapeB, tLine, tReader, nodes), rfl, hf, by rw [ht]; exact hP, hD⟩, hS.F ht⟩) hS.2.2 dX4_node_99
        by_cases hs5 : p1.toInt = 5
        · refine lv_tableIn (off := 77) (tgt := 100) hx hb dX4_node_23 (by omega) (by omega) (by rw [hs5]; rfl) (by decide) ?_
          replace hf := hf.2.2.2.2.2.2.1 hs5
          refine lv_aload_n hx hb dX4_node_100 rfl (lv_at hl 0 rfl) ?_
          refine va_get (D := (dC, dI)) (ci := 2) (v := .int ((nodes 2).2.2.2.2.2.2.1)) (C := RX2) (T := TX2) (N := 15) hx hb hts hinX2 hown hK.1 hP 32 rfl rfl 10 (by decide) w87 (fun _ h9 => h9) rfl dX4_node_101 ?_
          refine vx_ret (W.widen (k := 1) (n := 6) (Nat.zero_le _) (Nat.zero_le _) ?_)
          exact W.iret (v := (nodes 2).2.2.2.2.2.2.1) hx hb hr (fun t ht hW => ⟨⟨(nodes 2).2.2.2.2.2.2.1, (state, left, tapeLen, tapeB, tLine, tReader, nodes), rfl, hf, by rw [ht]; exact hP, hD⟩, hS.F ht⟩) hS.2.2 dX4_node_104
        by_cases hs6 : p1.toInt = 6
        · refine lv_tableIn (off := 82) (tgt := 105) hx hb dX4_node_23 (by omega) (by omega) (by rw [hs6]; rfl) (by decide) ?_
          replace hf := hf.2.2.2.2.2.2.2 hs6
          refine lv_aload_n hx hb dX4_node_105 rfl (lv_at hl 0 rfl) ?_
          refine va_get (D := (dC, dI)) (ci := 2) (v := .int ((nodes 2).2.2.2.2.2.2.2.1)) (C := RX2) (T := TX2) (N := 15) hx hb hts hinX2 hown hK.1 hP 32 rfl rfl 11 (by decide) w90 (fun _ h9 => h9) rfl dX4_node_106 ?_
          refine vx_ret (W.widen (k := 1) (n := 6) (Nat.zero_le _) (Nat.zero_le _) ?_)
          exact W.iret (v := (nodes 2).2.2.2.2.2.2.2.1) hx hb hr (fun t ht hW => ⟨⟨(nodes 2).2.2.2.2.2.2.2.1, (state, left, tapeLen, tapeB, tLine, tReader, nodes), rfl, hf, by rw [ht]; exact hP, hD⟩, hS.F ht⟩) hS.2.2 dX4_node_109
        · exact absurd hsw (by omega)
    · replace hf := hf3 e9
      subst e9
      refine ar_qld (j := 3) hx hb hK.1 hP 1 4 rfl rfl (clamp_lit 3 rfl) (vin_lit 3 4 rfl rfl) dX4_node_20 ?_
      refine lv_astore_n (lv' := [(3, .ref ((a.2.2.2.2.2 3).1)), (0, .ref a.1), (1, .int 3), (2, .int p1)]) hx hb dX4_node_21 rfl hl (by decide) rfl (fun ls hl => ?_)
      refine lv_iload_n hx hb dX4_node_22 rfl (lv_at hl 3 rfl) ?_
      by_cases hsw : p1.toInt < 0 ∨ 6 < p1.toInt
      · refine lv_tableOut (tgt := 110) hx hb dX4_node_23 hsw (by decide) ?_
        replace hf := hf.1 hsw
        exact vx_throw0 (own := RX4) (cls := "java/lang/IndexOutOfBoundsException") (names := exN) (ik := 48) (ic := 50) hx hb hst hown (by decide +kernel) (by decide +kernel) w48 (hts (.initialized "java/lang/IndexOutOfBoundsException") (List.mem_of_getElem? (i := 2) rfl)) (hat_50 (fun w h => hts w (List.mem_cons_of_mem _ (List.mem_append_right _ (h)))) hXW) got_50 hZ.1 hZ.2 hS (hl.1.trans hml.symm) dX4_node_110 dX4_node_113 dX4_node_114 dX4_node_117 (fun x h => (hexc x h).elim) (Nat.le_of_ble_eq_true rfl) (Nat.le_of_ble_eq_true rfl) (Nat.le_of_ble_eq_true rfl) (Nat.le_of_ble_eq_true rfl) hlocks (fun t hvm hz hk => xe_of (state, left, tapeLen, tapeB, tLine, tReader, nodes) hf hP hD hS hz hk) hS.2.2 (Nat.le_refl _) (Nat.le_refl _)
      · by_cases hs0 : p1.toInt = 0
        · refine lv_tableIn (off := 41) (tgt := 64) hx hb dX4_node_23 (by omega) (by omega) (by rw [hs0]; rfl) (by decide) ?_
          replace hf := hf.2.1 hs0
          refine lv_aload_n hx hb dX4_node_64 rfl (lv_at hl 0 rfl) ?_
          refine va_get (D := (dC, dI)) (ci := 2) (v := .int ((nodes 3).1)) (C := RX2) (T := TX2) (N := 15) hx hb hts hinX2 hown hK.1 hP 44 rfl rfl 4 (by decide) w68 (fun _ h9 => h9) rfl dX4_node_65 ?_
          refine lv_if_eq (tgt := 78) hx hb dX4_node_68 (by decide) (fun c6 => ?_) (fun c6 => ?_)
          · replace hf := hf.1 c6
            refine lv_iconst (v := 0) hx hb dX4_node_78 (by decide) ?_
            refine vx_ret (W.widen (k := 1) (n := 6) (Nat.zero_le _) (Nat.zero_le _) ?_)
            exact W.iret (v := 0) hx hb hr (fun t ht hW => ⟨⟨0, (state, left, tapeLen, tapeB, tLine, tReader, nodes), rfl, hf, by rw [ht]; exact hP, hD⟩, hS.F ht⟩) hS.2.2 dX4_node_79
          · replace hf := hf.2 c6
            refine lv_aload_n hx hb dX4_node_71 rfl (lv_at hl 0 rfl) ?_
            refine va_get (D := (dC, dI)) (ci := 2) (v := .int ((nodes 3).2.1)) (C := RX2) (T := TX2) (N := 15) hx hb hts hinX2 hown hK.1 hP 44 rfl rfl 5 (by decide) w75 (fun _ h9 => h9) rfl dX4_node_72 ?_
            refine lv_goto (tgt := 79) hx hb dX4_node_75 (by decide) ?_
            refine vx_ret (W.widen (k := 1) (n := 6) (Nat.zero_le _) (Nat.zero_le _) ?_)
            exact W.iret (v := (nodes 3).2.1) hx hb hr (fun t ht hW => ⟨⟨(nodes 3).2.1, (state, left, tapeLen, tapeB, tLine, tReader, nodes), rfl, hf, by rw [ht]; exact hP, hD⟩, hS.F ht⟩) hS.2.2 dX4_node_79
        by_cases hs1 : p1.toInt = 1
        · refine lv_tableIn (off := 57) (tgt := 80) hx hb dX4_node_23 (by omega) (by omega) (by rw [hs1]; rfl) (by decide) ?_
          replace hf := hf.2.2.1 hs1
          refine lv_aload_n hx hb dX4_node_80 rfl (lv_at hl 0 rfl) ?_
          refine va_get (D := (dC, dI)) (ci := 2) (v := .int ((nodes 3).2.2.2.1)) (C := RX2) (T := TX2) (N := 15) hx hb hts hinX2 hown hK.1 hP 44 rfl rfl 7 (by decide) w78 (fun _ h9 => h9) rfl dX4_node_81 ?_
          refine vx_ret (W.widen (k := 1) (n := 6) (Nat.zero_le _) (Nat.zero_le _) ?_)
          exact W.iret (v := (nodes 3).2.2.2.1) hx hb hr (fun t ht hW => ⟨⟨(nodes 3).2.2.2.1, (state, left, tapeLen, tapeB, tLine, tReader, nodes), rfl, hf, by rw [ht]; exact hP, hD⟩, hS.F ht⟩) hS.2.2 dX4_node_84
        by_cases hs2 : p1.toInt = 2
        · refine lv_tableIn (off := 62) (tgt := 85) hx hb dX4_node_23 (by omega) (by omega) (by rw [hs2]; rfl) (by decide) ?_
          replace hf := hf.2.2.2.1 hs2
          refine lv_aload_n hx hb dX4_node_85 rfl (lv_at hl 0 rfl) ?_
          refine va_get (D := (dC, dI)) (ci := 2) (v := .int ((nodes 3).2.2.2.2.1)) (C := RX2) (T := TX2) (N := 15) hx hb hts hinX2 hown hK.1 hP 44 rfl rfl 8 (by decide) w81 (fun _ h9 => h9) rfl dX4_node_86 ?_
          refine vx_ret (W.widen (k := 1) (n := 6) (Nat.zero_le _) (Nat.zero_le _) ?_)
          exact W.iret (v := (nodes 3).2.2.2.2.1) hx hb hr (fun t ht hW => ⟨⟨(nodes 3).2.2.2.2.1, (state, left, tapeLen, tapeB, tLine, tReader, nodes), rfl, hf, by rw [ht]; exact hP, hD⟩, hS.F ht⟩) hS.2.2 dX4_node_89
        by_cases hs3 : p1.toInt = 3
        · refine lv_tableIn (off := 67) (tgt := 90) hx hb dX4_node_23 (by omega) (by omega) (by rw [hs3]; rfl) (by decide) ?_
          replace hf := hf.2.2.2.2.1 hs3
          refine lv_aload_n hx hb dX4_node_90 rfl (lv_at hl 0 rfl) ?_
          refine va_get (D := (dC, dI)) (ci := 2) (v := .int ((nodes 3).2.2.1)) (C := RX2) (T := TX2) (N := 15) hx hb hts hinX2 hown hK.1 hP 44 rfl rfl 6 (by decide) w54 (fun _ h9 => h9) rfl dX4_node_91 ?_
          refine vx_ret (W.widen (k := 1) (n := 6) (Nat.zero_le _) (Nat.zero_le _) ?_)
          exact W.iret (v := (nodes 3).2.2.1) hx hb hr (fun t ht hW => ⟨⟨(nodes 3).2.2.1, (state, left, tapeLen, tapeB, tLine, tReader, nodes), rfl, hf, by rw [ht]; exact hP, hD⟩, hS.F ht⟩) hS.2.2 dX4_node_94
        by_cases hs4 : p1.toInt = 4
        · refine lv_tableIn (off := 72) (tgt := 95) hx hb dX4_node_23 (by omega) (by omega) (by rw [hs4]; rfl) (by decide) ?_
          replace hf := hf.2.2.2.2.2.1 hs4
          refine lv_aload_n hx hb dX4_node_95 rfl (lv_at hl 0 rfl) ?_
          refine va_get (D := (dC, dI)) (ci := 2) (v := .int ((nodes 3).2.2.2.2.2.1)) (C := RX2) (T := TX2) (N := 15) hx hb hts hinX2 hown hK.1 hP 44 rfl rfl 9 (by decide) w84 (fun _ h9 => h9) rfl dX4_node_96 ?_
          refine vx_ret (W.widen (k := 1) (n := 6) (Nat.zero_le _) (Nat.zero_le _) ?_)
          exact W.iret (v := (nodes 3).2.2.2.2.2.1) hx hb hr (fun t ht hW => ⟨⟨(nodes 3).2.2.2.2.2.1, (state, left, tapeLen, tapeB, tLine, tReader, nodes), rfl, hf, by rw [ht]; exact hP, hD⟩, hS.F ht⟩) hS.2.2 dX4_node_99
        by_cases hs5 : p1.toInt = 5
        · refine lv_tableIn (off := 77) (tgt := 100) hx hb dX4_node_23 (by omega) (by omega) (by rw [hs5]; rfl) (by decide) ?_
          replace hf := hf.2.2.2.2.2.2.1 hs5
          refine lv_aload_n hx hb dX4_node_100 rfl (lv_at hl 0 rfl) ?_
          refine va_get (D := (dC, dI)) (ci := 2) (v := .int ((nodes 3).2.2.2.2.2.2.1)) (C := RX2) (T := TX2) (N := 15) hx hb hts hinX2 hown hK.1 hP 44 rfl rfl 10 (by decide) w87 (fun _ h9 => h9) rfl dX4_node_101 ?_
          refine vx_ret (W.widen (k := 1) (n := 6) (Nat.zero_le _) (Nat.zero_le _) ?_)
          exact W.iret (v := (nodes 3).2.2.2.2.2.2.1) hx hb hr (fun t ht hW => ⟨⟨(nodes 3).2.2.2.2.2.2.1, (state, left, tapeLen, tapeB, tLine, tReader, nodes), rfl, hf, by rw [ht]; exact hP, hD⟩, hS.F ht⟩) hS.2.2 dX4_node_104
        by_cases hs6 : p1.toInt = 6
        · refine lv_tableIn (off := 82) (tgt := 105) hx hb dX4_node_23 (by omega) (by omega) (by rw [hs6]; rfl) (by decide) ?_
          replace hf := hf.2.2.2.2.2.2.2 hs6
          refine lv_aload_n hx hb dX4_node_105 rfl (lv_at hl 0 rfl) ?_
          refine va_get (D := (dC, dI)) (ci := 2) (v := .int ((nodes 3).2.2.2.2.2.2.2.1)) (C := RX2) (T := TX2) (N := 15) hx hb hts hinX2 hown hK.1 hP 44 rfl rfl 11 (by decide) w90 (fun _ h9 => h9) rfl dX4_node_106 ?_
          refine vx_ret (W.widen (k := 1) (n := 6) (Nat.zero_le _) (Nat.zero_le _) ?_)
          exact W.iret (v := (nodes 3).2.2.2.2.2.2.2.1) hx hb hr (fun t ht hW => ⟨⟨(nodes 3).2.2.2.2.2.2.2.1, (state, left, tapeLen, tapeB, tLine, tReader, nodes), rfl, hf, by rw [ht]; exact hP, hD⟩, hS.F ht⟩) hS.2.2 dX4_node_109
        · exact absurd hsw (by omega)
  · replace hf := hf.2 c2
    exact vx_throw0 (own := RX4) (cls := "java/lang/IndexOutOfBoundsException") (names := exN) (ik := 48) (ic := 50) hx hb hst hown (by decide +kernel) (by decide +kernel) w48 (hts (.initialized "java/lang/IndexOutOfBoundsException") (List.mem_of_getElem? (i := 2) rfl)) (hat_50 (fun w h => hts w (List.mem_cons_of_mem _ (List.mem_append_right _ (h)))) hXW) got_50 hZ.1 hZ.2 hS (hl.1.trans hml.symm) dX4_node_7 dX4_node_10 dX4_node_11 dX4_node_14 (fun x h => (hexc x h).elim) (Nat.le_of_ble_eq_true rfl) (Nat.le_of_ble_eq_true rfl) (Nat.le_of_ble_eq_true rfl) (Nat.le_of_ble_eq_true rfl) hlocks (fun t hvm hz hk => xe_of (state, left, tapeLen, tapeB, tLine, tReader, nodes) hf hP hD hS hz hk) hS.2.2 (Nat.le_refl _) (Nat.le_refl _)

def wp_X4_received_16 (K : Int64 → WireS → Prop) (KE : String → WireS → Prop) : WireS → Prop := fun (state, left, tapeLen, tapeB, tLine, tReader, nodes) => KE "java/lang/IndexOutOfBoundsException" (state, left, tapeLen, tapeB, tLine, tReader, nodes)
def wp_X4_received : WireS → Int32 → Int32 → (Int64 → WireS → Prop) → (String → WireS → Prop) → Prop := fun (state, left, tapeLen, tapeB, tLine, tReader, nodes) p0 p1 K KE => wp_X4_isNode p0 (fun r1 => ((r1 = 0 → wp_X4_received_16 K KE (state, left, tapeLen, tapeB, tLine, tReader, nodes)) ∧ (¬ r1 = 0 → ((p1 < 0 → wp_X4_received_16 K KE (state, left, tapeLen, tapeB, tLine, tReader, nodes)) ∧ (¬ p1 < 0 → ((p1 ≤ 3 → (vp_in p0 4 ∧ (p0 = 0 → ((¬ (nodes 0).2.2.2.2.2.2.1 = 0 → ((p1.toInt < 0 ∨ 2 < p1.toInt → K ((nodes 0).2.2.2.2.2.2.2.2.2.2.2.2.1.2.2.1) (state, left, tapeLen, tapeB, tLine, tReader, nodes)) ∧ (p1.toInt = 0 → K (((nodes 0).2.2.2.2.2.2.2.2.2.2.2.2.1.2.1).toInt64) (state, left, tapeLen, tapeB, tLine, tReader, nodes)) ∧ (p1.toInt = 1 → (((nodes 0).2.2.2.2.2.2.2.2.2.2.2.2.1.1 = 0 → K 0 (state, left, tapeLen, tapeB, tLine, tReader, nodes)) ∧ (¬ (nodes 0).2.2.2.2.2.2.2.2.2.2.2.2.1.1 = 0 → K 1 (state, left, tapeLen, tapeB, tLine, tReader, nodes)))) ∧ (p1.toInt = 2 → K (((nodes 0).2.2.2.2.2.2.2.2.2.2.2.2.1.2.2.2).toInt64) (state, left, tapeLen, tapeB, tLine, tReader, nodes)))) ∧ ((nodes 0).2.2.2.2.2.2.1 = 0 → KE "java/util/NoSuchElementException" (state, left, tapeLen, tapeB, tLine, tReader, nodes)))) ∧ (p0 = 1 → ((¬ (nodes 1).2.2.2.2.2.2.1 = 0 → ((p1.toInt < 0 ∨ 2 < p1.toInt → K ((nodes 1).2.2.2.2.2.2.2.2.2.2.2.2.1.2.2.1) (state, left, tapeLen, tapeB, tLine, tReader, nodes)) ∧ (p1.toInt = 0 → K (((nodes 1).2.2.2.2.2.2.2.2.2.2.2.2.1.2.1).toInt64) (state, left, tapeLen, tapeB, tLine, tReader, nodes)) ∧ (p1.toInt = 1 → (((nodes 1).2.2.2.2.2.2.2.2.2.2.2.2.1.1 = 0 → K 0 (state, left, tapeLen, tapeB, tLine, tReader, nodes)) ∧ (¬ (nodes 1).2.2.2.2.2.2.2.2.2.2.2.2.1.1 = 0 → K 1 (state, left, tapeLen, tapeB, tLine, tReader, nodes)))) ∧ (p1.toInt = 2 → K (((nodes 1).2.2.2.2.2.2.2.2.2.2.2.2.1.2.2.2).toInt64) (state, left, tapeLen, tapeB, tLine, tReader, nodes)))) ∧ ((nodes 1).2.2.2.2.2.2.1 = 0 → KE "java/util/NoSuchElementException" (state, left, tapeLen, tapeB, tLine, tReader, nodes)))) ∧ (p0 = 2 → ((¬ (nodes 2).2.2.2.2.2.2.1 = 0 → ((p1.toInt < 0 ∨ 2 < p1.toInt → K ((nodes 2).2.2.2.2.2.2.2.2.2.2.2.2.1.2.2.1) (state, left, tapeLen, tapeB, tLine, tReader, nodes)) ∧ (p1.toInt = 0 → K (((nodes 2).2.2.2.2.2.2.2.2.2.2.2.2.1.2.1).toInt64) (state, left, tapeLen, tapeB, tLine, tReader, nodes)) ∧ (p1.toInt = 1 → (((nodes 2).2.2.2.2.2.2.2.2.2.2.2.2.1.1 = 0 → K 0 (state, left, tapeLen, tapeB, tLine, tReader, nodes)) ∧ (¬ (nodes 2).2.2.2.2.2.2.2.2.2.2.2.2.1.1 = 0 → K 1 (state, left, tapeLen, tapeB, tLine, tReader, nodes)))) ∧ (p1.toInt = 2 → K (((nodes 2).2.2.2.2.2.2.2.2.2.2.2.2.1.2.2.2).toInt64) (state, left, tapeLen, tapeB, tLine, tReader, nodes)))) ∧ ((nodes 2).2.2.2.2.2.2.1 = 0 → KE "java/util/NoSuchElementException" (state, left, tapeLen, tapeB, tLine, tReader, nodes)))) ∧ (p0 = 3 → ((¬ (nodes 3).2.2.2.2.2.2.1 = 0 → ((p1.toInt < 0 ∨ 2 < p1.toInt → K ((nodes 3).2.2.2.2.2.2.2.2.2.2.2.2.1.2.2.1) (state, left, tapeLen, tapeB, tLine, tReader, nodes)) ∧ (p1.toInt = 0 → K (((nodes 3).2.2.2.2.2.2.2.2.2.2.2.2.1.2.1).toInt64) (state, left, tapeLen, tapeB, tLine, tReader, nodes)) ∧ (p1.toInt = 1 → (((nodes 3).2.2.2.2.2.2.2.2.2.2.2.2.1.1 = 0 → K 0 (state, left, tapeLen, tapeB, tLine, tReader, nodes)) ∧ (¬ (nodes 3).2.2.2.2.2.2.2.2.2.2.2.2.1.1 = 0 → K 1 (state, left, tapeLen, tapeB, tLine, tReader, nodes)))) ∧ (p1.toInt = 2 → K (((nodes 3).2.2.2.2.2.2.2.2.2.2.2.2.1.2.2.2).toInt64) (state, left, tapeLen, tapeB, tLine, tReader, nodes)))) ∧ ((nodes 3).2.2.2.2.2.2.1 = 0 → KE "java/util/NoSuchElementException" (state, left, tapeLen, tapeB, tLine, tReader, nodes)))))) ∧ (¬ p1 ≤ 3 → wp_X4_received_16 K KE (state, left, tapeLen, tapeB, tLine, tReader, nodes))))))))
set_option maxHeartbeats 4000000 in
set_option maxRecDepth 100000 in
theorem j_X4_received_16 {p : Program} {l : Launch} {e : Env} {s : State} {m : MethodId} {args : Array Value} {below : List Frame} {meth : Method} {c : Code} {dC : Nat → ClassId} {dI : Nat → Nat → Nat} {y : Nat → ClassId} {A : Nat → Prop} (C0 : Cx p s m args meth c cX4_received 5 (some .long) wsX4_received RX4 A dC dI y) (a : WireA) (gs : Nat → Nat → Nat) (K : Int64 → WireS → Prop) (KE : String → WireS → Prop) (hst : l.stackTraces = false) (hexc : ∀ x ∈ c.exceptionTable.toList, False) (hXW : XW s) (hZ : ZW A s s.heap) : ∀ (S : WireS) (H : Heap) (locs : List Loc) (ls : Array Slot), va_P (dC, dI) vwCl (wrW y a gs S) H → va_D A (wrW y a gs S) → va_S A s.heap H locs → lv_has ls 5 [] → wp_X4_received_16 K KE S → W p l e ({ frames := 6, cells := 1, slots := 6, locals := 89 } : Room) s m args below meth c H locs 0 0 (vx_MQ below (va_Ql K (BW dC dI A (fun u => wrW y a gs u)) A) (XE dC dI A (fun u => wrW y a gs u) KE) args s 1 6 A) (F0 m 16 ls []) := by
  obtain ⟨hx, hb, hr, hml, hown, hts, hlocks, hA, hK⟩ := id C0
  have w48 := hts (.classLink RX4 48 "java/lang/IndexOutOfBoundsException") (List.mem_of_getElem? (i := 1) rfl)
  intro S H locs ls hP hD hS hl hf
  obtain ⟨state, left, tapeLen, tapeB, tLine, tReader, nodes⟩ := S
  unfold wp_X4_received_16 at hf
  exact vx_throw0 (own := RX4) (cls := "java/lang/IndexOutOfBoundsException") (names := exN) (ik := 48) (ic := 50) hx hb hst hown (by decide +kernel) (by decide +kernel) w48 (hts (.initialized "java/lang/IndexOutOfBoundsException") (List.mem_of_getElem? (i := 2) rfl)) (hat_50 (fun w h => hts w (List.mem_cons_of_mem _ (List.mem_append_left _ (List.mem_append_right _ (h))))) hXW) got_50 hZ.1 hZ.2 hS (hl.1.trans hml.symm) dX4_received_16 dX4_received_19 dX4_received_20 dX4_received_23 (fun x h => (hexc x h).elim) (Nat.le_of_ble_eq_true rfl) (Nat.le_of_ble_eq_true rfl) (Nat.le_of_ble_eq_true rfl) (Nat.le_of_ble_eq_true rfl) hlocks (fun t hvm hz hk => xe_of (state, left, tapeLen, tapeB, tLine, tReader, nodes) hf hP hD hS hz hk) hS.2.2 (Nat.le_refl _) (Nat.le_refl _)
set_option maxHeartbeats 4000000 in
set_option maxRecDepth 100000 in
theorem c_X4_received (l : Launch) (dC : Nat → ClassId) (dI : Nat → Nat → Nat) (y : Nat → ClassId) (a : WireA) (gs : Nat → Nat → Nat) (sz : Nat) (S : WireS) (p0 : Int32) (p1 : Int32) (K : Int64 → WireS → Prop) (KE : String → WireS → Prop) (hst : l.stackTraces = false) (hf : wp_X4_received S p0 p1 K KE) : MLX l yX4_received wsX4_received { frames := 6, cells := 1, slots := 6, locals := 89 } dC dI y [.ref a.1, .int p0, .int p1] (wrW y a gs S) sz (fun u => wrW y a gs u) K KE := by
  refine vx_ofW (cc := cX4_received) (maxL := 5) (ret := (some .long)) (by decide) rfl ?_
  intro p e s m args below meth c s₁ B hml hexc hv
  obtain ⟨rfl, hsz, hP, hK, hXW, hZ, hD0⟩ := hv
  have hx := B.exec
  have hb := B.bytes
  have hr := B.returns
  have hts := atoms_spec (ws := wsX4_received) B.pre
  have hown : s.vm.findClass RX4 = some m.cls := findClass_of_methodNamed B.named
  have hlocks := B.notSynchronized
  subst hsz
  have hD := hD0.self (sz := s.heap.size)
  generalize hAe : va_A (wrW y a gs S) s.heap.size = A at hD hZ ⊢
  have hA : ∀ q : Nat, s.heap.size ≤ q → A q := fun q h => by rw [← hAe]; exact Or.inr h
  have hS : va_S A s.heap s.heap [] := va_S.rf
  have C0 : Cx p s m [.ref a.1, .int p0, .int p1].toArray meth c cX4_received 5 (some .long) wsX4_received RX4 A dC dI y := ⟨hx, hb, hr, hml, hown, hts, hlocks, hA, hK⟩
  have w11 := hts (.fieldLink RX4 11 "SharedWire" "nodes" "[LSharedWire$Node;") (List.mem_of_getElem? (i := 5) rfl)
  have w87 := hts (.fieldLink RX4 87 "SharedWire$Node" "framesReceived" "I") (List.mem_of_getElem? (i := 6) rfl)
  have w93 := hts (.classLink RX4 93 "java/util/NoSuchElementException") (List.mem_of_getElem? (i := 3) rfl)
  have w96 := hts (.fieldLink RX4 96 "SharedWire$Node" "lastReceived" "LSharedWire$Frame;") (List.mem_of_getElem? (i := 7) rfl)
  have w100 := hts (.fieldLink RX4 100 "SharedWire$Frame" "identifier" "I") (List.mem_of_getElem? (i := 8) rfl)
  have w105 := hts (.fieldLink RX4 105 "SharedWire$Frame" "isLong" "Z") (List.mem_of_getElem? (i := 9) rfl)
  have w108 := hts (.fieldLink RX4 108 "SharedWire$Frame" "size" "I") (List.mem_of_getElem? (i := 10) rfl)
  have w111 := hts (.fieldLink RX4 111 "SharedWire$Frame" "data" "J") (List.mem_of_getElem? (i := 11) rfl)
  have hinX0 : ∀ w ∈ wsX00, w ∈ wsX4_received := fun w h => List.mem_cons_of_mem _ (List.mem_append_left _ (List.mem_append_left _ (List.mem_append_right _ (h))))
  have hinX2 : ∀ w ∈ wsX20, w ∈ wsX4_received := fun w h => List.mem_cons_of_mem _ (List.mem_append_left _ (List.mem_append_left _ (List.mem_append_left _ (List.mem_append_right _ (h)))))
  have hinX4 : ∀ w ∈ wsX40, w ∈ wsX4_received := fun w h => List.mem_cons_of_mem _ (List.mem_append_left _ (List.mem_append_left _ (List.mem_append_left _ (List.mem_append_left _ (List.mem_append_right _ (h))))))
  have hl := lv_entry ([.ref a.1, .int p0, .int p1]) (n := 5) (Nat.le_of_ble_eq_true rfl)
  rw [lg_entry_eq]
  generalize (lg_sl ([.ref a.1, .int p0, .int p1]) ++ List.replicate (5 - (lg_sl ([.ref a.1, .int p0, .int p1])).length) Slot.unset).toArray = ls at hl ⊢
  have hl : lv_has ls 5 [(0, .ref a.1), (1, .int p0), (2, .int p1)] := hl
  obtain ⟨state, left, tapeLen, tapeB, tLine, tReader, nodes⟩ := S
  clear hAe hD0
  generalize hL0 : ([] : List Loc) = locs at hS ⊢
  unfold wp_X4_received at hf
  refine lv_iload_n hx hb dX4_received_0 rfl (lv_at hl 1 rfl) ?_
  refine kSi (As := [.int p0]) (rest := []) ⟨hx, hb, hml, hown, hts⟩ (c_X4_isNode l dC dI y s.heap.size p0 _ hf) (va_cwS 1 hts gX4_received_X4_isNode rfl rfl rfl (by decide +kernel) ⟨Nat.le_of_ble_eq_true rfl, Nat.le_of_ble_eq_true rfl⟩) hK hP hD hS hA rfl hl.1 rfl (Nat.le_of_ble_eq_true rfl) dX4_received_1 ⟨Nat.zero_le _, Nat.zero_le _⟩ (fun r1 H locs hf hP hD hS => ?_)
  refine lv_if_eq (tgt := 16) hx hb dX4_received_4 (by decide) (fun c2 => ?_) (fun c2 => ?_)
  · replace hf := hf.1 c2
    exact j_X4_received_16 C0 a gs K KE hst hexc hXW hZ (state, left, tapeLen, tapeB, tLine, tReader, nodes) H locs ls hP hD hS (lv_sub hl [] rfl) hf
  · replace hf := hf.2 c2
    refine lv_iload_n hx hb dX4_received_7 rfl (lv_at hl 2 rfl) ?_
    refine lv_if_lt (tgt := 16) hx hb dX4_received_8 (by decide) (fun c3 => ?_) (fun c3 => ?_)
    · replace hf := hf.1 c3
      exact j_X4_received_16 C0 a gs K KE hst hexc hXW hZ (state, left, tapeLen, tapeB, tLine, tReader, nodes) H locs ls hP hD hS (lv_sub hl [] rfl) hf
    · replace hf := hf.2 c3
      refine lv_iload_n hx hb dX4_received_11 rfl (lv_at hl 2 rfl) ?_
      refine lv_iconst (v := 3) hx hb dX4_received_12 (by decide) ?_
      refine lv_icmp_le (tgt := 24) hx hb dX4_received_13 (by decide) (fun c4 => ?_) (fun c4 => ?_)
      · replace hf := hf.1 c4
        refine lv_aload_n hx hb dX4_received_24 rfl (lv_at hl 0 rfl) ?_
        refine va_get (D := (dC, dI)) (ci := 4) (v := .ref a.2.1) (C := RX4) (T := TX4) (N := 7) hx hb hts hinX4 hown hK.1 hP 0 rfl rfl 0 (by decide) w11 (fun _ h9 => h9) rfl dX4_received_25 ?_
        refine lv_iload_n hx hb dX4_received_28 rfl (lv_at hl 1 rfl) ?_
        obtain ⟨hg9, hf0, hf1, hf2, hf3⟩ := hf
        rcases vin4 hg9 with e9 | e9 | e9 | e9
        · replace hf := hf0 e9
          subst e9
          refine ar_qld (j := 0) hx hb hK.1 hP 1 4 rfl rfl (clamp_lit 0 rfl) (vin_lit 0 4 rfl rfl) dX4_received_29 ?_
          refine lv_astore_n (lv' := [(3, .ref ((a.2.2.2.2.2 0).1)), (0, .ref a.1), (1, .int 0), (2, .int p1)]) hx hb dX4_received_30 rfl hl (by decide) rfl (fun ls hl => ?_)
          refine lv_aload_n hx hb dX4_received_31 rfl (lv_at hl 0 rfl) ?_
          refine va_get (D := (dC, dI)) (ci := 2) (v := .int ((nodes 0).2.2.2.2.2.2.1)) (C := RX2) (T := TX2) (N := 15) hx hb hts hinX2 hown hK.1 hP 8 rfl rfl 10 (by decide) w87 (fun _ h9 => h9) rfl dX4_received_32 ?_
          refine lv_if_ne (tgt := 46) hx hb dX4_received_35 (by decide) (fun c5 => ?_) (fun c5 => ?_)
          · replace hf := hf.1 c5
            refine lv_aload_n hx hb dX4_received_46 rfl (lv_at hl 0 rfl) ?_
            refine va_get (D := (dC, dI)) (ci := 2) (v := .ref ((a.2.2.2.2.2 0).2.2.2.1)) (C := RX2) (T := TX2) (N := 15) hx hb hts hinX2 hown hK.1 hP 8 rfl rfl 1 (by decide) w96 (fun _ h9 => h9) rfl dX4_received_47 ?_
            refine lv_astore (lv' := [(4, .ref ((a.2.2.2.2.2 0).2.2.2.1)), (3, .ref ((a.2.2.2.2.2 0).1)), (0, .ref a.1), (1, .int 0), (2, .int p1)]) hx hb dX4_received_50 hl (by decide) rfl (fun ls hl => ?_)
            refine lv_iload_n hx hb dX4_received_52 rfl (lv_at hl 4 rfl) ?_
            by_cases hsw : p1.toInt < 0 ∨ 2 < p1.toInt
            · refine lv_tableOut (tgt := 108) hx hb dX4_received_53 hsw (by decide) ?_
              replace hf := hf.1 hsw
              refine lv_aload hx hb dX4_received_108 (lv_at hl 0 rfl) ?_
              refine va_get (D := (dC, dI)) (ci := 0) (v := .long ((nodes 0).2.2.2.2.2.2.2.2.2.2.2.2.1.2.2.1)) (C := RX0) (T := TX0) (N := 4) hx hb hts hinX0 hown hK.1 hP 14 rfl rfl 2 (by decide) w111 (fun _ h9 => h9) rfl dX4_received_110 ?_
              refine vx_ret (W.widen (k := 1) (n := 6) (Nat.zero_le _) (Nat.zero_le _) ?_)
              exact W.lret (v := (nodes 0).2.2.2.2.2.2.2.2.2.2.2.2.1.2.2.1) hx hb hr (fun t ht hW => ⟨⟨(nodes 0).2.2.2.2.2.2.2.2.2.2.2.2.1.2.2.1, (state, left, tapeLen, tapeB, tLine, tReader, nodes), rfl, hf, by rw [ht]; exact hP, hD⟩, hS.F ht⟩) hS.2.2 dX4_received_113
            · by_cases hs0 : p1.toInt = 0
              · refine lv_tableIn (off := 27) (tgt := 80) hx hb dX4_received_53 (by omega) (by omega) (by rw [hs0]; rfl) (by decide) ?_
                replace hf := hf.2.1 hs0
                refine lv_aload hx hb dX4_received_80 (lv_at hl 0 rfl) ?_
                refine va_get (D := (dC, dI)) (ci := 0) (v := .int ((nodes 0).2.2.2.2.2.2.2.2.2.2.2.2.1.2.1)) (C := RX0) (T := TX0) (N := 4) hx hb hts hinX0 hown hK.1 hP 14 rfl rfl 1 (by decide) w100 (fun _ h9 => h9) rfl dX4_received_82 ?_
                refine lv_i2l (v := ((nodes 0).2.2.2.2.2.2.2.2.2.2.2.2.1.2.1).toInt64) hx hb dX4_received_85 rfl ?_
                refine vx_ret (W.widen (k := 1) (n := 6) (Nat.zero_le _) (Nat.zero_le _) ?_)
                exact W.lret (v := ((nodes 0).2.2.2.2.2.2.2.2.2.2.2.2.1.2.1).toInt64) hx hb hr (fun t ht hW => ⟨⟨((nodes 0).2.2.2.2.2.2.2.2.2.2.2.2.1.2.1).toInt64, (state, left, tapeLen, tapeB, tLine, tReader, nodes), rfl, hf, by rw [ht]; exact hP, hD⟩, hS.F ht⟩) hS.2.2 dX4_received_86
              by_cases hs1 : p1.toInt = 1
              · refine lv_tableIn (off := 34) (tgt := 87) hx hb dX4_received_53 (by omega) (by omega) (by rw [hs1]; rfl) (by decide) ?_
                replace hf := hf.2.2.1 hs1
                refine lv_aload hx hb dX4_received_87 (lv_at hl 0 rfl) ?_
                refine va_get (D := (dC, dI)) (ci := 0) (v := .int ((nodes 0).2.2.2.2.2.2.2.2.2.2.2.2.1.1)) (C := RX0) (T := TX0) (N := 4) hx hb hts hinX0 hown hK.1 hP 14 rfl rfl 0 (by decide) w105 (fun _ h9 => h9) rfl dX4_received_89 ?_
                refine lv_if_eq (tgt := 99) hx hb dX4_received_92 (by decide) (fun c6 => ?_) (fun c6 => ?_)
                · replace hf := hf.1 c6
                  refine lv_lconst (v := 0) hx hb dX4_received_99 (by decide) ?_
                  refine vx_ret (W.widen (k := 1) (n := 6) (Nat.zero_le _) (Nat.zero_le _) ?_)
                  exact W.lret (v := 0) hx hb hr (fun t ht hW => ⟨⟨0, (state, left, tapeLen, tapeB, tLine, tReader, nodes), rfl, hf, by rw [ht]; exact hP, hD⟩, hS.F ht⟩) hS.2.2 dX4_received_100
                · replace hf := hf.2 c6
                  refine lv_lconst (v := 1) hx hb dX4_received_95 (by decide) ?_
                  refine lv_goto (tgt := 100) hx hb dX4_received_96 (by decide) ?_
                  refine vx_ret (W.widen (k := 1) (n := 6) (Nat.zero_le _) (Nat.zero_le _) ?_)
                  exact W.lret (v := 1) hx hb hr (fun t ht hW => ⟨⟨1, (state, left, tapeLen, tapeB, tLine, tReader, nodes), rfl, hf, by rw [ht]; exact hP, hD⟩, hS.F ht⟩) hS.2.2 dX4_received_100
              by_cases hs2 : p1.toInt = 2
              · refine lv_tableIn (off := 48) (tgt := 101) hx hb dX4_received_53 (by omega) (by omega) (by rw [hs2]; rfl) (by decide) ?_
                replace hf := hf.2.2.2 hs2
                refine lv_aload hx hb dX4_received_101 (lv_at hl 0 rfl) ?_
                refine va_get (D := (dC, dI)) (ci := 0) (v := .int ((nodes 0).2.2.2.2.2.2.2.2.2.2.2.2.1.2.2.2)) (C := RX0) (T := TX0) (N := 4) hx hb hts hinX0 hown hK.1 hP 14 rfl rfl 3 (by decide) w108 (fun _ h9 => h9) rfl dX4_received_103 ?_
                refine lv_i2l (v := ((nodes 0).2.2.2.2.2.2.2.2.2.2.2.2.1.2.2.2).toInt64) hx hb dX4_received_106 rfl ?_
                refine vx_ret (W.widen (k := 1) (n := 6) (Nat.zero_le _) (Nat.zero_le _) ?_)
                exact W.lret (v := ((nodes 0).2.2.2.2.2.2.2.2.2.2.2.2.1.2.2.2).toInt64) hx hb hr (fun t ht hW => ⟨⟨((nodes 0).2.2.2.2.2.2.2.2.2.2.2.2.1.2.2.2).toInt64, (state, left, tapeLen, tapeB, tLine, tReader, nodes), rfl, hf, by rw [ht]; exact hP, hD⟩, hS.F ht⟩) hS.2.2 dX4_received_107
              · exact absurd hsw (by omega)
          · replace hf := hf.2 c5
            exact vx_throw0 (own := RX4) (cls := "java/util/NoSuchElementException") (names := exN) (ik := 93) (ic := 95) hx hb hst hown (by decide +kernel) (by decide +kernel) w93 (hts (.initialized "java/util/NoSuchElementException") (List.mem_of_getElem? (i := 4) rfl)) (hat_95 (fun w h => hts w (List.mem_cons_of_mem _ (List.mem_append_right _ (h)))) hXW) got_95 hZ.1 hZ.2 hS (hl.1.trans hml.symm) dX4_received_38 dX4_received_41 dX4_received_42 dX4_received_45 (fun x h => (hexc x h).elim) (Nat.le_of_ble_eq_true rfl) (Nat.le_of_ble_eq_true rfl) (Nat.le_of_ble_eq_true rfl) (Nat.le_of_ble_eq_true rfl) hlocks (fun t hvm hz hk => xe_of (state, left, tapeLen, tapeB, tLine, tReader, nodes) hf hP hD hS hz hk) hS.2.2 (Nat.le_refl _) (Nat.le_refl _)
        · replace hf := hf1 e9
          subst e9
          refine ar_qld (j := 1) hx hb hK.1 hP 1 4 rfl rfl (clamp_lit 1 rfl) (vin_lit 1 4 rfl rfl) dX4_received_29 ?_
          refine lv_astore_n (lv' := [(3, .ref ((a.2.2.2.2.2 1).1)), (0, .ref a.1), (1, .int 1), (2, .int p1)]) hx hb dX4_received_30 rfl hl (by decide) rfl (fun ls hl => ?_)
          refine lv_aload_n hx hb dX4_received_31 rfl (lv_at hl 0 rfl) ?_
          refine va_get (D := (dC, dI)) (ci := 2) (v := .int ((nodes 1).2.2.2.2.2.2.1)) (C := RX2) (T := TX2) (N := 15) hx hb hts hinX2 hown hK.1 hP 20 rfl rfl 10 (by decide) w87 (fun _ h9 => h9) rfl dX4_received_32 ?_
          refine lv_if_ne (tgt := 46) hx hb dX4_received_35 (by decide) (fun c7 => ?_) (fun c7 => ?_)
          · replace hf := hf.1 c7
            refine lv_aload_n hx hb dX4_received_46 rfl (lv_at hl 0 rfl) ?_
            refine va_get (D := (dC, dI)) (ci := 2) (v := .ref ((a.2.2.2.2.2 1).2.2.2.1)) (C := RX2) (T := TX2) (N := 15) hx hb hts hinX2 hown hK.1 hP 20 rfl rfl 1 (by decide) w96 (fun _ h9 => h9) rfl dX4_received_47 ?_
            refine lv_astore (lv' := [(4, .ref ((a.2.2.2.2.2 1).2.2.2.1)), (3, .ref ((a.2.2.2.2.2 1).1)), (0, .ref a.1), (1, .int 1), (2, .int p1)]) hx hb dX4_received_50 hl (by decide) rfl (fun ls hl => ?_)
            refine lv_iload_n hx hb dX4_received_52 rfl (lv_at hl 4 rfl) ?_
            by_cases hsw : p1.toInt < 0 ∨ 2 < p1.toInt
            · refine lv_tableOut (tgt := 108) hx hb dX4_received_53 hsw (by decide) ?_
              replace hf := hf.1 hsw
              refine lv_aload hx hb dX4_received_108 (lv_at hl 0 rfl) ?_
              refine va_get (D := (dC, dI)) (ci := 0) (v := .long ((nodes 1).2.2.2.2.2.2.2.2.2.2.2.2.1.2.2.1)) (C := RX0) (T := TX0) (N := 4) hx hb hts hinX0 hown hK.1 hP 26 rfl rfl 2 (by decide) w111 (fun _ h9 => h9) rfl dX4_received_110 ?_
              refine vx_ret (W.widen (k := 1) (n := 6) (Nat.zero_le _) (Nat.zero_le _) ?_)
              exact W.lret (v := (nodes 1).2.2.2.2.2.2.2.2.2.2.2.2.1.2.2.1) hx hb hr (fun t ht hW => ⟨⟨(nodes 1).2.2.2.2.2.2.2.2.2.2.2.2.1.2.2.1, (state, left, tapeLen, tapeB, tLine, tReader, nodes), rfl, hf, by rw [ht]; exact hP, hD⟩, hS.F ht⟩) hS.2.2 dX4_received_113
            · by_cases hs0 : p1.toInt = 0
              · refine lv_tableIn (off := 27) (tgt := 80) hx hb dX4_received_53 (by omega) (by omega) (by rw [hs0]; rfl) (by decide) ?_
                replace hf := hf.2.1 hs0
                refine lv_aload hx hb dX4_received_80 (lv_at hl 0 rfl) ?_
                refine va_get (D := (dC, dI)) (ci := 0) (v := .int ((nodes 1).2.2.2.2.2.2.2.2.2.2.2.2.1.2.1)) (C := RX0) (T := TX0) (N := 4) hx hb hts hinX0 hown hK.1 hP 26 rfl rfl 1 (by decide) w100 (fun _ h9 => h9) rfl dX4_received_82 ?_
                refine lv_i2l (v := ((nodes 1).2.2.2.2.2.2.2.2.2.2.2.2.1.2.1).toInt64) hx hb dX4_received_85 rfl ?_
                refine vx_ret (W.widen (k := 1) (n := 6) (Nat.zero_le _) (Nat.zero_le _) ?_)
                exact W.lret (v := ((nodes 1).2.2.2.2.2.2.2.2.2.2.2.2.1.2.1).toInt64) hx hb hr (fun t ht hW => ⟨⟨((nodes 1).2.2.2.2.2.2.2.2.2.2.2.2.1.2.1).toInt64, (state, left, tapeLen, tapeB, tLine, tReader, nodes), rfl, hf, by rw [ht]; exact hP, hD⟩, hS.F ht⟩) hS.2.2 dX4_received_86
              by_cases hs1 : p1.toInt = 1
              · refine lv_tableIn (off := 34) (tgt := 87) hx hb dX4_received_53 (by omega) (by omega) (by rw [hs1]; rfl) (by decide) ?_
                replace hf := hf.2.2.1 hs1
                refine lv_aload hx hb dX4_received_87 (lv_at hl 0 rfl) ?_
                refine va_get (D := (dC, dI)) (ci := 0) (v := .int ((nodes 1).2.2.2.2.2.2.2.2.2.2.2.2.1.1)) (C := RX0) (T := TX0) (N := 4) hx hb hts hinX0 hown hK.1 hP 26 rfl rfl 0 (by decide) w105 (fun _ h9 => h9) rfl dX4_received_89 ?_
                refine lv_if_eq (tgt := 99) hx hb dX4_received_92 (by decide) (fun c8 => ?_) (fun c8 => ?_)
                · replace hf := hf.1 c8
                  refine lv_lconst (v := 0) hx hb dX4_received_99 (by decide) ?_
                  refine vx_ret (W.widen (k := 1) (n := 6) (Nat.zero_le _) (Nat.zero_le _) ?_)
                  exact W.lret (v := 0) hx hb hr (fun t ht hW => ⟨⟨0, (state, left, tapeLen, tapeB, tLine, tReader, nodes), rfl, hf, by rw [ht]; exact hP, hD⟩, hS.F ht⟩) hS.2.2 dX4_received_100
                · replace hf := hf.2 c8
                  refine lv_lconst (v := 1) hx hb dX4_received_95 (by decide) ?_
                  refine lv_goto (tgt := 100) hx hb dX4_received_96 (by decide) ?_
                  refine vx_ret (W.widen (k := 1) (n := 6) (Nat.zero_le _) (Nat.zero_le _) ?_)
                  exact W.lret (v := 1) hx hb hr (fun t ht hW => ⟨⟨1, (state, left, tapeLen, tapeB, tLine, tReader, nodes), rfl, hf, by rw [ht]; exact hP, hD⟩, hS.F ht⟩) hS.2.2 dX4_received_100
              by_cases hs2 : p1.toInt = 2
              · refine lv_tableIn (off := 48) (tgt := 101) hx hb dX4_received_53 (by omega) (by omega) (by rw [hs2]; rfl) (by decide) ?_
                replace hf := hf.2.2.2 hs2
                refine lv_aload hx hb dX4_received_101 (lv_at hl 0 rfl) ?_
                refine va_get (D := (dC, dI)) (ci := 0) (v := .int ((nodes 1).2.2.2.2.2.2.2.2.2.2.2.2.1.2.2.2)) (C := RX0) (T := TX0) (N := 4) hx hb hts hinX0 hown hK.1 hP 26 rfl rfl 3 (by decide) w108 (fun _ h9 => h9) rfl dX4_received_103 ?_
                refine lv_i2l (v := ((nodes 1).2.2.2.2.2.2.2.2.2.2.2.2.1.2.2.2).toInt64) hx hb dX4_received_106 rfl ?_
                refine vx_ret (W.widen (k := 1) (n := 6) (Nat.zero_le _) (Nat.zero_le _) ?_)
                exact W.lret (v := ((nodes 1).2.2.2.2.2.2.2.2.2.2.2.2.1.2.2.2).toInt64) hx hb hr (fun t ht hW => ⟨⟨((nodes 1).2.2.2.2.2.2.2.2.2.2.2.2.1.2.2.2).toInt64, (state, left, tapeLen, tapeB, tLine, tReader, nodes), rfl, hf, by rw [ht]; exact hP, hD⟩, hS.F ht⟩) hS.2.2 dX4_received_107
              · exact absurd hsw (by omega)
          · replace hf := hf.2 c7
            exact vx_throw0 (own := RX4) (cls := "java/util/NoSuchElementException") (names := exN) (ik := 93) (ic := 95) hx hb hst hown (by decide +kernel) (by decide +kernel) w93 (hts (.initialized "java/util/NoSuchElementException") (List.mem_of_getElem? (i := 4) rfl)) (hat_95 (fun w h => hts w (List.mem_cons_of_mem _ (List.mem_append_right _ (h)))) hXW) got_95 hZ.1 hZ.2 hS (hl.1.trans hml.symm) dX4_received_38 dX4_received_41 dX4_received_42 dX4_received_45 (fun x h => (hexc x h).elim) (Nat.le_of_ble_eq_true rfl) (Nat.le_of_ble_eq_true rfl) (Nat.le_of_ble_eq_true rfl) (Nat.le_of_ble_eq_true rfl) hlocks (fun t hvm hz hk => xe_of (state, left, tapeLen, tapeB, tLine, tReader, nodes) hf hP hD hS hz hk) hS.2.2 (Nat.le_refl _) (Nat.le_refl _)
        · replace hf := hf2 e9
          subst e9
          refine ar_qld (j := 2) hx hb hK.1 hP 1 4 rfl rfl (clamp_lit 2 rfl) (vin_lit 2 4 rfl rfl) dX4_received_29 ?_
          refine lv_astore_n (lv' := [(3, .ref ((a.2.2.2.2.2 2).1)), (0, .ref a.1), (1, .int 2), (2, .int p1)]) hx hb dX4_received_30 rfl hl (by decide) rfl (fun ls hl => ?_)
          refine lv_aload_n hx hb dX4_received_31 rfl (lv_at hl 0 rfl) ?_
          refine va_get (D := (dC, dI)) (ci := 2) (v := .int ((nodes 2).2.2.2.2.2.2.1)) (C := RX2) (T := TX2) (N := 15) hx hb hts hinX2 hown hK.1 hP 32 rfl rfl 10 (by decide) w87 (fun _ h9 => h9) rfl dX4_received_32 ?_
          refine lv_if_ne (tgt := 46) hx hb dX4_received_35 (by decide) (fun c9 => ?_) (fun c9 => ?_)
          · replace hf := hf.1 c9
            refine lv_aload_n hx hb dX4_received_46 rfl (lv_at hl 0 rfl) ?_
            refine va_get (D := (dC, dI)) (ci := 2) (v := .ref ((a.2.2.2.2.2 2).2.2.2.1)) (C := RX2) (T := TX2) (N := 15) hx hb hts hinX2 hown hK.1 hP 32 rfl rfl 1 (by decide) w96 (fun _ h9 => h9) rfl dX4_received_47 ?_
            refine lv_astore (lv' := [(4, .ref ((a.2.2.2.2.2 2).2.2.2.1)), (3, .ref ((a.2.2.2.2.2 2).1)), (0, .ref a.1), (1, .int 2), (2, .int p1)]) hx hb dX4_received_50 hl (by decide) rfl (fun ls hl => ?_)
            refine lv_iload_n hx hb dX4_received_52 rfl (lv_at hl 4 rfl) ?_
            by_cases hsw : p1.toInt < 0 ∨ 2 < p1.toInt
            · refine lv_tableOut (tgt := 108) hx hb dX4_received_53 hsw (by decide) ?_
              replace hf := hf.1 hsw
              refine lv_aload hx hb dX4_received_108 (lv_at hl 0 rfl) ?_
              refine va_get (D := (dC, dI)) (ci := 0) (v := .long ((nodes 2).2.2.2.2.2.2.2.2.2.2.2.2.1.2.2.1)) (C := RX0) (T := TX0) (N := 4) hx hb hts hinX0 hown hK.1 hP 38 rfl rfl 2 (by decide) w111 (fun _ h9 => h9) rfl dX4_received_110 ?_
              refine vx_ret (W.widen (k := 1) (n := 6) (Nat.zero_le _) (Nat.zero_le _) ?_)
              exact W.lret (v := (nodes 2).2.2.2.2.2.2.2.2.2.2.2.2.1.2.2.1) hx hb hr (fun t ht hW => ⟨⟨(nodes 2).2.2.2.2.2.2.2.2.2.2.2.2.1.2.2.1, (state, left, tapeLen, tapeB, tLine, tReader, nodes), rfl, hf, by rw [ht]; exact hP, hD⟩, hS.F ht⟩) hS.2.2 dX4_received_113
            · by_cases hs0 : p1.toInt = 0
              · refine lv_tableIn (off := 27) (tgt := 80) hx hb dX4_received_53 (by omega) (by omega) (by rw [hs0]; rfl) (by decide) ?_
                replace hf := hf.2.1 hs0
                refine lv_aload hx hb dX4_received_80 (lv_at hl 0 rfl) ?_
                refine va_get (D := (dC, dI)) (ci := 0) (v := .int ((nodes 2).2.2.2.2.2.2.2.2.2.2.2.2.1.2.1)) (C := RX0) (T := TX0) (N := 4) hx hb hts hinX0 hown hK.1 hP 38 rfl rfl 1 (by decide) w100 (fun _ h9 => h9) rfl dX4_received_82 ?_
                refine lv_i2l (v := ((nodes 2).2.2.2.2.2.2.2.2.2.2.2.2.1.2.1).toInt64) hx hb dX4_received_85 rfl ?_
                refine vx_ret (W.widen (k := 1) (n := 6) (Nat.zero_le _) (Nat.zero_le _) ?_)
                exact W.lret (v := ((nodes 2).2.2.2.2.2.2.2.2.2.2.2.2.1.2.1).toInt64) hx hb hr (fun t ht hW => ⟨⟨((nodes 2).2.2.2.2.2.2.2.2.2.2.2.2.1.2.1).toInt64, (state, left, tapeLen, tapeB, tLine, tReader, nodes), rfl, hf, by rw [ht]; exact hP, hD⟩, hS.F ht⟩) hS.2.2 dX4_received_86
              by_cases hs1 : p1.toInt = 1
              · refine lv_tableIn (off := 34) (tgt := 87) hx hb dX4_received_53 (by omega) (by omega) (by rw [hs1]; rfl) (by decide) ?_
                replace hf := hf.2.2.1 hs1
                refine lv_aload hx hb dX4_received_87 (lv_at hl 0 rfl) ?_
                refine va_get (D := (dC, dI)) (ci := 0) (v := .int ((nodes 2).2.2.2.2.2.2.2.2.2.2.2.2.1.1)) (C := RX0) (T := TX0) (N := 4) hx hb hts hinX0 hown hK.1 hP 38 rfl rfl 0 (by decide) w105 (fun _ h9 => h9) rfl dX4_received_89 ?_
                refine lv_if_eq (tgt := 99) hx hb dX4_received_92 (by decide) (fun c10 => ?_) (fun c10 => ?_)
                · replace hf := hf.1 c10
                  refine lv_lconst (v := 0) hx hb dX4_received_99 (by decide) ?_
                  refine vx_ret (W.widen (k := 1) (n := 6) (Nat.zero_le _) (Nat.zero_le _) ?_)
                  exact W.lret (v := 0) hx hb hr (fun t ht hW => ⟨⟨0, (state, left, tapeLen, tapeB, tLine, tReader, nodes), rfl, hf, by rw [ht]; exact hP, hD⟩, hS.F ht⟩) hS.2.2 dX4_received_100
                · replace hf := hf.2 c10
                  refine lv_lconst (v := 1) hx hb dX4_received_95 (by decide) ?_
                  refine lv_goto (tgt := 100) hx hb dX4_received_96 (by decide) ?_
                  refine vx_ret (W.widen (k := 1) (n := 6) (Nat.zero_le _) (Nat.zero_le _) ?_)
                  exact W.lret (v := 1) hx hb hr (fun t ht hW => ⟨⟨1, (state, left, tapeLen, tapeB, tLine, tReader, nodes), rfl, hf, by rw [ht]; exact hP, hD⟩, hS.F ht⟩) hS.2.2 dX4_received_100
              by_cases hs2 : p1.toInt = 2
              · refine lv_tableIn (off := 48) (tgt := 101) hx hb dX4_received_53 (by omega) (by omega) (by rw [hs2]; rfl) (by decide) ?_
                replace hf := hf.2.2.2 hs2
                refine lv_aload hx hb dX4_received_101 (lv_at hl 0 rfl) ?_
                refine va_get (D := (dC, dI)) (ci := 0) (v := .int ((nodes 2).2.2.2.2.2.2.2.2.2.2.2.2.1.2.2.2)) (C := RX0) (T := TX0) (N := 4) hx hb hts hinX0 hown hK.1 hP 38 rfl rfl 3 (by decide) w108 (fun _ h9 => h9) rfl dX4_received_103 ?_
                refine lv_i2l (v := ((nodes 2).2.2.2.2.2.2.2.2.2.2.2.2.1.2.2.2).toInt64) hx hb dX4_received_106 rfl ?_
                refine vx_ret (W.widen (k := 1) (n := 6) (Nat.zero_le _) (Nat.zero_le _) ?_)
                exact W.lret (v := ((nodes 2).2.2.2.2.2.2.2.2.2.2.2.2.1.2.2.2).toInt64) hx hb hr (fun t ht hW => ⟨⟨((nodes 2).2.2.2.2.2.2.2.2.2.2.2.2.1.2.2.2).toInt64, (state, left, tapeLen, tapeB, tLine, tReader, nodes), rfl, hf, by rw [ht]; exact hP, hD⟩, hS.F ht⟩) hS.2.2 dX4_received_107
              · exact absurd hsw (by omega)
          · replace hf := hf.2 c9
            exact vx_throw0 (own := RX4) (cls := "java/util/NoSuchElementException") (names := exN) (ik := 93) (ic := 95) hx hb hst hown (by decide +kernel) (by decide +kernel) w93 (hts (.initialized "java/util/NoSuchElementException") (List.mem_of_getElem? (i := 4) rfl)) (hat_95 (fun w h => hts w (List.mem_cons_of_mem _ (List.mem_append_right _ (h)))) hXW) got_95 hZ.1 hZ.2 hS (hl.1.trans hml.symm) dX4_received_38 dX4_received_41 dX4_received_42 dX4_received_45 (fun x h => (hexc x h).elim) (Nat.le_of_ble_eq_true rfl) (Nat.le_of_ble_eq_true rfl) (Nat.le_of_ble_eq_true rfl) (Nat.le_of_ble_eq_true rfl) hlocks (fun t hvm hz hk => xe_of (state, left, tapeLen, tapeB, tLine, tReader, nodes) hf hP hD hS hz hk) hS.2.2 (Nat.le_refl _) (Nat.le_refl _)
        · replace hf := hf3 e9
          subst e9
          refine ar_qld (j := 3) hx hb hK.1 hP 1 4 rfl rfl (clamp_lit 3 rfl) (vin_lit 3 4 rfl rfl) dX4_received_29 ?_
          refine lv_astore_n (lv' := [(3, .ref ((a.2.2.2.2.2 3).1)), (0, .ref a.1), (1, .int 3), (2, .int p1)]) hx hb dX4_received_30 rfl hl (by decide) rfl (fun ls hl => ?_)
          refine lv_aload_n hx hb dX4_received_31 rfl (lv_at hl 0 rfl) ?_
          refine va_get (D := (dC, dI)) (ci := 2) (v := .int ((nodes 3).2.2.2.2.2.2.1)) (C := RX2) (T := TX2) (N := 15) hx hb hts hinX2 hown hK.1 hP 44 rfl rfl 10 (by decide) w87 (fun _ h9 => h9) rfl dX4_received_32 ?_
          refine lv_if_ne (tgt := 46) hx hb dX4_received_35 (by decide) (fun c11 => ?_) (fun c11 => ?_)
          · replace hf := hf.1 c11
            refine lv_aload_n hx hb dX4_received_46 rfl (lv_at hl 0 rfl) ?_
            refine va_get (D := (dC, dI)) (ci := 2) (v := .ref ((a.2.2.2.2.2 3).2.2.2.1)) (C := RX2) (T := TX2) (N := 15) hx hb hts hinX2 hown hK.1 hP 44 rfl rfl 1 (by decide) w96 (fun _ h9 => h9) rfl dX4_received_47 ?_
            refine lv_astore (lv' := [(4, .ref ((a.2.2.2.2.2 3).2.2.2.1)), (3, .ref ((a.2.2.2.2.2 3).1)), (0, .ref a.1), (1, .int 3), (2, .int p1)]) hx hb dX4_received_50 hl (by decide) rfl (fun ls hl => ?_)
            refine lv_iload_n hx hb dX4_received_52 rfl (lv_at hl 4 rfl) ?_
            by_cases hsw : p1.toInt < 0 ∨ 2 < p1.toInt
            · refine lv_tableOut (tgt := 108) hx hb dX4_received_53 hsw (by decide) ?_
              replace hf := hf.1 hsw
              refine lv_aload hx hb dX4_received_108 (lv_at hl 0 rfl) ?_
              refine va_get (D := (dC, dI)) (ci := 0) (v := .long ((nodes 3).2.2.2.2.2.2.2.2.2.2.2.2.1.2.2.1)) (C := RX0) (T := TX0) (N := 4) hx hb hts hinX0 hown hK.1 hP 50 rfl rfl 2 (by decide) w111 (fun _ h9 => h9) rfl dX4_received_110 ?_
              refine vx_ret (W.widen (k := 1) (n := 6) (Nat.zero_le _) (Nat.zero_le _) ?_)
              exact W.lret (v := (nodes 3).2.2.2.2.2.2.2.2.2.2.2.2.1.2.2.1) hx hb hr (fun t ht hW => ⟨⟨(nodes 3).2.2.2.2.2.2.2.2.2.2.2.2.1.2.2.1, (state, left, tapeLen, tapeB, tLine, tReader, nodes), rfl, hf, by rw [ht]; exact hP, hD⟩, hS.F ht⟩) hS.2.2 dX4_received_113
            · by_cases hs0 : p1.toInt = 0
              · refine lv_tableIn (off := 27) (tgt := 80) hx hb dX4_received_53 (by omega) (by omega) (by rw [hs0]; rfl) (by decide) ?_
                replace hf := hf.2.1 hs0
                refine lv_aload hx hb dX4_received_80 (lv_at hl 0 rfl) ?_
                refine va_get (D := (dC, dI)) (ci := 0) (v := .int ((nodes 3).2.2.2.2.2.2.2.2.2.2.2.2.1.2.1)) (C := RX0) (T := TX0) (N := 4) hx hb hts hinX0 hown hK.1 hP 50 rfl rfl 1 (by decide) w100 (fun _ h9 => h9) rfl dX4_received_82 ?_
                refine lv_i2l (v := ((nodes 3).2.2.2.2.2.2.2.2.2.2.2.2.1.2.1).toInt64) hx hb dX4_received_85 rfl ?_
                refine vx_ret (W.widen (k := 1) (n := 6) (Nat.zero_le _) (Nat.zero_le _) ?_)
                exact W.lret (v := ((nodes 3).2.2.2.2.2.2.2.2.2.2.2.2.1.2.1).toInt64) hx hb hr (fun t ht hW => ⟨⟨((nodes 3).2.2.2.2.2.2.2.2.2.2.2.2.1.2.1).toInt64, (state, left, tapeLen, tapeB, tLine, tReader, nodes), rfl, hf, by rw [ht]; exact hP, hD⟩, hS.F ht⟩) hS.2.2 dX4_received_86
              by_cases hs1 : p1.toInt = 1
              · refine lv_tableIn (off := 34) (tgt := 87) hx hb dX4_received_53 (by omega) (by omega) (by rw [hs1]; rfl) (by decide) ?_
                replace hf := hf.2.2.1 hs1
                refine lv_aload hx hb dX4_received_87 (lv_at hl 0 rfl) ?_
                refine va_get (D := (dC, dI)) (ci := 0) (v := .int ((nodes 3).2.2.2.2.2.2.2.2.2.2.2.2.1.1)) (C := RX0) (T := TX0) (N := 4) hx hb hts hinX0 hown hK.1 hP 50 rfl rfl 0 (by decide) w105 (fun _ h9 => h9) rfl dX4_received_89 ?_
                refine lv_if_eq (tgt := 99) hx hb dX4_received_92 (by decide) (fun c12 => ?_) (fun c12 => ?_)
                · replace hf := hf.1 c12
                  refine lv_lconst (v := 0) hx hb dX4_received_99 (by decide) ?_
                  refine vx_ret (W.widen (k := 1) (n := 6) (Nat.zero_le _) (Nat.zero_le _) ?_)
                  exact W.lret (v := 0) hx hb hr (fun t ht hW => ⟨⟨0, (state, left, tapeLen, tapeB, tLine, tReader, nodes), rfl, hf, by rw [ht]; exact hP, hD⟩, hS.F ht⟩) hS.2.2 dX4_received_100
                · replace hf := hf.2 c12
                  refine lv_lconst (v := 1) hx hb dX4_received_95 (by decide) ?_
                  refine lv_goto (tgt := 100) hx hb dX4_received_96 (by decide) ?_
                  refine vx_ret (W.widen (k := 1) (n := 6) (Nat.zero_le _) (Nat.zero_le _) ?_)
                  exact W.lret (v := 1) hx hb hr (fun t ht hW => ⟨⟨1, (state, left, tapeLen, tapeB, tLine, tReader, nodes), rfl, hf, by rw [ht]; exact hP, hD⟩, hS.F ht⟩) hS.2.2 dX4_received_100
              by_cases hs2 : p1.toInt = 2
              · refine lv_tableIn (off := 48) (tgt := 101) hx hb dX4_received_53 (by omega) (by omega) (by rw [hs2]; rfl) (by decide) ?_
                replace hf := hf.2.2.2 hs2
                refine lv_aload hx hb dX4_received_101 (lv_at hl 0 rfl) ?_
                refine va_get (D := (dC, dI)) (ci := 0) (v := .int ((nodes 3).2.2.2.2.2.2.2.2.2.2.2.2.1.2.2.2)) (C := RX0) (T := TX0) (N := 4) hx hb hts hinX0 hown hK.1 hP 50 rfl rfl 3 (by decide) w108 (fun _ h9 => h9) rfl dX4_received_103 ?_
                refine lv_i2l (v := ((nodes 3).2.2.2.2.2.2.2.2.2.2.2.2.1.2.2.2).toInt64) hx hb dX4_received_106 rfl ?_
                refine vx_ret (W.widen (k := 1) (n := 6) (Nat.zero_le _) (Nat.zero_le _) ?_)
                exact W.lret (v := ((nodes 3).2.2.2.2.2.2.2.2.2.2.2.2.1.2.2.2).toInt64) hx hb hr (fun t ht hW => ⟨⟨((nodes 3).2.2.2.2.2.2.2.2.2.2.2.2.1.2.2.2).toInt64, (state, left, tapeLen, tapeB, tLine, tReader, nodes), rfl, hf, by rw [ht]; exact hP, hD⟩, hS.F ht⟩) hS.2.2 dX4_received_107
              · exact absurd hsw (by omega)
          · replace hf := hf.2 c11
            exact vx_throw0 (own := RX4) (cls := "java/util/NoSuchElementException") (names := exN) (ik := 93) (ic := 95) hx hb hst hown (by decide +kernel) (by decide +kernel) w93 (hts (.initialized "java/util/NoSuchElementException") (List.mem_of_getElem? (i := 4) rfl)) (hat_95 (fun w h => hts w (List.mem_cons_of_mem _ (List.mem_append_right _ (h)))) hXW) got_95 hZ.1 hZ.2 hS (hl.1.trans hml.symm) dX4_received_38 dX4_received_41 dX4_received_42 dX4_received_45 (fun x h => (hexc x h).elim) (Nat.le_of_ble_eq_true rfl) (Nat.le_of_ble_eq_true rfl) (Nat.le_of_ble_eq_true rfl) (Nat.le_of_ble_eq_true rfl) hlocks (fun t hvm hz hk => xe_of (state, left, tapeLen, tapeB, tLine, tReader, nodes) hf hP hD hS hz hk) hS.2.2 (Nat.le_refl _) (Nat.le_refl _)
      · replace hf := hf.2 c4
        exact j_X4_received_16 C0 a gs K KE hst hexc hXW hZ (state, left, tapeLen, tapeB, tLine, tReader, nodes) H locs ls hP hD hS (lv_sub hl [] rfl) hf

def wp_X4_tape_67 (K : Int32 → WireS → Prop) (KE : String → WireS → Prop) : Nat → WireS → Int32 → Prop
  | 0, _, _ => False
  | n + 1, (state, left, tapeLen, tapeB, tLine, tReader, nodes), v4 => ((tapeLen ≤ v4 → K tapeLen (state, left, tapeLen, tapeB, tLine, tReader, nodes)) ∧ (¬ tapeLen ≤ v4 → wp_X1_bitAt tLine v4 (fun r8 => (vp_in v4 200 ∧ (∀ n11 : Int32, n11 = v4 + 1 → wp_X4_tape_67 K KE n (state, left, tapeLen, (upd tapeB v4.toNatClampNeg r8), tLine, tReader, nodes) n11)))))
def wp_X4_tape : WireS → Int32 → (Int32 → WireS → Prop) → (String → WireS → Prop) → Prop := fun (state, left, tapeLen, tapeB, tLine, tReader, nodes) p0 K KE => wp_X4_isNode p0 (fun r1 => ((¬ r1 = 0 → (vp_in p0 4 ∧ (p0 = 0 → wp_X2_offered (nodes 0) (fun r3 => ((¬ r3 = (-1) → (vp_in r3 4 ∧ (r3 = 0 → wp_X1_write tLine ((nodes 0).2.2.2.2.2.2.2.2.2.2.2.1 0) (fun u6 => wp_X4_tape_67 K KE 1000 (state, left, u6.2.2.1, tapeB, u6, tReader, nodes) 0)) ∧ (r3 = 1 → wp_X1_write tLine ((nodes 0).2.2.2.2.2.2.2.2.2.2.2.1 1) (fun u12 => wp_X4_tape_67 K KE 1000 (state, left, u12.2.2.1, tapeB, u12, tReader, nodes) 0)) ∧ (r3 = 2 → wp_X1_write tLine ((nodes 0).2.2.2.2.2.2.2.2.2.2.2.1 2) (fun u13 => wp_X4_tape_67 K KE 1000 (state, left, u13.2.2.1, tapeB, u13, tReader, nodes) 0)) ∧ (r3 = 3 → wp_X1_write tLine ((nodes 0).2.2.2.2.2.2.2.2.2.2.2.1 3) (fun u14 => wp_X4_tape_67 K KE 1000 (state, left, u14.2.2.1, tapeB, u14, tReader, nodes) 0)))) ∧ (r3 = (-1) → KE "java/util/NoSuchElementException" (state, left, tapeLen, tapeB, tLine, tReader, nodes))))) ∧ (p0 = 1 → wp_X2_offered (nodes 1) (fun r15 => ((¬ r15 = (-1) → (vp_in r15 4 ∧ (r15 = 0 → wp_X1_write tLine ((nodes 1).2.2.2.2.2.2.2.2.2.2.2.1 0) (fun u18 => wp_X4_tape_67 K KE 1000 (state, left, u18.2.2.1, tapeB, u18, tReader, nodes) 0)) ∧ (r15 = 1 → wp_X1_write tLine ((nodes 1).2.2.2.2.2.2.2.2.2.2.2.1 1) (fun u19 => wp_X4_tape_67 K KE 1000 (state, left, u19.2.2.1, tapeB, u19, tReader, nodes) 0)) ∧ (r15 = 2 → wp_X1_write tLine ((nodes 1).2.2.2.2.2.2.2.2.2.2.2.1 2) (fun u20 => wp_X4_tape_67 K KE 1000 (state, left, u20.2.2.1, tapeB, u20, tReader, nodes) 0)) ∧ (r15 = 3 → wp_X1_write tLine ((nodes 1).2.2.2.2.2.2.2.2.2.2.2.1 3) (fun u21 => wp_X4_tape_67 K KE 1000 (state, left, u21.2.2.1, tapeB, u21, tReader, nodes) 0)))) ∧ (r15 = (-1) → KE "java/util/NoSuchElementException" (state, left, tapeLen, tapeB, tLine, tReader, nodes))))) ∧ (p0 = 2 → wp_X2_offered (nodes 2) (fun r22 => ((¬ r22 = (-1) → (vp_in r22 4 ∧ (r22 = 0 → wp_X1_write tLine ((nodes 2).2.2.2.2.2.2.2.2.2.2.2.1 0) (fun u25 => wp_X4_tape_67 K KE 1000 (state, left, u25.2.2.1, tapeB, u25, tReader, nodes) 0)) ∧ (r22 = 1 → wp_X1_write tLine ((nodes 2).2.2.2.2.2.2.2.2.2.2.2.1 1) (fun u26 => wp_X4_tape_67 K KE 1000 (state, left, u26.2.2.1, tapeB, u26, tReader, nodes) 0)) ∧ (r22 = 2 → wp_X1_write tLine ((nodes 2).2.2.2.2.2.2.2.2.2.2.2.1 2) (fun u27 => wp_X4_tape_67 K KE 1000 (state, left, u27.2.2.1, tapeB, u27, tReader, nodes) 0)) ∧ (r22 = 3 → wp_X1_write tLine ((nodes 2).2.2.2.2.2.2.2.2.2.2.2.1 3) (fun u28 => wp_X4_tape_67 K KE 1000 (state, left, u28.2.2.1, tapeB, u28, tReader, nodes) 0)))) ∧ (r22 = (-1) → KE "java/util/NoSuchElementException" (state, left, tapeLen, tapeB, tLine, tReader, nodes))))) ∧ (p0 = 3 → wp_X2_offered (nodes 3) (fun r29 => ((¬ r29 = (-1) → (vp_in r29 4 ∧ (r29 = 0 → wp_X1_write tLine ((nodes 3).2.2.2.2.2.2.2.2.2.2.2.1 0) (fun u32 => wp_X4_tape_67 K KE 1000 (state, left, u32.2.2.1, tapeB, u32, tReader, nodes) 0)) ∧ (r29 = 1 → wp_X1_write tLine ((nodes 3).2.2.2.2.2.2.2.2.2.2.2.1 1) (fun u33 => wp_X4_tape_67 K KE 1000 (state, left, u33.2.2.1, tapeB, u33, tReader, nodes) 0)) ∧ (r29 = 2 → wp_X1_write tLine ((nodes 3).2.2.2.2.2.2.2.2.2.2.2.1 2) (fun u34 => wp_X4_tape_67 K KE 1000 (state, left, u34.2.2.1, tapeB, u34, tReader, nodes) 0)) ∧ (r29 = 3 → wp_X1_write tLine ((nodes 3).2.2.2.2.2.2.2.2.2.2.2.1 3) (fun u35 => wp_X4_tape_67 K KE 1000 (state, left, u35.2.2.1, tapeB, u35, tReader, nodes) 0)))) ∧ (r29 = (-1) → KE "java/util/NoSuchElementException" (state, left, tapeLen, tapeB, tLine, tReader, nodes))))))) ∧ (r1 = 0 → KE "java/lang/IndexOutOfBoundsException" (state, left, tapeLen, tapeB, tLine, tReader, nodes))))
set_option maxHeartbeats 4000000 in
set_option maxRecDepth 100000 in
theorem j_X4_tape_67 {p : Program} {l : Launch} {e : Env} {s : State} {m : MethodId} {args : Array Value} {below : List Frame} {meth : Method} {c : Code} {dC : Nat → ClassId} {dI : Nat → Nat → Nat} {y : Nat → ClassId} {A : Nat → Prop} (C0 : Cx p s m args meth c cX4_tape 5 (some .int) wsX4_tape RX4 A dC dI y) (a : WireA) (gs : Nat → Nat → Nat) (K : Int32 → WireS → Prop) (KE : String → WireS → Prop) (hst : l.stackTraces = false) (hexc : ∀ x ∈ c.exceptionTable.toList, False) (hXW : XW s) (hZ : ZW A s s.heap) : ∀ n : Nat, ∀ (S : WireS) (v4 : Int32) (H : Heap) (locs : List Loc) (ls : Array Slot), va_P (dC, dI) vwCl (wrW y a gs S) H → va_D A (wrW y a gs S) → va_S A s.heap H locs → lv_has ls 5 [(0, .ref a.1), (4, .int v4)] → wp_X4_tape_67 K KE n S v4 → W p l e ({ frames := 6, cells := 1, slots := 6, locals := 89 } : Room) s m args below meth c H locs 0 0 (vx_MQ below (va_Qi K (BW dC dI A (fun u => wrW y a gs u)) A) (XE dC dI A (fun u => wrW y a gs u) KE) args s 1 6 A) (F0 m 67 ls []) := by
  obtain ⟨hx, hb, hr, hml, hown, hts, hlocks, hA, hK⟩ := id C0
  have w22 := hts (Cond.fieldLink RX4 22 "SharedWire" "tapeBits" "[I") (List.mem_of_getElem? (i := 10) rfl)
  have w26 := hts (Cond.fieldLink RX4 26 "SharedWire" "tapeLength" "I") (List.mem_of_getElem? (i := 9) rfl)
  have w32 := hts (Cond.fieldLink RX4 32 "SharedWire" "tapeLine" "LSharedWire$Line;") (List.mem_of_getElem? (i := 6) rfl)
  have hinX4 : ∀ w ∈ wsX40, w ∈ wsX4_tape := fun w h => List.mem_cons_of_mem _ (List.mem_append_left _ (List.mem_append_left _ (List.mem_append_left _ (List.mem_append_left _ (List.mem_append_left _ (List.mem_append_right _ (h)))))))
  intro n
  induction n with
  | zero =>
    intro S v4 H locs ls hP hD hS hl hf
    exact False.elim (by unfold wp_X4_tape_67 at hf; exact hf)
  | succ n ih =>
    intro S v4 H locs ls hP hD hS hl hf
    obtain ⟨state, left, tapeLen, tapeB, tLine, tReader, nodes⟩ := S
    unfold wp_X4_tape_67 at hf
    refine lv_iload hx hb dX4_tape_67 (lv_at hl 1 rfl) ?_
    refine lv_aload_n hx hb dX4_tape_69 rfl (lv_at hl 0 rfl) ?_
    refine va_get (D := (dC, dI)) (ci := 4) (v := .int tapeLen) (C := RX4) (T := TX4) (N := 7) hx hb hts hinX4 hown hK.1 hP 0 rfl rfl 4 (by decide) w26 (fun _ h9 => h9) rfl dX4_tape_70 ?_
    refine lv_icmp_ge (tgt := 98) hx hb dX4_tape_73 (by decide) (fun c7 => ?_) (fun c7 => ?_)
    · replace hf := hf.1 c7
      refine lv_aload_n hx hb dX4_tape_98 rfl (lv_at hl 0 rfl) ?_
      refine va_get (D := (dC, dI)) (ci := 4) (v := .int tapeLen) (C := RX4) (T := TX4) (N := 7) hx hb hts hinX4 hown hK.1 hP 0 rfl rfl 4 (by decide) w26 (fun _ h9 => h9) rfl dX4_tape_99 ?_
      refine vx_ret (W.widen (k := 1) (n := 6) (Nat.zero_le _) (Nat.zero_le _) ?_)
      exact W.iret (v := tapeLen) hx hb hr (fun t ht hW => ⟨⟨tapeLen, (state, left, tapeLen, tapeB, tLine, tReader, nodes), rfl, hf, by rw [ht]; exact hP, hD⟩, hS.F ht⟩) hS.2.2 dX4_tape_102
    · replace hf := hf.2 c7
      refine lv_aload_n hx hb dX4_tape_76 rfl (lv_at hl 0 rfl) ?_
      refine va_get (D := (dC, dI)) (ci := 4) (v := .ref a.2.2.1) (C := RX4) (T := TX4) (N := 7) hx hb hts hinX4 hown hK.1 hP 0 rfl rfl 3 (by decide) w22 (fun _ h9 => h9) rfl dX4_tape_77 ?_
      refine lv_iload hx hb dX4_tape_80 (lv_at hl 1 rfl) ?_
      refine lv_aload_n hx hb dX4_tape_82 rfl (lv_at hl 0 rfl) ?_
      refine va_get (D := (dC, dI)) (ci := 4) (v := .ref a.2.2.2.1.1) (C := RX4) (T := TX4) (N := 7) hx hb hts hinX4 hown hK.1 hP 0 rfl rfl 5 (by decide) w32 (fun _ h9 => h9) rfl dX4_tape_83 ?_
      refine lv_iload hx hb dX4_tape_86 (lv_at hl 1 rfl) ?_
      refine kVi (As := [.int v4]) (rest := [.int v4, .ref a.2.2.1]) (pre := (wrW y a gs (state, left, tapeLen, tapeB, tLine, tReader, nodes)).take 3) (post := (wrW y a gs (state, left, tapeLen, tapeB, tLine, tReader, nodes)).drop 6) ⟨hx, hb, hml, hown, hts⟩ (c_X1_bitAt l dC dI y a.2.2.2.1 H.size tLine v4 _ hf) (cwV 1 hts gX4_tape_X1_bitAt rfl rfl rfl (by decide +kernel) ⟨Nat.le_of_ble_eq_true rfl, Nat.le_of_ble_eq_true rfl⟩) hK hP hD (va_recv hK.1 hP (ci := 1) (q0 := 3) rfl rfl) hS hA rfl hl.1 rfl (Nat.le_of_ble_eq_true rfl) dX4_tape_88 ⟨Nat.zero_le _, Nat.zero_le _⟩ (fun r8 u9 H locs hf hP hD hS => ?_)
      obtain ⟨hf, e9⟩ := hf
      have e9 := e9.symm
      subst e9
      have hP : va_P (dC, dI) vwCl (wrW y a gs (state, left, tapeLen, tapeB, tLine, tReader, nodes)) H := hP
      have hD : va_D A (wrW y a gs (state, left, tapeLen, tapeB, tLine, tReader, nodes)) := hD
      have g10 := hf.1
      replace hf := hf.2
      refine ar_ist (f := tapeB) (j := v4.toNatClampNeg) hx hb hK.1 hP hD hS 2 0 rfl rfl rfl g10 dX4_tape_91 (fun H locs hP hD hS => ?_)
      have hP : va_P (dC, dI) vwCl (wrW y a gs (state, left, tapeLen, (upd tapeB v4.toNatClampNeg r8), tLine, tReader, nodes)) H := hP
      have hD : va_D A (wrW y a gs (state, left, tapeLen, (upd tapeB v4.toNatClampNeg r8), tLine, tReader, nodes)) := hD
      obtain ⟨n11, en11⟩ : ∃ z : Int32, z = v4 + 1 := ⟨_, rfl⟩
      replace hf := hf n11 en11
      refine lv_iinc (v := n11) (lv' := [(4, .int n11), (0, .ref a.1)]) hx hb dX4_tape_92 hl (k := 1) rfl (by rw [en11]; rfl) (by decide) rfl (fun ls hl => ?_)
      refine lv_goto (tgt := 67) hx hb dX4_tape_95 (by decide) ?_
      exact ih (state, left, tapeLen, (upd tapeB v4.toNatClampNeg r8), tLine, tReader, nodes) n11 H locs ls hP hD hS (lv_sub hl [1, 0] rfl) hf
set_option maxHeartbeats 4000000 in
set_option maxRecDepth 100000 in
theorem c_X4_tape (l : Launch) (dC : Nat → ClassId) (dI : Nat → Nat → Nat) (y : Nat → ClassId) (a : WireA) (gs : Nat → Nat → Nat) (sz : Nat) (S : WireS) (p0 : Int32) (K : Int32 → WireS → Prop) (KE : String → WireS → Prop) (hst : l.stackTraces = false) (hf : wp_X4_tape S p0 K KE) : MIX l yX4_tape wsX4_tape { frames := 6, cells := 1, slots := 6, locals := 89 } dC dI y [.ref a.1, .int p0] (wrW y a gs S) sz (fun u => wrW y a gs u) K KE := by
  refine vx_ofW (cc := cX4_tape) (maxL := 5) (ret := (some .int)) (by decide) rfl ?_
  intro p e s m args below meth c s₁ B hml hexc hv
  obtain ⟨rfl, hsz, hP, hK, hXW, hZ, hD0⟩ := hv
  have hx := B.exec
  have hb := B.bytes
  have hr := B.returns
  have hts := atoms_spec (ws := wsX4_tape) B.pre
  have hown : s.vm.findClass RX4 = some m.cls := findClass_of_methodNamed B.named
  have hlocks := B.notSynchronized
  subst hsz
  have hD := hD0.self (sz := s.heap.size)
  generalize hAe : va_A (wrW y a gs S) s.heap.size = A at hD hZ ⊢
  have hA : ∀ q : Nat, s.heap.size ≤ q → A q := fun q h => by rw [← hAe]; exact Or.inr h
  have hS : va_S A s.heap s.heap [] := va_S.rf
  have C0 : Cx p s m [.ref a.1, .int p0].toArray meth c cX4_tape 5 (some .int) wsX4_tape RX4 A dC dI y := ⟨hx, hb, hr, hml, hown, hts, hlocks, hA, hK⟩
  have w11 := hts (Cond.fieldLink RX4 11 "SharedWire" "nodes" "[LSharedWire$Node;") (List.mem_of_getElem? (i := 5) rfl)
  have w26 := hts (Cond.fieldLink RX4 26 "SharedWire" "tapeLength" "I") (List.mem_of_getElem? (i := 9) rfl)
  have w32 := hts (Cond.fieldLink RX4 32 "SharedWire" "tapeLine" "LSharedWire$Line;") (List.mem_of_getElem? (i := 6) rfl)
  have w48 := hts (Cond.classLink RX4 48 "java/lang/IndexOutOfBoundsException") (List.mem_of_getElem? (i := 1) rfl)
  have w93 := hts (Cond.classLink RX4 93 "java/util/NoSuchElementException") (List.mem_of_getElem? (i := 3) rfl)
  have w119 := hts (Cond.fieldLink RX4 119 "SharedWire$Node" "wanted" "[LSharedWire$Frame;") (List.mem_of_getElem? (i := 7) rfl)
  have w127 := hts (Cond.fieldLink RX4 127 "SharedWire$Line" "length" "I") (List.mem_of_getElem? (i := 8) rfl)
  have hinX1 : ∀ w ∈ wsX10, w ∈ wsX4_tape := fun w h => List.mem_cons_of_mem _ (List.mem_append_left _ (List.mem_append_left _ (List.mem_append_left _ (List.mem_append_right _ (h)))))
  have hinX2 : ∀ w ∈ wsX20, w ∈ wsX4_tape := fun w h => List.mem_cons_of_mem _ (List.mem_append_left _ (List.mem_append_left _ (List.mem_append_left _ (List.mem_append_left _ (List.mem_append_right _ (h))))))
  have hinX4 : ∀ w ∈ wsX40, w ∈ wsX4_tape := fun w h => List.mem_cons_of_mem _ (List.mem_append_left _ (List.mem_append_left _ (List.mem_append_left _ (List.mem_append_left _ (List.mem_append_left _ (List.mem_append_right _ (h)))))))
  have hl := lv_entry ([.ref a.1, .int p0]) (n := 5) (Nat.le_of_ble_eq_true rfl)
  rw [lg_entry_eq]
  generalize (lg_sl ([.ref a.1, .int p0]) ++ List.replicate (5 - (lg_sl ([.ref a.1, .int p0])).length) Slot.unset).toArray = ls at hl ⊢
  have hl : lv_has ls 5 [(0, .ref a.1), (1, .int p0)] := hl
  obtain ⟨state, left, tapeLen, tapeB, tLine, tReader, nodes⟩ := S
  clear hAe hD0
  generalize hL0 : ([] : List Loc) = locs at hS ⊢
  unfold wp_X4_tape at hf
  refine lv_iload_n hx hb dX4_tape_0 rfl (lv_at hl 1 rfl) ?_
  refine kSi (As := [.int p0]) (rest := []) ⟨hx, hb, hml, hown, hts⟩ (c_X4_isNode l dC dI y s.heap.size p0 _ hf) (va_cwS 1 hts gX4_tape_X4_isNode rfl rfl rfl (by decide +kernel) ⟨Nat.le_of_ble_eq_true rfl, Nat.le_of_ble_eq_true rfl⟩) hK hP hD hS hA rfl hl.1 rfl (Nat.le_of_ble_eq_true rfl) dX4_tape_1 ⟨Nat.zero_le _, Nat.zero_le _⟩ (fun r1 H locs hf hP hD hS => ?_)
  refine lv_if_ne (tgt := 15) hx hb dX4_tape_4 (by decide) (fun c2 => ?_) (fun c2 => ?_)
  · replace hf := hf.1 c2
    refine lv_aload_n hx hb dX4_tape_15 rfl (lv_at hl 0 rfl) ?_
    refine va_get (D := (dC, dI)) (ci := 4) (v := .ref a.2.1) (C := RX4) (T := TX4) (N := 7) hx hb hts hinX4 hown hK.1 hP 0 rfl rfl 0 (by decide) w11 (fun _ h9 => h9) rfl dX4_tape_16 ?_
    refine lv_iload_n hx hb dX4_tape_19 rfl (lv_at hl 1 rfl) ?_
    obtain ⟨hg9, hf0, hf1, hf2, hf3⟩ := hf
    rcases vin4 hg9 with e9 | e9 | e9 | e9
    · replace hf := hf0 e9
      subst e9
      refine ar_qld (j := 0) hx hb hK.1 hP 1 4 rfl rfl (clamp_lit 0 rfl) (vin_lit 0 4 rfl rfl) dX4_tape_20 ?_
      refine lv_astore_n (lv' := [(2, .ref ((a.2.2.2.2.2 0).1)), (0, .ref a.1), (1, .int 0)]) hx hb dX4_tape_21 rfl hl (by decide) rfl (fun ls hl => ?_)
      refine lv_aload_n hx hb dX4_tape_22 rfl (lv_at hl 0 rfl) ?_
      refine kVi (As := []) (rest := []) (pre := (wrW y a gs (state, left, tapeLen, tapeB, tLine, tReader, nodes)).take 8) (post := (wrW y a gs (state, left, tapeLen, tapeB, tLine, tReader, nodes)).drop 20) ⟨hx, hb, hml, hown, hts⟩ (c_X2_offered l dC dI y (aw (a.2.2.2.2.2 0) (gs 0)) H.size (nodes 0) _ hf) (cwV 0 hts gX4_tape_X2_offered rfl rfl rfl (by decide +kernel) ⟨Nat.le_of_ble_eq_true rfl, Nat.le_of_ble_eq_true rfl⟩) hK hP hD (va_recv hK.1 hP (ci := 2) (q0 := 8) rfl rfl) hS hA rfl hl.1 rfl (Nat.le_of_ble_eq_true rfl) dX4_tape_23 ⟨Nat.zero_le _, Nat.zero_le _⟩ (fun r3 u4 H locs hf hP hD hS => ?_)
      obtain ⟨hf, e9⟩ := hf
      have e9 := e9.symm
      subst e9
      have hP : va_P (dC, dI) vwCl (wrW y a gs (state, left, tapeLen, tapeB, tLine, tReader, nodes)) H := hP
      have hD : va_D A (wrW y a gs (state, left, tapeLen, tapeB, tLine, tReader, nodes)) := hD
      refine lv_istore_n (lv' := [(3, .int r3), (2, .ref ((a.2.2.2.2.2 0).1)), (0, .ref a.1), (1, .int 0)]) hx hb dX4_tape_26 rfl hl (by decide) rfl (fun ls hl => ?_)
      refine lv_iload_n hx hb dX4_tape_27 rfl (lv_at hl 0 rfl) ?_
      refine lv_iconst (v := (-1)) hx hb dX4_tape_28 (by decide) ?_
      refine lv_icmp_ne (tgt := 40) hx hb dX4_tape_29 (by decide) (fun c5 => ?_) (fun c5 => ?_)
      · replace hf := hf.1 c5
        refine lv_aload_n hx hb dX4_tape_40 rfl (lv_at hl 2 rfl) ?_
        refine va_get (D := (dC, dI)) (ci := 4) (v := .ref a.2.2.2.1.1) (C := RX4) (T := TX4) (N := 7) hx hb hts hinX4 hown hK.1 hP 0 rfl rfl 5 (by decide) w32 (fun _ h9 => h9) rfl dX4_tape_41 ?_
        refine lv_aload_n hx hb dX4_tape_44 rfl (lv_at hl 1 rfl) ?_
        refine va_get (D := (dC, dI)) (ci := 2) (v := .ref ((a.2.2.2.2.2 0).2.1)) (C := RX2) (T := TX2) (N := 15) hx hb hts hinX2 hown hK.1 hP 8 rfl rfl 0 (by decide) w119 (fun _ h9 => h9) rfl dX4_tape_45 ?_
        refine lv_iload_n hx hb dX4_tape_48 rfl (lv_at hl 0 rfl) ?_
        obtain ⟨hg9, hf0, hf1, hf2, hf3⟩ := hf
        rcases vin4 hg9 with e9 | e9 | e9 | e9
        · replace hf := hf0 e9
          subst e9
          refine ar_qld (j := 0) hx hb hK.1 hP 9 3 rfl rfl (clamp_lit 0 rfl) (vin_lit 0 4 rfl rfl) dX4_tape_49 ?_
          refine kVvR (As := [.ref (gs 0 0)]) (rest := []) (pre := (wrW y a gs (state, left, tapeLen, tapeB, tLine, tReader, nodes)).take 3) (post := (wrW y a gs (state, left, tapeLen, tapeB, tLine, tReader, nodes)).drop 6) ⟨hx, hb, hml, hown, hts⟩ (c_X1_write l dC dI y a.2.2.2.1 H.size tLine (gs 0 0) ((nodes 0).2.2.2.2.2.2.2.2.2.2.2.1 0) _ hf) (cwV 1 hts gX4_tape_X1_write rfl rfl rfl (by decide +kernel) ⟨Nat.le_of_ble_eq_true rfl, Nat.le_of_ble_eq_true rfl⟩) hK hP hD (hP.sub (ws' := frW (gs 0 0) ((nodes 0).2.2.2.2.2.2.2.2.2.2.2.1 0)) [10] rfl) (hD.sub (ws' := lnW y a.2.2.2.1 tLine ++ frW (gs 0 0) ((nodes 0).2.2.2.2.2.2.2.2.2.2.2.1 0)) [3, 4, 5, 10] (by decide) rfl) (va_recv hK.1 hP (ci := 1) (q0 := 3) rfl rfl) hS hA rfl hl.1 rfl (Nat.le_of_ble_eq_true rfl) dX4_tape_50 ⟨Nat.zero_le _, Nat.zero_le _⟩ (fun u6 H locs hf hP hD hS => ?_)
          have hP : va_P (dC, dI) vwCl (wrW y a gs (state, left, tapeLen, tapeB, u6, tReader, nodes)) H := hP
          have hD : va_D A (wrW y a gs (state, left, tapeLen, tapeB, u6, tReader, nodes)) := hD
          refine lv_aload_n hx hb dX4_tape_53 rfl (lv_at hl 2 rfl) ?_
          refine lv_aload_n hx hb dX4_tape_54 rfl (lv_at hl 2 rfl) ?_
          refine va_get (D := (dC, dI)) (ci := 4) (v := .ref a.2.2.2.1.1) (C := RX4) (T := TX4) (N := 7) hx hb hts hinX4 hown hK.1 hP 0 rfl rfl 5 (by decide) w32 (fun _ h9 => h9) rfl dX4_tape_55 ?_
          refine va_get (D := (dC, dI)) (ci := 1) (v := .int u6.2.2.1) (C := RX1) (T := TX1) (N := 8) hx hb hts hinX1 hown hK.1 hP 3 rfl rfl 2 (by decide) w127 (fun _ h9 => h9) rfl dX4_tape_58 ?_
          refine va_put (D := (dC, dI)) (ci := 4) (v := .int u6.2.2.1) (ty := .int) (C := RX4) (T := TX4) (N := 7) hx hb hts hinX4 tyX4 tyX4_ok nmX4 hown hK.1 hP hD hS 0 rfl rfl 4 (by decide) w26 (fun _ h9 => h9) rfl (by decide +kernel) rfl rfl (Nat.le_of_ble_eq_true rfl) dX4_tape_61 (fun H locs hP hD hS => ?_)
          have hP : va_P (dC, dI) vwCl (wrW y a gs (state, left, u6.2.2.1, tapeB, u6, tReader, nodes)) H := hP
          have hD : va_D A (wrW y a gs (state, left, u6.2.2.1, tapeB, u6, tReader, nodes)) := hD
          refine lv_iconst (v := 0) hx hb dX4_tape_64 (by decide) ?_
          refine lv_istore (lv' := [(4, .int 0), (3, .int 0), (2, .ref ((a.2.2.2.2.2 0).1)), (0, .ref a.1), (1, .int 0)]) hx hb dX4_tape_65 hl (by decide) rfl (fun ls hl => ?_)
          exact j_X4_tape_67 C0 a gs K KE hst hexc hXW hZ 1000 (state, left, u6.2.2.1, tapeB, u6, tReader, nodes) 0 H locs ls hP hD hS (lv_sub hl [3, 0] rfl) hf
        · replace hf := hf1 e9
          subst e9
          refine ar_qld (j := 1) hx hb hK.1 hP 9 3 rfl rfl (clamp_lit 1 rfl) (vin_lit 1 4 rfl rfl) dX4_tape_49 ?_
          refine kVvR (As := [.ref (gs 0 1)]) (rest := []) (pre := (wrW y a gs (state, left, tapeLen, tapeB, tLine, tReader, nodes)).take 3) (post := (wrW y a gs (state, left, tapeLen, tapeB, tLine, tReader, nodes)).drop 6) ⟨hx, hb, hml, hown, hts⟩ (c_X1_write l dC dI y a.2.2.2.1 H.size tLine (gs 0 1) ((nodes 0).2.2.2.2.2.2.2.2.2.2.2.1 1) _ hf) (cwV 1 hts gX4_tape_X1_write rfl rfl rfl (by decide +kernel) ⟨Nat.le_of_ble_eq_true rfl, Nat.le_of_ble_eq_true rfl⟩) hK hP hD (hP.sub (ws' := frW (gs 0 1) ((nodes 0).2.2.2.2.2.2.2.2.2.2.2.1 1)) [11] rfl) (hD.sub (ws' := lnW y a.2.2.2.1 tLine ++ frW (gs 0 1) ((nodes 0).2.2.2.2.2.2.2.2.2.2.2.1 1)) [3, 4, 5, 11] (by decide) rfl) (va_recv hK.1 hP (ci := 1) (q0 := 3) rfl rfl) hS hA rfl hl.1 rfl (Nat.le_of_ble_eq_true rfl) dX4_tape_50 ⟨Nat.zero_le _, Nat.zero_le _⟩ (fun u12 H locs hf hP hD hS => ?_)
          have hP : va_P (dC, dI) vwCl (wrW y a gs (state, left, tapeLen, tapeB, u12, tReader, nodes)) H := hP
          have hD : va_D A (wrW y a gs (state, left, tapeLen, tapeB, u12, tReader, nodes)) := hD
          refine lv_aload_n hx hb dX4_tape_53 rfl (lv_at hl 2 rfl) ?_
          refine lv_aload_n hx hb dX4_tape_54 rfl (lv_at hl 2 rfl) ?_
          refine va_get (D := (dC, dI)) (ci := 4) (v := .ref a.2.2.2.1.1) (C := RX4) (T := TX4) (N := 7) hx hb hts hinX4 hown hK.1 hP 0 rfl rfl 5 (by decide) w32 (fun _ h9 => h9) rfl dX4_tape_55 ?_
          refine va_get (D := (dC, dI)) (ci := 1) (v := .int u12.2.2.1) (C := RX1) (T := TX1) (N := 8) hx hb hts hinX1 hown hK.1 hP 3 rfl rfl 2 (by decide) w127 (fun _ h9 => h9) rfl dX4_tape_58 ?_
          refine va_put (D := (dC, dI)) (ci := 4) (v := .int u12.2.2.1) (ty := .int) (C := RX4) (T := TX4) (N := 7) hx hb hts hinX4 tyX4 tyX4_ok nmX4 hown hK.1 hP hD hS 0 rfl rfl 4 (by decide) w26 (fun _ h9 => h9) rfl (by decide +kernel) rfl rfl (Nat.le_of_ble_eq_true rfl) dX4_tape_61 (fun H locs hP hD hS => ?_)
          have hP : va_P (dC, dI) vwCl (wrW y a gs (state, left, u12.2.2.1, tapeB, u12, tReader, nodes)) H := hP
          have hD : va_D A (wrW y a gs (state, left, u12.2.2.1, tapeB, u12, tReader, nodes)) := hD
          refine lv_iconst (v := 0) hx hb dX4_tape_64 (by decide) ?_
          refine lv_istore (lv' := [(4, .int 0), (3, .int 1), (2, .ref ((a.2.2.2.2.2 0).1)), (0, .ref a.1), (1, .int 0)]) hx hb dX4_tape_65 hl (by decide) rfl (fun ls hl => ?_)
          exact j_X4_tape_67 C0 a gs K KE hst hexc hXW hZ 1000 (state, left, u12.2.2.1, tapeB, u12, tReader, nodes) 0 H locs ls hP hD hS (lv_sub hl [3, 0] rfl) hf
        · replace hf := hf2 e9
          subst e9
          refine ar_qld (j := 2) hx hb hK.1 hP 9 3 rfl rfl (clamp_lit 2 rfl) (vin_lit 2 4 rfl rfl) dX4_tape_49 ?_
          refine kVvR (As := [.ref (gs 0 2)]) (rest := []) (pre := (wrW y a gs (state, left, tapeLen, tapeB, tLine, tReader, nodes)).take 3) (post := (wrW y a gs (state, left, tapeLen, tapeB, tLine, tReader, nodes)).drop 6) ⟨hx, hb, hml, hown, hts⟩ (c_X1_write l dC dI y a.2.2.2.1 H.size tLine (gs 0 2) ((nodes 0).2.2.2.2.2.2.2.2.2.2.2.1 2) _ hf) (cwV 1 hts gX4_tape_X1_write rfl rfl rfl (by decide +kernel) ⟨Nat.le_of_ble_eq_true rfl, Nat.le_of_ble_eq_true rfl⟩) hK hP hD (hP.sub (ws' := frW (gs 0 2) ((nodes 0).2.2.2.2.2.2.2.2.2.2.2.1 2)) [12] rfl) (hD.sub (ws' := lnW y a.2.2.2.1 tLine ++ frW (gs 0 2) ((nodes 0).2.2.2.2.2.2.2.2.2.2.2.1 2)) [3, 4, 5, 12] (by decide) rfl) (va_recv hK.1 hP (ci := 1) (q0 := 3) rfl rfl) hS hA rfl hl.1 rfl (Nat.le_of_ble_eq_true rfl) dX4_tape_50 ⟨Nat.zero_le _, Nat.zero_le _⟩ (fun u13 H locs hf hP hD hS => ?_)
          have hP : va_P (dC, dI) vwCl (wrW y a gs (state, left, tapeLen, tapeB, u13, tReader, nodes)) H := hP
          have hD : va_D A (wrW y a gs (state, left, tapeLen, tapeB, u13, tReader, nodes)) := hD
          refine lv_aload_n hx hb dX4_tape_53 rfl (lv_at hl 2 rfl) ?_
          refine lv_aload_n hx hb dX4_tape_54 rfl (lv_at hl 2 rfl) ?_
          refine va_get (D := (dC, dI)) (ci := 4) (v := .ref a.2.2.2.1.1) (C := RX4) (T := TX4) (N := 7) hx hb hts hinX4 hown hK.1 hP 0 rfl rfl 5 (by decide) w32 (fun _ h9 => h9) rfl dX4_tape_55 ?_
          refine va_get (D := (dC, dI)) (ci := 1) (v := .int u13.2.2.1) (C := RX1) (T := TX1) (N := 8) hx hb hts hinX1 hown hK.1 hP 3 rfl rfl 2 (by decide) w127 (fun _ h9 => h9) rfl dX4_tape_58 ?_
          refine va_put (D := (dC, dI)) (ci := 4) (v := .int u13.2.2.1) (ty := .int) (C := RX4) (T := TX4) (N := 7) hx hb hts hinX4 tyX4 tyX4_ok nmX4 hown hK.1 hP hD hS 0 rfl rfl 4 (by decide) w26 (fun _ h9 => h9) rfl (by decide +kernel) rfl rfl (Nat.le_of_ble_eq_true rfl) dX4_tape_61 (fun H locs hP hD hS => ?_)
          have hP : va_P (dC, dI) vwCl (wrW y a gs (state, left, u13.2.2.1, tapeB, u13, tReader, nodes)) H := hP
          have hD : va_D A (wrW y a gs (state, left, u13.2.2.1, tapeB, u13, tReader, nodes)) := hD
          refine lv_iconst (v := 0) hx hb dX4_tape_64 (by decide) ?_
          refine lv_istore (lv' := [(4, .int 0), (3, .int 2), (2, .ref ((a.2.2.2.2.2 0).1)), (0, .ref a.1), (1, .int 0)]) hx hb dX4_tape_65 hl (by decide) rfl (fun ls hl => ?_)
          exact j_X4_tape_67 C0 a gs K KE hst hexc hXW hZ 1000 (state, left, u13.2.2.1, tapeB, u13, tReader, nodes) 0 H locs ls hP hD hS (lv_sub hl [3, 0] rfl) hf
        · replace hf := hf3 e9
          subst e9
          refine ar_qld (j := 3) hx hb hK.1 hP 9 3 rfl rfl (clamp_lit 3 rfl) (vin_lit 3 4 rfl rfl) dX4_tape_49 ?_
          refine kVvR (As := [.ref (gs 0 3)]) (rest := []) (pre := (wrW y a gs (state, left, tapeLen, tapeB, tLine, tReader, nodes)).take 3) (post := (wrW y a gs (state, left, tapeLen, tapeB, tLine, tReader, nodes)).drop 6) ⟨hx, hb, hml, hown, hts⟩ (c_X1_write l dC dI y a.2.2.2.1 H.size tLine (gs 0 3) ((nodes 0).2.2.2.2.2.2.2.2.2.2.2.1 3) _ hf) (cwV 1 hts gX4_tape_X1_write rfl rfl rfl (by decide +kernel) ⟨Nat.le_of_ble_eq_true rfl, Nat.le_of_ble_eq_true rfl⟩) hK hP hD (hP.sub (ws' := frW (gs 0 3) ((nodes 0).2.2.2.2.2.2.2.2.2.2.2.1 3)) [13] rfl) (hD.sub (ws' := lnW y a.2.2.2.1 tLine ++ frW (gs 0 3) ((nodes 0).2.2.2.2.2.2.2.2.2.2.2.1 3)) [3, 4, 5, 13] (by decide) rfl) (va_recv hK.1 hP (ci := 1) (q0 := 3) rfl rfl) hS hA rfl hl.1 rfl (Nat.le_of_ble_eq_true rfl) dX4_tape_50 ⟨Nat.zero_le _, Nat.zero_le _⟩ (fun u14 H locs hf hP hD hS => ?_)
          have hP : va_P (dC, dI) vwCl (wrW y a gs (state, left, tapeLen, tapeB, u14, tReader, nodes)) H := hP
          have hD : va_D A (wrW y a gs (state, left, tapeLen, tapeB, u14, tReader, nodes)) := hD
          refine lv_aload_n hx hb dX4_tape_53 rfl (lv_at hl 2 rfl) ?_
          refine lv_aload_n hx hb dX4_tape_54 rfl (lv_at hl 2 rfl) ?_
          refine va_get (D := (dC, dI)) (ci := 4) (v := .ref a.2.2.2.1.1) (C := RX4) (T := TX4) (N := 7) hx hb hts hinX4 hown hK.1 hP 0 rfl rfl 5 (by decide) w32 (fun _ h9 => h9) rfl dX4_tape_55 ?_
          refine va_get (D := (dC, dI)) (ci := 1) (v := .int u14.2.2.1) (C := RX1) (T := TX1) (N := 8) hx hb hts hinX1 hown hK.1 hP 3 rfl rfl 2 (by decide) w127 (fun _ h9 => h9) rfl dX4_tape_58 ?_
          refine va_put (D := (dC, dI)) (ci := 4) (v := .int u14.2.2.1) (ty := .int) (C := RX4) (T := TX4) (N := 7) hx hb hts hinX4 tyX4 tyX4_ok nmX4 hown hK.1 hP hD hS 0 rfl rfl 4 (by decide) w26 (fun _ h9 => h9) rfl (by decide +kernel) rfl rfl (Nat.le_of_ble_eq_true rfl) dX4_tape_61 (fun H locs hP hD hS => ?_)
          have hP : va_P (dC, dI) vwCl (wrW y a gs (state, left, u14.2.2.1, tapeB, u14, tReader, nodes)) H := hP
          have hD : va_D A (wrW y a gs (state, left, u14.2.2.1, tapeB, u14, tReader, nodes)) := hD
          refine lv_iconst (v := 0) hx hb dX4_tape_64 (by decide) ?_
          refine lv_istore (lv' := [(4, .int 0), (3, .int 3), (2, .ref ((a.2.2.2.2.2 0).1)), (0, .ref a.1), (1, .int 0)]) hx hb dX4_tape_65 hl (by decide) rfl (fun ls hl => ?_)
          exact j_X4_tape_67 C0 a gs K KE hst hexc hXW hZ 1000 (state, left, u14.2.2.1, tapeB, u14, tReader, nodes) 0 H locs ls hP hD hS (lv_sub hl [3, 0] rfl) hf
      · replace hf := hf.2 c5
        exact vx_throw0 (own := RX4) (cls := "java/util/NoSuchElementException") (names := exN) (ik := 93) (ic := 95) hx hb hst hown (by decide +kernel) (by decide +kernel) w93 (hts (.initialized "java/util/NoSuchElementException") (List.mem_of_getElem? (i := 4) rfl)) (hat_95 (fun w h => hts w (List.mem_cons_of_mem _ (List.mem_append_right _ (h)))) hXW) got_95 hZ.1 hZ.2 hS (hl.1.trans hml.symm) dX4_tape_32 dX4_tape_35 dX4_tape_36 dX4_tape_39 (fun x h => (hexc x h).elim) (Nat.le_of_ble_eq_true rfl) (Nat.le_of_ble_eq_true rfl) (Nat.le_of_ble_eq_true rfl) (Nat.le_of_ble_eq_true rfl) hlocks (fun t hvm hz hk => xe_of (state, left, tapeLen, tapeB, tLine, tReader, nodes) hf hP hD hS hz hk) hS.2.2 (Nat.le_refl _) (Nat.le_refl _)
    · replace hf := hf1 e9
      subst e9
      refine ar_qld (j := 1) hx hb hK.1 hP 1 4 rfl rfl (clamp_lit 1 rfl) (vin_lit 1 4 rfl rfl) dX4_tape_20 ?_
      refine lv_astore_n (lv' := [(2, .ref ((a.2.2.2.2.2 1).1)), (0, .ref a.1), (1, .int 1)]) hx hb dX4_tape_21 rfl hl (by decide) rfl (fun ls hl => ?_)
      refine lv_aload_n hx hb dX4_tape_22 rfl (lv_at hl 0 rfl) ?_
      refine kVi (As := []) (rest := []) (pre := (wrW y a gs (state, left, tapeLen, tapeB, tLine, tReader, nodes)).take 20) (post := (wrW y a gs (state, left, tapeLen, tapeB, tLine, tReader, nodes)).drop 32) ⟨hx, hb, hml, hown, hts⟩ (c_X2_offered l dC dI y (aw (a.2.2.2.2.2 1) (gs 1)) H.size (nodes 1) _ hf) (cwV 0 hts gX4_tape_X2_offered rfl rfl rfl (by decide +kernel) ⟨Nat.le_of_ble_eq_true rfl, Nat.le_of_ble_eq_true rfl⟩) hK hP hD (va_recv hK.1 hP (ci := 2) (q0 := 20) rfl rfl) hS hA rfl hl.1 rfl (Nat.le_of_ble_eq_true rfl) dX4_tape_23 ⟨Nat.zero_le _, Nat.zero_le _⟩ (fun r15 u16 H locs hf hP hD hS => ?_)
      obtain ⟨hf, e9⟩ := hf
      have e9 := e9.symm
      subst e9
      have hP : va_P (dC, dI) vwCl (wrW y a gs (state, left, tapeLen, tapeB, tLine, tReader, nodes)) H := hP
      have hD : va_D A (wrW y a gs (state, left, tapeLen, tapeB, tLine, tReader, nodes)) := hD
      refine lv_istore_n (lv' := [(3, .int r15), (2, .ref ((a.2.2.2.2.2 1).1)), (0, .ref a.1), (1, .int 1)]) hx hb dX4_tape_26 rfl hl (by decide) rfl (fun ls hl => ?_)
      refine lv_iload_n hx hb dX4_tape_27 rfl (lv_at hl 0 rfl) ?_
      refine lv_iconst (v := (-1)) hx hb dX4_tape_28 (by decide) ?_
      refine lv_icmp_ne (tgt := 40) hx hb dX4_tape_29 (by decide) (fun c17 => ?_) (fun c17 => ?_)
      · replace hf := hf.1 c17
        refine lv_aload_n hx hb dX4_tape_40 rfl (lv_at hl 2 rfl) ?_
        refine va_get (D := (dC, dI)) (ci := 4) (v := .ref a.2.2.2.1.1) (C := RX4) (T := TX4) (N := 7) hx hb hts hinX4 hown hK.1 hP 0 rfl rfl 5 (by decide) w32 (fun _ h9 => h9) rfl dX4_tape_41 ?_
        refine lv_aload_n hx hb dX4_tape_44 rfl (lv_at hl 1 rfl) ?_
        refine va_get (D := (dC, dI)) (ci := 2) (v := .ref ((a.2.2.2.2.2 1).2.1)) (C := RX2) (T := TX2) (N := 15) hx hb hts hinX2 hown hK.1 hP 20 rfl rfl 0 (by decide) w119 (fun _ h9 => h9) rfl dX4_tape_45 ?_
        refine lv_iload_n hx hb dX4_tape_48 rfl (lv_at hl 0 rfl) ?_
        obtain ⟨hg9, hf0, hf1, hf2, hf3⟩ := hf
        rcases vin4 hg9 with e9 | e9 | e9 | e9
        · replace hf := hf0 e9
          subst e9
          refine ar_qld (j := 0) hx hb hK.1 hP 21 3 rfl rfl (clamp_lit 0 rfl) (vin_lit 0 4 rfl rfl) dX4_tape_49 ?_
          refine kVvR (As := [.ref (gs 1 0)]) (rest := []) (pre := (wrW y a gs (state, left, tapeLen, tapeB, tLine, tReader, nodes)).take 3) (post := (wrW y a gs (state, left, tapeLen, tapeB, tLine, tReader, nodes)).drop 6) ⟨hx, hb, hml, hown, hts⟩ (c_X1_write l dC dI y a.2.2.2.1 H.size tLine (gs 1 0) ((nodes 1).2.2.2.2.2.2.2.2.2.2.2.1 0) _ hf) (cwV 1 hts gX4_tape_X1_write rfl rfl rfl (by decide +kernel) ⟨Nat.le_of_ble_eq_true rfl, Nat.le_of_ble_eq_true rfl⟩) hK hP hD (hP.sub (ws' := frW (gs 1 0) ((nodes 1).2.2.2.2.2.2.2.2.2.2.2.1 0)) [22] rfl) (hD.sub (ws' := lnW y a.2.2.2.1 tLine ++ frW (gs 1 0) ((nodes 1).2.2.2.2.2.2.2.2.2.2.2.1 0)) [3, 4, 5, 22] (by decide) rfl) (va_recv hK.1 hP (ci := 1) (q0 := 3) rfl rfl) hS hA rfl hl.1 rfl (Nat.le_of_ble_eq_true rfl) dX4_tape_50 ⟨Nat.zero_le _, Nat.zero_le _⟩ (fun u18 H locs hf hP hD hS => ?_)
          have hP : va_P (dC, dI) vwCl (wrW y a gs (state, left, tapeLen, tapeB, u18, tReader, nodes)) H := hP
          have hD : va_D A (wrW y a gs (state, left, tapeLen, tapeB, u18, tReader, nodes)) := hD
          refine lv_aload_n hx hb dX4_tape_53 rfl (lv_at hl 2 rfl) ?_
          refine lv_aload_n hx hb dX4_tape_54 rfl (lv_at hl 2 rfl) ?_
          refine va_get (D := (dC, dI)) (ci := 4) (v := .ref a.2.2.2.1.1) (C := RX4) (T := TX4) (N := 7) hx hb hts hinX4 hown hK.1 hP 0 rfl rfl 5 (by decide) w32 (fun _ h9 => h9) rfl dX4_tape_55 ?_
          refine va_get (D := (dC, dI)) (ci := 1) (v := .int u18.2.2.1) (C := RX1) (T := TX1) (N := 8) hx hb hts hinX1 hown hK.1 hP 3 rfl rfl 2 (by decide) w127 (fun _ h9 => h9) rfl dX4_tape_58 ?_
          refine va_put (D := (dC, dI)) (ci := 4) (v := .int u18.2.2.1) (ty := .int) (C := RX4) (T := TX4) (N := 7) hx hb hts hinX4 tyX4 tyX4_ok nmX4 hown hK.1 hP hD hS 0 rfl rfl 4 (by decide) w26 (fun _ h9 => h9) rfl (by decide +kernel) rfl rfl (Nat.le_of_ble_eq_true rfl) dX4_tape_61 (fun H locs hP hD hS => ?_)
          have hP : va_P (dC, dI) vwCl (wrW y a gs (state, left, u18.2.2.1, tapeB, u18, tReader, nodes)) H := hP
          have hD : va_D A (wrW y a gs (state, left, u18.2.2.1, tapeB, u18, tReader, nodes)) := hD
          refine lv_iconst (v := 0) hx hb dX4_tape_64 (by decide) ?_
          refine lv_istore (lv' := [(4, .int 0), (3, .int 0), (2, .ref ((a.2.2.2.2.2 1).1)), (0, .ref a.1), (1, .int 1)]) hx hb dX4_tape_65 hl (by decide) rfl (fun ls hl => ?_)
          exact j_X4_tape_67 C0 a gs K KE hst hexc hXW hZ 1000 (state, left, u18.2.2.1, tapeB, u18, tReader, nodes) 0 H locs ls hP hD hS (lv_sub hl [3, 0] rfl) hf
        · replace hf := hf1 e9
          subst e9
          refine ar_qld (j := 1) hx hb hK.1 hP 21 3 rfl rfl (clamp_lit 1 rfl) (vin_lit 1 4 rfl rfl) dX4_tape_49 ?_
          refine kVvR (As := [.ref (gs 1 1)]) (rest := []) (pre := (wrW y a gs (state, left, tapeLen, tapeB, tLine, tReader, nodes)).take 3) (post := (wrW y a gs (state, left, tapeLen, tapeB, tLine, tReader, nodes)).drop 6) ⟨hx, hb, hml, hown, hts⟩ (c_X1_write l dC dI y a.2.2.2.1 H.size tLine (gs 1 1) ((nodes 1).2.2.2.2.2.2.2.2.2.2.2.1 1) _ hf) (cwV 1 hts gX4_tape_X1_write rfl rfl rfl (by decide +kernel) ⟨Nat.le_of_ble_eq_true rfl, Nat.le_of_ble_eq_true rfl⟩) hK hP hD (hP.sub (ws' := frW (gs 1 1) ((nodes 1).2.2.2.2.2.2.2.2.2.2.2.1 1)) [23] rfl) (hD.sub (ws' := lnW y a.2.2.2.1 tLine ++ frW (gs 1 1) ((nodes 1).2.2.2.2.2.2.2.2.2.2.2.1 1)) [3, 4, 5, 23] (by decide) rfl) (va_recv hK.1 hP (ci := 1) (q0 := 3) rfl rfl) hS hA rfl hl.1 rfl (Nat.le_of_ble_eq_true rfl) dX4_tape_50 ⟨Nat.zero_le _, Nat.zero_le _⟩ (fun u19 H locs hf hP hD hS => ?_)
          have hP : va_P (dC, dI) vwCl (wrW y a gs (state, left, tapeLen, tapeB, u19, tReader, nodes)) H := hP
          have hD : va_D A (wrW y a gs (state, left, tapeLen, tapeB, u19, tReader, nodes)) := hD
          refine lv_aload_n hx hb dX4_tape_53 rfl (lv_at hl 2 rfl) ?_
          refine lv_aload_n hx hb dX4_tape_54 rfl (lv_at hl 2 rfl) ?_
          refine va_get (D := (dC, dI)) (ci := 4) (v := .ref a.2.2.2.1.1) (C := RX4) (T := TX4) (N := 7) hx hb hts hinX4 hown hK.1 hP 0 rfl rfl 5 (by decide) w32 (fun _ h9 => h9) rfl dX4_tape_55 ?_
          refine va_get (D := (dC, dI)) (ci := 1) (v := .int u19.2.2.1) (C := RX1) (T := TX1) (N := 8) hx hb hts hinX1 hown hK.1 hP 3 rfl rfl 2 (by decide) w127 (fun _ h9 => h9) rfl dX4_tape_58 ?_
          refine va_put (D := (dC, dI)) (ci := 4) (v := .int u19.2.2.1) (ty := .int) (C := RX4) (T := TX4) (N := 7) hx hb hts hinX4 tyX4 tyX4_ok nmX4 hown hK.1 hP hD hS 0 rfl rfl 4 (by decide) w26 (fun _ h9 => h9) rfl (by decide +kernel) rfl rfl (Nat.le_of_ble_eq_true rfl) dX4_tape_61 (fun H locs hP hD hS => ?_)
          have hP : va_P (dC, dI) vwCl (wrW y a gs (state, left, u19.2.2.1, tapeB, u19, tReader, nodes)) H := hP
          have hD : va_D A (wrW y a gs (state, left, u19.2.2.1, tapeB, u19, tReader, nodes)) := hD
          refine lv_iconst (v := 0) hx hb dX4_tape_64 (by decide) ?_
          refine lv_istore (lv' := [(4, .int 0), (3, .int 1), (2, .ref ((a.2.2.2.2.2 1).1)), (0, .ref a.1), (1, .int 1)]) hx hb dX4_tape_65 hl (by decide) rfl (fun ls hl => ?_)
          exact j_X4_tape_67 C0 a gs K KE hst hexc hXW hZ 1000 (state, left, u19.2.2.1, tapeB, u19, tReader, nodes) 0 H locs ls hP hD hS (lv_sub hl [3, 0] rfl) hf
        · replace hf := hf2 e9
          subst e9
          refine ar_qld (j := 2) hx hb hK.1 hP 21 3 rfl rfl (clamp_lit 2 rfl) (vin_lit 2 4 rfl rfl) dX4_tape_49 ?_
          refine kVvR (As := [.ref (gs 1 2)]) (rest := []) (pre := (wrW y a gs (state, left, tapeLen, tapeB, tLine, tReader, nodes)).take 3) (post := (wrW y a gs (state, left, tapeLen, tapeB, tLine, tReader, nodes)).drop 6) ⟨hx, hb, hml, hown, hts⟩ (c_X1_write l dC dI y a.2.2.2.1 H.size tLine (gs 1 2) ((nodes 1).2.2.2.2.2.2.2.2.2.2.2.1 2) _ hf) (cwV 1 hts gX4_tape_X1_write rfl rfl rfl (by decide +kernel) ⟨Nat.le_of_ble_eq_true rfl, Nat.le_of_ble_eq_true rfl⟩) hK hP hD (hP.sub (ws' := frW (gs 1 2) ((nodes 1).2.2.2.2.2.2.2.2.2.2.2.1 2)) [24] rfl) (hD.sub (ws' := lnW y a.2.2.2.1 tLine ++ frW (gs 1 2) ((nodes 1).2.2.2.2.2.2.2.2.2.2.2.1 2)) [3, 4, 5, 24] (by decide) rfl) (va_recv hK.1 hP (ci := 1) (q0 := 3) rfl rfl) hS hA rfl hl.1 rfl (Nat.le_of_ble_eq_true rfl) dX4_tape_50 ⟨Nat.zero_le _, Nat.zero_le _⟩ (fun u20 H locs hf hP hD hS => ?_)
          have hP : va_P (dC, dI) vwCl (wrW y a gs (state, left, tapeLen, tapeB, u20, tReader, nodes)) H := hP
          have hD : va_D A (wrW y a gs (state, left, tapeLen, tapeB, u20, tReader, nodes)) := hD
          refine lv_aload_n hx hb dX4_tape_53 rfl (lv_at hl 2 rfl) ?_
          refine lv_aload_n hx hb dX4_tape_54 rfl (lv_at hl 2 rfl) ?_
          refine va_get (D := (dC, dI)) (ci := 4) (v := .ref a.2.2.2.1.1) (C := RX4) (T := TX4) (N := 7) hx hb hts hinX4 hown hK.1 hP 0 rfl rfl 5 (by decide) w32 (fun _ h9 => h9) rfl dX4_tape_55 ?_
          refine va_get (D := (dC, dI)) (ci := 1) (v := .int u20.2.2.1) (C := RX1) (T := TX1) (N := 8) hx hb hts hinX1 hown hK.1 hP 3 rfl rfl 2 (by decide) w127 (fun _ h9 => h9) rfl dX4_tape_58 ?_
          refine va_put (D := (dC, dI)) (ci := 4) (v := .int u20.2.2.1) (ty := .int) (C := RX4) (T := TX4) (N := 7) hx hb hts hinX4 tyX4 tyX4_ok nmX4 hown hK.1 hP hD hS 0 rfl rfl 4 (by decide) w26 (fun _ h9 => h9) rfl (by decide +kernel) rfl rfl (Nat.le_of_ble_eq_true rfl) dX4_tape_61 (fun H locs hP hD hS => ?_)
          have hP : va_P (dC, dI) vwCl (wrW y a gs (state, left, u20.2.2.1, tapeB, u20, tReader, nodes)) H := hP
          have hD : va_D A (wrW y a gs (state, left, u20.2.2.1, tapeB, u20, tReader, nodes)) := hD
          refine lv_iconst (v := 0) hx hb dX4_tape_64 (by decide) ?_
          refine lv_istore (lv' := [(4, .int 0), (3, .int 2), (2, .ref ((a.2.2.2.2.2 1).1)), (0, .ref a.1), (1, .int 1)]) hx hb dX4_tape_65 hl (by decide) rfl (fun ls hl => ?_)
          exact j_X4_tape_67 C0 a gs K KE hst hexc hXW hZ 1000 (state, left, u20.2.2.1, tapeB, u20, tReader, nodes) 0 H locs ls hP hD hS (lv_sub hl [3, 0] rfl) hf
        · replace hf := hf3 e9
          subst e9
          refine ar_qld (j := 3) hx hb hK.1 hP 21 3 rfl rfl (clamp_lit 3 rfl) (vin_lit 3 4 rfl rfl) dX4_tape_49 ?_
          refine kVvR (As := [.ref (gs 1 3)]) (rest := []) (pre := (wrW y a gs (state, left, tapeLen, tapeB, tLine, tReader, nodes)).take 3) (post := (wrW y a gs (state, left, tapeLen, tapeB, tLine, tReader, nodes)).drop 6) ⟨hx, hb, hml, hown, hts⟩ (c_X1_write l dC dI y a.2.2.2.1 H.size tLine (gs 1 3) ((nodes 1).2.2.2.2.2.2.2.2.2.2.2.1 3) _ hf) (cwV 1 hts gX4_tape_X1_write rfl rfl rfl (by decide +kernel) ⟨Nat.le_of_ble_eq_true rfl, Nat.le_of_ble_eq_true rfl⟩) hK hP hD (hP.sub (ws' := frW (gs 1 3) ((nodes 1).2.2.2.2.2.2.2.2.2.2.2.1 3)) [25] rfl) (hD.sub (ws' := lnW y a.2.2.2.1 tLine ++ frW (gs 1 3) ((nodes 1).2.2.2.2.2.2.2.2.2.2.2.1 3)) [3, 4, 5, 25] (by decide) rfl) (va_recv hK.1 hP (ci := 1) (q0 := 3) rfl rfl) hS hA rfl hl.1 rfl (Nat.le_of_ble_eq_true rfl) dX4_tape_50 ⟨Nat.zero_le _, Nat.zero_le _⟩ (fun u21 H locs hf hP hD hS => ?_)
          have hP : va_P (dC, dI) vwCl (wrW y a gs (state, left, tapeLen, tapeB, u21, tReader, nodes)) H := hP
          have hD : va_D A (wrW y a gs (state, left, tapeLen, tapeB, u21, tReader, nodes)) := hD
          refine lv_aload_n hx hb dX4_tape_53 rfl (lv_at hl 2 rfl) ?_
          refine lv_aload_n hx hb dX4_tape_54 rfl (lv_at hl 2 rfl) ?_
          refine va_get (D := (dC, dI)) (ci := 4) (v := .ref a.2.2.2.1.1) (C := RX4) (T := TX4) (N := 7) hx hb hts hinX4 hown hK.1 hP 0 rfl rfl 5 (by decide) w32 (fun _ h9 => h9) rfl dX4_tape_55 ?_
          refine va_get (D := (dC, dI)) (ci := 1) (v := .int u21.2.2.1) (C := RX1) (T := TX1) (N := 8) hx hb hts hinX1 hown hK.1 hP 3 rfl rfl 2 (by decide) w127 (fun _ h9 => h9) rfl dX4_tape_58 ?_
          refine va_put (D := (dC, dI)) (ci := 4) (v := .int u21.2.2.1) (ty := .int) (C := RX4) (T := TX4) (N := 7) hx hb hts hinX4 tyX4 tyX4_ok nmX4 hown hK.1 hP hD hS 0 rfl rfl 4 (by decide) w26 (fun _ h9 => h9) rfl (by decide +kernel) rfl rfl (Nat.le_of_ble_eq_true rfl) dX4_tape_61 (fun H locs hP hD hS => ?_)
          have hP : va_P (dC, dI) vwCl (wrW y a gs (state, left, u21.2.2.1, tapeB, u21, tReader, nodes)) H := hP
          have hD : va_D A (wrW y a gs (state, left, u21.2.2.1, tapeB, u21, tReader, nodes)) := hD
          refine lv_iconst (v := 0) hx hb dX4_tape_64 (by decide) ?_
          refine lv_istore (lv' := [(4, .int 0), (3, .int 3), (2, .ref ((a.2.2.2.2.2 1).1)), (0, .ref a.1), (1, .int 1)]) hx hb dX4_tape_65 hl (by decide) rfl (fun ls hl => ?_)
          exact j_X4_tape_67 C0 a gs K KE hst hexc hXW hZ 1000 (state, left, u21.2.2.1, tapeB, u21, tReader, nodes) 0 H locs ls hP hD hS (lv_sub hl [3, 0] rfl) hf
      · replace hf := hf.2 c17
        exact vx_throw0 (own := RX4) (cls := "java/util/NoSuchElementException") (names := exN) (ik := 93) (ic := 95) hx hb hst hown (by decide +kernel) (by decide +kernel) w93 (hts (.initialized "java/util/NoSuchElementException") (List.mem_of_getElem? (i := 4) rfl)) (hat_95 (fun w h => hts w (List.mem_cons_of_mem _ (List.mem_append_right _ (h)))) hXW) got_95 hZ.1 hZ.2 hS (hl.1.trans hml.symm) dX4_tape_32 dX4_tape_35 dX4_tape_36 dX4_tape_39 (fun x h => (hexc x h).elim) (Nat.le_of_ble_eq_true rfl) (Nat.le_of_ble_eq_true rfl) (Nat.le_of_ble_eq_true rfl) (Nat.le_of_ble_eq_true rfl) hlocks (fun t hvm hz hk => xe_of (state, left, tapeLen, tapeB, tLine, tReader, nodes) hf hP hD hS hz hk) hS.2.2 (Nat.le_refl _) (Nat.le_refl _)
    · replace hf := hf2 e9
      subst e9
      refine ar_qld (j := 2) hx hb hK.1 hP 1 4 rfl rfl (clamp_lit 2 rfl) (vin_lit 2 4 rfl rfl) dX4_tape_20 ?_
      refine lv_astore_n (lv' := [(2, .ref ((a.2.2.2.2.2 2).1)), (0, .ref a.1), (1, .int 2)]) hx hb dX4_tape_21 rfl hl (by decide) rfl (fun ls hl => ?_)
      refine lv_aload_n hx hb dX4_tape_22 rfl (lv_at hl 0 rfl) ?_
      refine kVi (As := []) (rest := []) (pre := (wrW y a gs (state, left, tapeLen, tapeB, tLine, tReader, nodes)).take 32) (post := (wrW y a gs (state, left, tapeLen, tapeB, tLine, tReader, nodes)).drop 44) ⟨hx, hb, hml, hown, hts⟩ (c_X2_offered l dC dI y (aw (a.2.2.2.2.2 2) (gs 2)) H.size (nodes 2) _ hf) (cwV 0 hts gX4_tape_X2_offered rfl rfl rfl (by decide +kernel) ⟨Nat.le_of_ble_eq_true rfl, Nat.le_of_ble_eq_true rfl⟩) hK hP hD (va_recv hK.1 hP (ci := 2) (q0 := 32) rfl rfl) hS hA rfl hl.1 rfl (Nat.le_of_ble_eq_true rfl) dX4_tape_23 ⟨Nat.zero_le _, Nat.zero_le _⟩ (fun r22 u23 H locs hf hP hD hS => ?_)
      obtain ⟨hf, e9⟩ := hf
      have e9 := e9.symm
      subst e9
      have hP : va_P (dC, dI) vwCl (wrW y a gs (state, left, tapeLen, tapeB, tLine, tReader, nodes)) H := hP
      have hD : va_D A (wrW y a gs (state, left, tapeLen, tapeB, tLine, tReader, nodes)) := hD
      refine lv_istore_n (lv' := [(3, .int r22), (2, .ref ((a.2.2.2.2.2 2).1)), (0, .ref a.1), (1, .int 2)]) hx hb dX4_tape_26 rfl hl (by decide) rfl (fun ls hl => ?_)
      refine lv_iload_n hx hb dX4_tape_27 rfl (lv_at hl 0 rfl) ?_
      refine lv_iconst (v := (-1)) hx hb dX4_tape_28 (by decide) ?_
      refine lv_icmp_ne (tgt := 40) hx hb dX4_tape_29 (by decide) (fun c24 => ?_) (fun c24 => ?_)
      · replace hf := hf.1 c24
        refine lv_aload_n hx hb dX4_tape_40 rfl (lv_at hl 2 rfl) ?_
        refine va_get (D := (dC, dI)) (ci := 4) (v := .ref a.2.2.2.1.1) (C := RX4) (T := TX4) (N := 7) hx hb hts hinX4 hown hK.1 hP 0 rfl rfl 5 (by decide) w32 (fun _ h9 => h9) rfl dX4_tape_41 ?_
        refine lv_aload_n hx hb dX4_tape_44 rfl (lv_at hl 1 rfl) ?_
        refine va_get (D := (dC, dI)) (ci := 2) (v := .ref ((a.2.2.2.2.2 2).2.1)) (C := RX2) (T := TX2) (N := 15) hx hb hts hinX2 hown hK.1 hP 32 rfl rfl 0 (by decide) w119 (fun _ h9 => h9) rfl dX4_tape_45 ?_
        refine lv_iload_n hx hb dX4_tape_48 rfl (lv_at hl 0 rfl) ?_
        obtain ⟨hg9, hf0, hf1, hf2, hf3⟩ := hf
        rcases vin4 hg9 with e9 | e9 | e9 | e9
        · replace hf := hf0 e9
          subst e9
          refine ar_qld (j := 0) hx hb hK.1 hP 33 3 rfl rfl (clamp_lit 0 rfl) (vin_lit 0 4 rfl rfl) dX4_tape_49 ?_
          refine kVvR (As := [.ref (gs 2 0)]) (rest := []) (pre := (wrW y a gs (state, left, tapeLen, tapeB, tLine, tReader, nodes)).take 3) (post := (wrW y a gs (state, left, tapeLen, tapeB, tLine, tReader, nodes)).drop 6) ⟨hx, hb, hml, hown, hts⟩ (c_X1_write l dC dI y a.2.2.2.1 H.size tLine (gs 2 0) ((nodes 2).2.2.2.2.2.2.2.2.2.2.2.1 0) _ hf) (cwV 1 hts gX4_tape_X1_write rfl rfl rfl (by decide +kernel) ⟨Nat.le_of_ble_eq_true rfl, Nat.le_of_ble_eq_true rfl⟩) hK hP hD (hP.sub (ws' := frW (gs 2 0) ((nodes 2).2.2.2.2.2.2.2.2.2.2.2.1 0)) [34] rfl) (hD.sub (ws' := lnW y a.2.2.2.1 tLine ++ frW (gs 2 0) ((nodes 2).2.2.2.2.2.2.2.2.2.2.2.1 0)) [3, 4, 5, 34] (by decide) rfl) (va_recv hK.1 hP (ci := 1) (q0 := 3) rfl rfl) hS hA rfl hl.1 rfl (Nat.le_of_ble_eq_true rfl) dX4_tape_50 ⟨Nat.zero_le _, Nat.zero_le _⟩ (fun u25 H locs hf hP hD hS => ?_)
          have hP : va_P (dC, dI) vwCl (wrW y a gs (state, left, tapeLen, tapeB, u25, tReader, nodes)) H := hP
          have hD : va_D A (wrW y a gs (state, left, tapeLen, tapeB, u25, tReader, nodes)) := hD
          refine lv_aload_n hx hb dX4_tape_53 rfl (lv_at hl 2 rfl) ?_
          refine lv_aload_n hx hb dX4_tape_54 rfl (lv_at hl 2 rfl) ?_
          refine va_get (D := (dC, dI)) (ci := 4) (v := .ref a.2.2.2.1.1) (C := RX4) (T := TX4) (N := 7) hx hb hts hinX4 hown hK.1 hP 0 rfl rfl 5 (by decide) w32 (fun _ h9 => h9) rfl dX4_tape_55 ?_
          refine va_get (D := (dC, dI)) (ci := 1) (v := .int u25.2.2.1) (C := RX1) (T := TX1) (N := 8) hx hb hts hinX1 hown hK.1 hP 3 rfl rfl 2 (by decide) w127 (fun _ h9 => h9) rfl dX4_tape_58 ?_
          refine va_put (D := (dC, dI)) (ci := 4) (v := .int u25.2.2.1) (ty := .int) (C := RX4) (T := TX4) (N := 7) hx hb hts hinX4 tyX4 tyX4_ok nmX4 hown hK.1 hP hD hS 0 rfl rfl 4 (by decide) w26 (fun _ h9 => h9) rfl (by decide +kernel) rfl rfl (Nat.le_of_ble_eq_true rfl) dX4_tape_61 (fun H locs hP hD hS => ?_)
          have hP : va_P (dC, dI) vwCl (wrW y a gs (state, left, u25.2.2.1, tapeB, u25, tReader, nodes)) H := hP
          have hD : va_D A (wrW y a gs (state, left, u25.2.2.1, tapeB, u25, tReader, nodes)) := hD
          refine lv_iconst (v := 0) hx hb dX4_tape_64 (by decide) ?_
          refine lv_istore (lv' := [(4, .int 0), (3, .int 0), (2, .ref ((a.2.2.2.2.2 2).1)), (0, .ref a.1), (1, .int 2)]) hx hb dX4_tape_65 hl (by decide) rfl (fun ls hl => ?_)
          exact j_X4_tape_67 C0 a gs K KE hst hexc hXW hZ 1000 (state, left, u25.2.2.1, tapeB, u25, tReader, nodes) 0 H locs ls hP hD hS (lv_sub hl [3, 0] rfl) hf
        · replace hf := hf1 e9
          subst e9
          refine ar_qld (j := 1) hx hb hK.1 hP 33 3 rfl rfl (clamp_lit 1 rfl) (vin_lit 1 4 rfl rfl) dX4_tape_49 ?_
          refine kVvR (As := [.ref (gs 2 1)]) (rest := []) (pre := (wrW y a gs (state, left, tapeLen, tapeB, tLine, tReader, nodes)).take 3) (post := (wrW y a gs (state, left, tapeLen, tapeB, tLine, tReader, nodes)).drop 6) ⟨hx, hb, hml, hown, hts⟩ (c_X1_write l dC dI y a.2.2.2.1 H.size tLine (gs 2 1) ((nodes 2).2.2.2.2.2.2.2.2.2.2.2.1 1) _ hf) (cwV 1 hts gX4_tape_X1_write rfl rfl rfl (by decide +kernel) ⟨Nat.le_of_ble_eq_true rfl, Nat.le_of_ble_eq_true rfl⟩) hK hP hD (hP.sub (ws' := frW (gs 2 1) ((nodes 2).2.2.2.2.2.2.2.2.2.2.2.1 1)) [35] rfl) (hD.sub (ws' := lnW y a.2.2.2.1 tLine ++ frW (gs 2 1) ((nodes 2).2.2.2.2.2.2.2.2.2.2.2.1 1)) [3, 4, 5, 35] (by decide) rfl) (va_recv hK.1 hP (ci := 1) (q0 := 3) rfl rfl) hS hA rfl hl.1 rfl (Nat.le_of_ble_eq_true rfl) dX4_tape_50 ⟨Nat.zero_le _, Nat.zero_le _⟩ (fun u26 H locs hf hP hD hS => ?_)
          have hP : va_P (dC, dI) vwCl (wrW y a gs (state, left, tapeLen, tapeB, u26, tReader, nodes)) H := hP
          have hD : va_D A (wrW y a gs (state, left, tapeLen, tapeB, u26, tReader, nodes)) := hD
          refine lv_aload_n hx hb dX4_tape_53 rfl (lv_at hl 2 rfl) ?_
          refine lv_aload_n hx hb dX4_tape_54 rfl (lv_at hl 2 rfl) ?_
          refine va_get (D := (dC, dI)) (ci := 4) (v := .ref a.2.2.2.1.1) (C := RX4) (T := TX4) (N := 7) hx hb hts hinX4 hown hK.1 hP 0 rfl rfl 5 (by decide) w32 (fun _ h9 => h9) rfl dX4_tape_55 ?_
          refine va_get (D := (dC, dI)) (ci := 1) (v := .int u26.2.2.1) (C := RX1) (T := TX1) (N := 8) hx hb hts hinX1 hown hK.1 hP 3 rfl rfl 2 (by decide) w127 (fun _ h9 => h9) rfl dX4_tape_58 ?_
          refine va_put (D := (dC, dI)) (ci := 4) (v := .int u26.2.2.1) (ty := .int) (C := RX4) (T := TX4) (N := 7) hx hb hts hinX4 tyX4 tyX4_ok nmX4 hown hK.1 hP hD hS 0 rfl rfl 4 (by decide) w26 (fun _ h9 => h9) rfl (by decide +kernel) rfl rfl (Nat.le_of_ble_eq_true rfl) dX4_tape_61 (fun H locs hP hD hS => ?_)
          have hP : va_P (dC, dI) vwCl (wrW y a gs (state, left, u26.2.2.1, tapeB, u26, tReader, nodes)) H := hP
          have hD : va_D A (wrW y a gs (state, left, u26.2.2.1, tapeB, u26, tReader, nodes)) := hD
          refine lv_iconst (v := 0) hx hb dX4_tape_64 (by decide) ?_
          refine lv_istore (lv' := [(4, .int 0), (3, .int 1), (2, .ref ((a.2.2.2.2.2 2).1)), (0, .ref a.1), (1, .int 2)]) hx hb dX4_tape_65 hl (by decide) rfl (fun ls hl => ?_)
          exact j_X4_tape_67 C0 a gs K KE hst hexc hXW hZ 1000 (state, left, u26.2.2.1, tapeB, u26, tReader, nodes) 0 H locs ls hP hD hS (lv_sub hl [3, 0] rfl) hf
        · replace hf := hf2 e9
          subst e9
          refine ar_qld (j := 2) hx hb hK.1 hP 33 3 rfl rfl (clamp_lit 2 rfl) (vin_lit 2 4 rfl rfl) dX4_tape_49 ?_
          refine kVvR (As := [.ref (gs 2 2)]) (rest := []) (pre := (wrW y a gs (state, left, tapeLen, tapeB, tLine, tReader, nodes)).take 3) (post := (wrW y a gs (state, left, tapeLen, tapeB, tLine, tReader, nodes)).drop 6) ⟨hx, hb, hml, hown, hts⟩ (c_X1_write l dC dI y a.2.2.2.1 H.size tLine (gs 2 2) ((nodes 2).2.2.2.2.2.2.2.2.2.2.2.1 2) _ hf) (cwV 1 hts gX4_tape_X1_write rfl rfl rfl (by decide +kernel) ⟨Nat.le_of_ble_eq_true rfl, Nat.le_of_ble_eq_true rfl⟩) hK hP hD (hP.sub (ws' := frW (gs 2 2) ((nodes 2).2.2.2.2.2.2.2.2.2.2.2.1 2)) [36] rfl) (hD.sub (ws' := lnW y a.2.2.2.1 tLine ++ frW (gs 2 2) ((nodes 2).2.2.2.2.2.2.2.2.2.2.2.1 2)) [3, 4, 5, 36] (by decide) rfl) (va_recv hK.1 hP (ci := 1) (q0 := 3) rfl rfl) hS hA rfl hl.1 rfl (Nat.le_of_ble_eq_true rfl) dX4_tape_50 ⟨Nat.zero_le _, Nat.zero_le _⟩ (fun u27 H locs hf hP hD hS => ?_)
          have hP : va_P (dC, dI) vwCl (wrW y a gs (state, left, tapeLen, tapeB, u27, tReader, nodes)) H := hP
          have hD : va_D A (wrW y a gs (state, left, tapeLen, tapeB, u27, tReader, nodes)) := hD
          refine lv_aload_n hx hb dX4_tape_53 rfl (lv_at hl 2 rfl) ?_
          refine lv_aload_n hx hb dX4_tape_54 rfl (lv_at hl 2 rfl) ?_
          refine va_get (D := (dC, dI)) (ci := 4) (v := .ref a.2.2.2.1.1) (C := RX4) (T := TX4) (N := 7) hx hb hts hinX4 hown hK.1 hP 0 rfl rfl 5 (by decide) w32 (fun _ h9 => h9) rfl dX4_tape_55 ?_
          refine va_get (D := (dC, dI)) (ci := 1) (v := .int u27.2.2.1) (C := RX1) (T := TX1) (N := 8) hx hb hts hinX1 hown hK.1 hP 3 rfl rfl 2 (by decide) w127 (fun _ h9 => h9) rfl dX4_tape_58 ?_
          refine va_put (D := (dC, dI)) (ci := 4) (v := .int u27.2.2.1) (ty := .int) (C := RX4) (T := TX4) (N := 7) hx hb hts hinX4 tyX4 tyX4_ok nmX4 hown hK.1 hP hD hS 0 rfl rfl 4 (by decide) w26 (fun _ h9 => h9) rfl (by decide +kernel) rfl rfl (Nat.le_of_ble_eq_true rfl) dX4_tape_61 (fun H locs hP hD hS => ?_)
          have hP : va_P (dC, dI) vwCl (wrW y a gs (state, left, u27.2.2.1, tapeB, u27, tReader, nodes)) H := hP
          have hD : va_D A (wrW y a gs (state, left, u27.2.2.1, tapeB, u27, tReader, nodes)) := hD
          refine lv_iconst (v := 0) hx hb dX4_tape_64 (by decide) ?_
          refine lv_istore (lv' := [(4, .int 0), (3, .int 2), (2, .ref ((a.2.2.2.2.2 2).1)), (0, .ref a.1), (1, .int 2)]) hx hb dX4_tape_65 hl (by decide) rfl (fun ls hl => ?_)
          exact j_X4_tape_67 C0 a gs K KE hst hexc hXW hZ 1000 (state, left, u27.2.2.1, tapeB, u27, tReader, nodes) 0 H locs ls hP hD hS (lv_sub hl [3, 0] rfl) hf
        · replace hf := hf3 e9
          subst e9
          refine ar_qld (j := 3) hx hb hK.1 hP 33 3 rfl rfl (clamp_lit 3 rfl) (vin_lit 3 4 rfl rfl) dX4_tape_49 ?_
          refine kVvR (As := [.ref (gs 2 3)]) (rest := []) (pre := (wrW y a gs (state, left, tapeLen, tapeB, tLine, tReader, nodes)).take 3) (post := (wrW y a gs (state, left, tapeLen, tapeB, tLine, tReader, nodes)).drop 6) ⟨hx, hb, hml, hown, hts⟩ (c_X1_write l dC dI y a.2.2.2.1 H.size tLine (gs 2 3) ((nodes 2).2.2.2.2.2.2.2.2.2.2.2.1 3) _ hf) (cwV 1 hts gX4_tape_X1_write rfl rfl rfl (by decide +kernel) ⟨Nat.le_of_ble_eq_true rfl, Nat.le_of_ble_eq_true rfl⟩) hK hP hD (hP.sub (ws' := frW (gs 2 3) ((nodes 2).2.2.2.2.2.2.2.2.2.2.2.1 3)) [37] rfl) (hD.sub (ws' := lnW y a.2.2.2.1 tLine ++ frW (gs 2 3) ((nodes 2).2.2.2.2.2.2.2.2.2.2.2.1 3)) [3, 4, 5, 37] (by decide) rfl) (va_recv hK.1 hP (ci := 1) (q0 := 3) rfl rfl) hS hA rfl hl.1 rfl (Nat.le_of_ble_eq_true rfl) dX4_tape_50 ⟨Nat.zero_le _, Nat.zero_le _⟩ (fun u28 H locs hf hP hD hS => ?_)
          have hP : va_P (dC, dI) vwCl (wrW y a gs (state, left, tapeLen, tapeB, u28, tReader, nodes)) H := hP
          have hD : va_D A (wrW y a gs (state, left, tapeLen, tapeB, u28, tReader, nodes)) := hD
          refine lv_aload_n hx hb dX4_tape_53 rfl (lv_at hl 2 rfl) ?_
          refine lv_aload_n hx hb dX4_tape_54 rfl (lv_at hl 2 rfl) ?_
          refine va_get (D := (dC, dI)) (ci := 4) (v := .ref a.2.2.2.1.1) (C := RX4) (T := TX4) (N := 7) hx hb hts hinX4 hown hK.1 hP 0 rfl rfl 5 (by decide) w32 (fun _ h9 => h9) rfl dX4_tape_55 ?_
          refine va_get (D := (dC, dI)) (ci := 1) (v := .int u28.2.2.1) (C := RX1) (T := TX1) (N := 8) hx hb hts hinX1 hown hK.1 hP 3 rfl rfl 2 (by decide) w127 (fun _ h9 => h9) rfl dX4_tape_58 ?_
          refine va_put (D := (dC, dI)) (ci := 4) (v := .int u28.2.2.1) (ty := .int) (C := RX4) (T := TX4) (N := 7) hx hb hts hinX4 tyX4 tyX4_ok nmX4 hown hK.1 hP hD hS 0 rfl rfl 4 (by decide) w26 (fun _ h9 => h9) rfl (by decide +kernel) rfl rfl (Nat.le_of_ble_eq_true rfl) dX4_tape_61 (fun H locs hP hD hS => ?_)
          have hP : va_P (dC, dI) vwCl (wrW y a gs (state, left, u28.2.2.1, tapeB, u28, tReader, nodes)) H := hP
          have hD : va_D A (wrW y a gs (state, left, u28.2.2.1, tapeB, u28, tReader, nodes)) := hD
          refine lv_iconst (v := 0) hx hb dX4_tape_64 (by decide) ?_
          refine lv_istore (lv' := [(4, .int 0), (3, .int 3), (2, .ref ((a.2.2.2.2.2 2).1)), (0, .ref a.1), (1, .int 2)]) hx hb dX4_tape_65 hl (by decide) rfl (fun ls hl => ?_)
          exact j_X4_tape_67 C0 a gs K KE hst hexc hXW hZ 1000 (state, left, u28.2.2.1, tapeB, u28, tReader, nodes) 0 H locs ls hP hD hS (lv_sub hl [3, 0] rfl) hf
      · replace hf := hf.2 c24
        exact vx_throw0 (own := RX4) (cls := "java/util/NoSuchElementException") (names := exN) (ik := 93) (ic := 95) hx hb hst hown (by decide +kernel) (by decide +kernel) w93 (hts (.initialized "java/util/NoSuchElementException") (List.mem_of_getElem? (i := 4) rfl)) (hat_95 (fun w h => hts w (List.mem_cons_of_mem _ (List.mem_append_right _ (h)))) hXW) got_95 hZ.1 hZ.2 hS (hl.1.trans hml.symm) dX4_tape_32 dX4_tape_35 dX4_tape_36 dX4_tape_39 (fun x h => (hexc x h).elim) (Nat.le_of_ble_eq_true rfl) (Nat.le_of_ble_eq_true rfl) (Nat.le_of_ble_eq_true rfl) (Nat.le_of_ble_eq_true rfl) hlocks (fun t hvm hz hk => xe_of (state, left, tapeLen, tapeB, tLine, tReader, nodes) hf hP hD hS hz hk) hS.2.2 (Nat.le_refl _) (Nat.le_refl _)
    · replace hf := hf3 e9
      subst e9
      refine ar_qld (j := 3) hx hb hK.1 hP 1 4 rfl rfl (clamp_lit 3 rfl) (vin_lit 3 4 rfl rfl) dX4_tape_20 ?_
      refine lv_astore_n (lv' := [(2, .ref ((a.2.2.2.2.2 3).1)), (0, .ref a.1), (1, .int 3)]) hx hb dX4_tape_21 rfl hl (by decide) rfl (fun ls hl => ?_)
      refine lv_aload_n hx hb dX4_tape_22 rfl (lv_at hl 0 rfl) ?_
      refine kVi (As := []) (rest := []) (pre := (wrW y a gs (state, left, tapeLen, tapeB, tLine, tReader, nodes)).take 44) (post := (wrW y a gs (state, left, tapeLen, tapeB, tLine, tReader, nodes)).drop 56) ⟨hx, hb, hml, hown, hts⟩ (c_X2_offered l dC dI y (aw (a.2.2.2.2.2 3) (gs 3)) H.size (nodes 3) _ hf) (cwV 0 hts gX4_tape_X2_offered rfl rfl rfl (by decide +kernel) ⟨Nat.le_of_ble_eq_true rfl, Nat.le_of_ble_eq_true rfl⟩) hK hP hD (va_recv hK.1 hP (ci := 2) (q0 := 44) rfl rfl) hS hA rfl hl.1 rfl (Nat.le_of_ble_eq_true rfl) dX4_tape_23 ⟨Nat.zero_le _, Nat.zero_le _⟩ (fun r29 u30 H locs hf hP hD hS => ?_)
      obtain ⟨hf, e9⟩ := hf
      have e9 := e9.symm
      subst e9
      have hP : va_P (dC, dI) vwCl (wrW y a gs (state, left, tapeLen, tapeB, tLine, tReader, nodes)) H := hP
      have hD : va_D A (wrW y a gs (state, left, tapeLen, tapeB, tLine, tReader, nodes)) := hD
      refine lv_istore_n (lv' := [(3, .int r29), (2, .ref ((a.2.2.2.2.2 3).1)), (0, .ref a.1), (1, .int 3)]) hx hb dX4_tape_26 rfl hl (by decide) rfl (fun ls hl => ?_)
      refine lv_iload_n hx hb dX4_tape_27 rfl (lv_at hl 0 rfl) ?_
      refine lv_iconst (v := (-1)) hx hb dX4_tape_28 (by decide) ?_
      refine lv_icmp_ne (tgt := 40) hx hb dX4_tape_29 (by decide) (fun c31 => ?_) (fun c31 => ?_)
      · replace hf := hf.1 c31
        refine lv_aload_n hx hb dX4_tape_40 rfl (lv_at hl 2 rfl) ?_
        refine va_get (D := (dC, dI)) (ci := 4) (v := .ref a.2.2.2.1.1) (C := RX4) (T := TX4) (N := 7) hx hb hts hinX4 hown hK.1 hP 0 rfl rfl 5 (by decide) w32 (fun _ h9 => h9) rfl dX4_tape_41 ?_
        refine lv_aload_n hx hb dX4_tape_44 rfl (lv_at hl 1 rfl) ?_
        refine va_get (D := (dC, dI)) (ci := 2) (v := .ref ((a.2.2.2.2.2 3).2.1)) (C := RX2) (T := TX2) (N := 15) hx hb hts hinX2 hown hK.1 hP 44 rfl rfl 0 (by decide) w119 (fun _ h9 => h9) rfl dX4_tape_45 ?_
        refine lv_iload_n hx hb dX4_tape_48 rfl (lv_at hl 0 rfl) ?_
        obtain ⟨hg9, hf0, hf1, hf2, hf3⟩ := hf
        rcases vin4 hg9 with e9 | e9 | e9 | e9
        · replace hf := hf0 e9
          subst e9
          refine ar_qld (j := 0) hx hb hK.1 hP 45 3 rfl rfl (clamp_lit 0 rfl) (vin_lit 0 4 rfl rfl) dX4_tape_49 ?_
          refine kVvR (As := [.ref (gs 3 0)]) (rest := []) (pre := (wrW y a gs (state, left, tapeLen, tapeB, tLine, tReader, nodes)).take 3) (post := (wrW y a gs (state, left, tapeLen, tapeB, tLine, tReader, nodes)).drop 6) ⟨hx, hb, hml, hown, hts⟩ (c_X1_write l dC dI y a.2.2.2.1 H.size tLine (gs 3 0) ((nodes 3).2.2.2.2.2.2.2.2.2.2.2.1 0) _ hf) (cwV 1 hts gX4_tape_X1_write rfl rfl rfl (by decide +kernel) ⟨Nat.le_of_ble_eq_true rfl, Nat.le_of_ble_eq_true rfl⟩) hK hP hD (hP.sub (ws' := frW (gs 3 0) ((nodes 3).2.2.2.2.2.2.2.2.2.2.2.1 0)) [46] rfl) (hD.sub (ws' := lnW y a.2.2.2.1 tLine ++ frW (gs 3 0) ((nodes 3).2.2.2.2.2.2.2.2.2.2.2.1 0)) [3, 4, 5, 46] (by decide) rfl) (va_recv hK.1 hP (ci := 1) (q0 := 3) rfl rfl) hS hA rfl hl.1 rfl (Nat.le_of_ble_eq_true rfl) dX4_tape_50 ⟨Nat.zero_le _, Nat.zero_le _⟩ (fun u32 H locs hf hP hD hS => ?_)
          have hP : va_P (dC, dI) vwCl (wrW y a gs (state, left, tapeLen, tapeB, u32, tReader, nodes)) H := hP
          have hD : va_D A (wrW y a gs (state, left, tapeLen, tapeB, u32, tReader, nodes)) := hD
          refine lv_aload_n hx hb dX4_tape_53 rfl (lv_at hl 2 rfl) ?_
          refine lv_aload_n hx hb dX4_tape_54 rfl (lv_at hl 2 rfl) ?_
          refine va_get (D := (dC, dI)) (ci := 4) (v := .ref a.2.2.2.1.1) (C := RX4) (T := TX4) (N := 7) hx hb hts hinX4 hown hK.1 hP 0 rfl rfl 5 (by decide) w32 (fun _ h9 => h9) rfl dX4_tape_55 ?_
          refine va_get (D := (dC, dI)) (ci := 1) (v := .int u32.2.2.1) (C := RX1) (T := TX1) (N := 8) hx hb hts hinX1 hown hK.1 hP 3 rfl rfl 2 (by decide) w127 (fun _ h9 => h9) rfl dX4_tape_58 ?_
          refine va_put (D := (dC, dI)) (ci := 4) (v := .int u32.2.2.1) (ty := .int) (C := RX4) (T := TX4) (N := 7) hx hb hts hinX4 tyX4 tyX4_ok nmX4 hown hK.1 hP hD hS 0 rfl rfl 4 (by decide) w26 (fun _ h9 => h9) rfl (by decide +kernel) rfl rfl (Nat.le_of_ble_eq_true rfl) dX4_tape_61 (fun H locs hP hD hS => ?_)
          have hP : va_P (dC, dI) vwCl (wrW y a gs (state, left, u32.2.2.1, tapeB, u32, tReader, nodes)) H := hP
          have hD : va_D A (wrW y a gs (state, left, u32.2.2.1, tapeB, u32, tReader, nodes)) := hD
          refine lv_iconst (v := 0) hx hb dX4_tape_64 (by decide) ?_
          refine lv_istore (lv' := [(4, .int 0), (3, .int 0), (2, .ref ((a.2.2.2.2.2 3).1)), (0, .ref a.1), (1, .int 3)]) hx hb dX4_tape_65 hl (by decide) rfl (fun ls hl => ?_)
          exact j_X4_tape_67 C0 a gs K KE hst hexc hXW hZ 1000 (state, left, u32.2.2.1, tapeB, u32, tReader, nodes) 0 H locs ls hP hD hS (lv_sub hl [3, 0] rfl) hf
        · replace hf := hf1 e9
          subst e9
          refine ar_qld (j := 1) hx hb hK.1 hP 45 3 rfl rfl (clamp_lit 1 rfl) (vin_lit 1 4 rfl rfl) dX4_tape_49 ?_
          refine kVvR (As := [.ref (gs 3 1)]) (rest := []) (pre := (wrW y a gs (state, left, tapeLen, tapeB, tLine, tReader, nodes)).take 3) (post := (wrW y a gs (state, left, tapeLen, tapeB, tLine, tReader, nodes)).drop 6) ⟨hx, hb, hml, hown, hts⟩ (c_X1_write l dC dI y a.2.2.2.1 H.size tLine (gs 3 1) ((nodes 3).2.2.2.2.2.2.2.2.2.2.2.1 1) _ hf) (cwV 1 hts gX4_tape_X1_write rfl rfl rfl (by decide +kernel) ⟨Nat.le_of_ble_eq_true rfl, Nat.le_of_ble_eq_true rfl⟩) hK hP hD (hP.sub (ws' := frW (gs 3 1) ((nodes 3).2.2.2.2.2.2.2.2.2.2.2.1 1)) [47] rfl) (hD.sub (ws' := lnW y a.2.2.2.1 tLine ++ frW (gs 3 1) ((nodes 3).2.2.2.2.2.2.2.2.2.2.2.1 1)) [3, 4, 5, 47] (by decide) rfl) (va_recv hK.1 hP (ci := 1) (q0 := 3) rfl rfl) hS hA rfl hl.1 rfl (Nat.le_of_ble_eq_true rfl) dX4_tape_50 ⟨Nat.zero_le _, Nat.zero_le _⟩ (fun u33 H locs hf hP hD hS => ?_)
          have hP : va_P (dC, dI) vwCl (wrW y a gs (state, left, tapeLen, tapeB, u33, tReader, nodes)) H := hP
          have hD : va_D A (wrW y a gs (state, left, tapeLen, tapeB, u33, tReader, nodes)) := hD
          refine lv_aload_n hx hb dX4_tape_53 rfl (lv_at hl 2 rfl) ?_
          refine lv_aload_n hx hb dX4_tape_54 rfl (lv_at hl 2 rfl) ?_
          refine va_get (D := (dC, dI)) (ci := 4) (v := .ref a.2.2.2.1.1) (C := RX4) (T := TX4) (N := 7) hx hb hts hinX4 hown hK.1 hP 0 rfl rfl 5 (by decide) w32 (fun _ h9 => h9) rfl dX4_tape_55 ?_
          refine va_get (D := (dC, dI)) (ci := 1) (v := .int u33.2.2.1) (C := RX1) (T := TX1) (N := 8) hx hb hts hinX1 hown hK.1 hP 3 rfl rfl 2 (by decide) w127 (fun _ h9 => h9) rfl dX4_tape_58 ?_
          refine va_put (D := (dC, dI)) (ci := 4) (v := .int u33.2.2.1) (ty := .int) (C := RX4) (T := TX4) (N := 7) hx hb hts hinX4 tyX4 tyX4_ok nmX4 hown hK.1 hP hD hS 0 rfl rfl 4 (by decide) w26 (fun _ h9 => h9) rfl (by decide +kernel) rfl rfl (Nat.le_of_ble_eq_true rfl) dX4_tape_61 (fun H locs hP hD hS => ?_)
          have hP : va_P (dC, dI) vwCl (wrW y a gs (state, left, u33.2.2.1, tapeB, u33, tReader, nodes)) H := hP
          have hD : va_D A (wrW y a gs (state, left, u33.2.2.1, tapeB, u33, tReader, nodes)) := hD
          refine lv_iconst (v := 0) hx hb dX4_tape_64 (by decide) ?_
          refine lv_istore (lv' := [(4, .int 0), (3, .int 1), (2, .ref ((a.2.2.2.2.2 3).1)), (0, .ref a.1), (1, .int 3)]) hx hb dX4_tape_65 hl (by decide) rfl (fun ls hl => ?_)
          exact j_X4_tape_67 C0 a gs K KE hst hexc hXW hZ 1000 (state, left, u33.2.2.1, tapeB, u33, tReader, nodes) 0 H locs ls hP hD hS (lv_sub hl [3, 0] rfl) hf
        · replace hf := hf2 e9
          subst e9
          refine ar_qld (j := 2) hx hb hK.1 hP 45 3 rfl rfl (clamp_lit 2 rfl) (vin_lit 2 4 rfl rfl) dX4_tape_49 ?_
          refine kVvR (As := [.ref (gs 3 2)]) (rest := []) (pre := (wrW y a gs (state, left, tapeLen, tapeB, tLine, tReader, nodes)).take 3) (post := (wrW y a gs (state, left, tapeLen, tapeB, tLine, tReader, nodes)).drop 6) ⟨hx, hb, hml, hown, hts⟩ (c_X1_write l dC dI y a.2.2.2.1 H.size tLine (gs 3 2) ((nodes 3).2.2.2.2.2.2.2.2.2.2.2.1 2) _ hf) (cwV 1 hts gX4_tape_X1_write rfl rfl rfl (by decide +kernel) ⟨Nat.le_of_ble_eq_true rfl, Nat.le_of_ble_eq_true rfl⟩) hK hP hD (hP.sub (ws' := frW (gs 3 2) ((nodes 3).2.2.2.2.2.2.2.2.2.2.2.1 2)) [48] rfl) (hD.sub (ws' := lnW y a.2.2.2.1 tLine ++ frW (gs 3 2) ((nodes 3).2.2.2.2.2.2.2.2.2.2.2.1 2)) [3, 4, 5, 48] (by decide) rfl) (va_recv hK.1 hP (ci := 1) (q0 := 3) rfl rfl) hS hA rfl hl.1 rfl (Nat.le_of_ble_eq_true rfl) dX4_tape_50 ⟨Nat.zero_le _, Nat.zero_le _⟩ (fun u34 H locs hf hP hD hS => ?_)
          have hP : va_P (dC, dI) vwCl (wrW y a gs (state, left, tapeLen, tapeB, u34, tReader, nodes)) H := hP
          have hD : va_D A (wrW y a gs (state, left, tapeLen, tapeB, u34, tReader, nodes)) := hD
          refine lv_aload_n hx hb dX4_tape_53 rfl (lv_at hl 2 rfl) ?_
          refine lv_aload_n hx hb dX4_tape_54 rfl (lv_at hl 2 rfl) ?_
          refine va_get (D := (dC, dI)) (ci := 4) (v := .ref a.2.2.2.1.1) (C := RX4) (T := TX4) (N := 7) hx hb hts hinX4 hown hK.1 hP 0 rfl rfl 5 (by decide) w32 (fun _ h9 => h9) rfl dX4_tape_55 ?_
          refine va_get (D := (dC, dI)) (ci := 1) (v := .int u34.2.2.1) (C := RX1) (T := TX1) (N := 8) hx hb hts hinX1 hown hK.1 hP 3 rfl rfl 2 (by decide) w127 (fun _ h9 => h9) rfl dX4_tape_58 ?_
          refine va_put (D := (dC, dI)) (ci := 4) (v := .int u34.2.2.1) (ty := .int) (C := RX4) (T := TX4) (N := 7) hx hb hts hinX4 tyX4 tyX4_ok nmX4 hown hK.1 hP hD hS 0 rfl rfl 4 (by decide) w26 (fun _ h9 => h9) rfl (by decide +kernel) rfl rfl (Nat.le_of_ble_eq_true rfl) dX4_tape_61 (fun H locs hP hD hS => ?_)
          have hP : va_P (dC, dI) vwCl (wrW y a gs (state, left, u34.2.2.1, tapeB, u34, tReader, nodes)) H := hP
          have hD : va_D A (wrW y a gs (state, left, u34.2.2.1, tapeB, u34, tReader, nodes)) := hD
          refine lv_iconst (v := 0) hx hb dX4_tape_64 (by decide) ?_
          refine lv_istore (lv' := [(4, .int 0), (3, .int 2), (2, .ref ((a.2.2.2.2.2 3).1)), (0, .ref a.1), (1, .int 3)]) hx hb dX4_tape_65 hl (by decide) rfl (fun ls hl => ?_)
          exact j_X4_tape_67 C0 a gs K KE hst hexc hXW hZ 1000 (state, left, u34.2.2.1, tapeB, u34, tReader, nodes) 0 H locs ls hP hD hS (lv_sub hl [3, 0] rfl) hf
        · replace hf := hf3 e9
          subst e9
          refine ar_qld (j := 3) hx hb hK.1 hP 45 3 rfl rfl (clamp_lit 3 rfl) (vin_lit 3 4 rfl rfl) dX4_tape_49 ?_
          refine kVvR (As := [.ref (gs 3 3)]) (rest := []) (pre := (wrW y a gs (state, left, tapeLen, tapeB, tLine, tReader, nodes)).take 3) (post := (wrW y a gs (state, left, tapeLen, tapeB, tLine, tReader, nodes)).drop 6) ⟨hx, hb, hml, hown, hts⟩ (c_X1_write l dC dI y a.2.2.2.1 H.size tLine (gs 3 3) ((nodes 3).2.2.2.2.2.2.2.2.2.2.2.1 3) _ hf) (cwV 1 hts gX4_tape_X1_write rfl rfl rfl (by decide +kernel) ⟨Nat.le_of_ble_eq_true rfl, Nat.le_of_ble_eq_true rfl⟩) hK hP hD (hP.sub (ws' := frW (gs 3 3) ((nodes 3).2.2.2.2.2.2.2.2.2.2.2.1 3)) [49] rfl) (hD.sub (ws' := lnW y a.2.2.2.1 tLine ++ frW (gs 3 3) ((nodes 3).2.2.2.2.2.2.2.2.2.2.2.1 3)) [3, 4, 5, 49] (by decide) rfl) (va_recv hK.1 hP (ci := 1) (q0 := 3) rfl rfl) hS hA rfl hl.1 rfl (Nat.le_of_ble_eq_true rfl) dX4_tape_50 ⟨Nat.zero_le _, Nat.zero_le _⟩ (fun u35 H locs hf hP hD hS => ?_)
          have hP : va_P (dC, dI) vwCl (wrW y a gs (state, left, tapeLen, tapeB, u35, tReader, nodes)) H := hP
          have hD : va_D A (wrW y a gs (state, left, tapeLen, tapeB, u35, tReader, nodes)) := hD
          refine lv_aload_n hx hb dX4_tape_53 rfl (lv_at hl 2 rfl) ?_
          refine lv_aload_n hx hb dX4_tape_54 rfl (lv_at hl 2 rfl) ?_
          refine va_get (D := (dC, dI)) (ci := 4) (v := .ref a.2.2.2.1.1) (C := RX4) (T := TX4) (N := 7) hx hb hts hinX4 hown hK.1 hP 0 rfl rfl 5 (by decide) w32 (fun _ h9 => h9) rfl dX4_tape_55 ?_
          refine va_get (D := (dC, dI)) (ci := 1) (v := .int u35.2.2.1) (C := RX1) (T := TX1) (N := 8) hx hb hts hinX1 hown hK.1 hP 3 rfl rfl 2 (by decide) w127 (fun _ h9 => h9) rfl dX4_tape_58 ?_
          refine va_put (D := (dC, dI)) (ci := 4) (v := .int u35.2.2.1) (ty := .int) (C := RX4) (T := TX4) (N := 7) hx hb hts hinX4 tyX4 tyX4_ok nmX4 hown hK.1 hP hD hS 0 rfl rfl 4 (by decide) w26 (fun _ h9 => h9) rfl (by decide +kernel) rfl rfl (Nat.le_of_ble_eq_true rfl) dX4_tape_61 (fun H locs hP hD hS => ?_)
          have hP : va_P (dC, dI) vwCl (wrW y a gs (state, left, u35.2.2.1, tapeB, u35, tReader, nodes)) H := hP
          have hD : va_D A (wrW y a gs (state, left, u35.2.2.1, tapeB, u35, tReader, nodes)) := hD
          refine lv_iconst (v := 0) hx hb dX4_tape_64 (by decide) ?_
          refine lv_istore (lv' := [(4, .int 0), (3, .int 3), (2, .ref ((a.2.2.2.2.2 3).1)), (0, .ref a.1), (1, .int 3)]) hx hb dX4_tape_65 hl (by decide) rfl (fun ls hl => ?_)
          exact j_X4_tape_67 C0 a gs K KE hst hexc hXW hZ 1000 (state, left, u35.2.2.1, tapeB, u35, tReader, nodes) 0 H locs ls hP hD hS (lv_sub hl [3, 0] rfl) hf
      · replace hf := hf.2 c31
        exact vx_throw0 (own := RX4) (cls := "java/util/NoSuchElementException") (names := exN) (ik := 93) (ic := 95) hx hb hst hown (by decide +kernel) (by decide +kernel) w93 (hts (.initialized "java/util/NoSuchElementException") (List.mem_of_getElem? (i := 4) rfl)) (hat_95 (fun w h => hts w (List.mem_cons_of_mem _ (List.mem_append_right _ (h)))) hXW) got_95 hZ.1 hZ.2 hS (hl.1.trans hml.symm) dX4_tape_32 dX4_tape_35 dX4_tape_36 dX4_tape_39 (fun x h => (hexc x h).elim) (Nat.le_of_ble_eq_true rfl) (Nat.le_of_ble_eq_true rfl) (Nat.le_of_ble_eq_true rfl) (Nat.le_of_ble_eq_true rfl) hlocks (fun t hvm hz hk => xe_of (state, left, tapeLen, tapeB, tLine, tReader, nodes) hf hP hD hS hz hk) hS.2.2 (Nat.le_refl _) (Nat.le_refl _)
  · replace hf := hf.2 c2
    exact vx_throw0 (own := RX4) (cls := "java/lang/IndexOutOfBoundsException") (names := exN) (ik := 48) (ic := 50) hx hb hst hown (by decide +kernel) (by decide +kernel) w48 (hts (.initialized "java/lang/IndexOutOfBoundsException") (List.mem_of_getElem? (i := 2) rfl)) (hat_50 (fun w h => hts w (List.mem_cons_of_mem _ (List.mem_append_left _ (List.mem_append_right _ (h))))) hXW) got_50 hZ.1 hZ.2 hS (hl.1.trans hml.symm) dX4_tape_7 dX4_tape_10 dX4_tape_11 dX4_tape_14 (fun x h => (hexc x h).elim) (Nat.le_of_ble_eq_true rfl) (Nat.le_of_ble_eq_true rfl) (Nat.le_of_ble_eq_true rfl) (Nat.le_of_ble_eq_true rfl) hlocks (fun t hvm hz hk => xe_of (state, left, tapeLen, tapeB, tLine, tReader, nodes) hf hP hD hS hz hk) hS.2.2 (Nat.le_refl _) (Nat.le_refl _)

def wp_X4_bit : WireS → Int32 → (Int32 → WireS → Prop) → (String → WireS → Prop) → Prop := fun (state, left, tapeLen, tapeB, tLine, tReader, nodes) p0 K KE => wp_X4_isOnTape (state, left, tapeLen, tapeB, tLine, tReader, nodes) p0 (fun r1 => ((¬ r1 = 0 → (vp_in p0 200 ∧ K (tapeB p0.toNatClampNeg) (state, left, tapeLen, tapeB, tLine, tReader, nodes))) ∧ (r1 = 0 → KE "java/lang/IndexOutOfBoundsException" (state, left, tapeLen, tapeB, tLine, tReader, nodes))))
set_option maxHeartbeats 4000000 in
set_option maxRecDepth 100000 in
theorem c_X4_bit (l : Launch) (dC : Nat → ClassId) (dI : Nat → Nat → Nat) (y : Nat → ClassId) (a : WireA) (gs : Nat → Nat → Nat) (sz : Nat) (S : WireS) (p0 : Int32) (K : Int32 → WireS → Prop) (KE : String → WireS → Prop) (hst : l.stackTraces = false) (hf : wp_X4_bit S p0 K KE) : MIX l yX4_bit wsX4_bit { frames := 6, cells := 1, slots := 6, locals := 89 } dC dI y [.ref a.1, .int p0] (wrW y a gs S) sz (fun u => wrW y a gs u) K KE := by
  refine vx_ofW (cc := cX4_bit) (maxL := 2) (ret := (some .int)) (by decide) rfl ?_
  intro p e s m args below meth c s₁ B hml hexc hv
  obtain ⟨rfl, hsz, hP, hK, hXW, hZ, hD0⟩ := hv
  have hx := B.exec
  have hb := B.bytes
  have hr := B.returns
  have hts := atoms_spec (ws := wsX4_bit) B.pre
  have hown : s.vm.findClass RX4 = some m.cls := findClass_of_methodNamed B.named
  have hlocks := B.notSynchronized
  subst hsz
  have hD := hD0.self (sz := s.heap.size)
  generalize hAe : va_A (wrW y a gs S) s.heap.size = A at hD hZ ⊢
  have hA : ∀ q : Nat, s.heap.size ≤ q → A q := fun q h => by rw [← hAe]; exact Or.inr h
  have hS : va_S A s.heap s.heap [] := va_S.rf
  have C0 : Cx p s m [.ref a.1, .int p0].toArray meth c cX4_bit 2 (some .int) wsX4_bit RX4 A dC dI y := ⟨hx, hb, hr, hml, hown, hts, hlocks, hA, hK⟩
  have w22 := hts (.fieldLink RX4 22 "SharedWire" "tapeBits" "[I") (List.mem_of_getElem? (i := 3) rfl)
  have w48 := hts (.classLink RX4 48 "java/lang/IndexOutOfBoundsException") (List.mem_of_getElem? (i := 1) rfl)
  have hinX4 : ∀ w ∈ wsX40, w ∈ wsX4_bit := fun w h => List.mem_cons_of_mem _ (List.mem_append_left _ (List.mem_append_right _ (h)))
  have hl := lv_entry ([.ref a.1, .int p0]) (n := 2) (Nat.le_of_ble_eq_true rfl)
  rw [lg_entry_eq]
  generalize (lg_sl ([.ref a.1, .int p0]) ++ List.replicate (2 - (lg_sl ([.ref a.1, .int p0])).length) Slot.unset).toArray = ls at hl ⊢
  have hl : lv_has ls 2 [(0, .ref a.1), (1, .int p0)] := hl
  obtain ⟨state, left, tapeLen, tapeB, tLine, tReader, nodes⟩ := S
  clear hAe hD0
  generalize hL0 : ([] : List Loc) = locs at hS ⊢
  unfold wp_X4_bit at hf
  refine lv_aload_n hx hb dX4_bit_0 rfl (lv_at hl 0 rfl) ?_
  refine lv_iload_n hx hb dX4_bit_1 rfl (lv_at hl 1 rfl) ?_
  refine k0i (As := [.int p0]) (rest := []) ⟨hx, hb, hml, hown, hts⟩ (c_X4_isOnTape l dC dI y a gs s.heap.size (state, left, tapeLen, tapeB, tLine, tReader, nodes) p0 _ hf) (cwV 1 hts gX4_bit_X4_isOnTape rfl rfl rfl (by decide +kernel) ⟨Nat.le_of_ble_eq_true rfl, Nat.le_of_ble_eq_true rfl⟩) hK hP hD (va_recv hK.1 hP (ci := 4) (q0 := 0) rfl rfl) hS hA rfl hl.1 rfl (Nat.le_of_ble_eq_true rfl) dX4_bit_2 ⟨Nat.zero_le _, Nat.zero_le _⟩ (fun r1 u2 H locs hf hP hD hS => ?_)
  obtain ⟨hf, e9⟩ := hf
  have e9 := e9.symm
  subst e9
  have hP : va_P (dC, dI) vwCl (wrW y a gs (state, left, tapeLen, tapeB, tLine, tReader, nodes)) H := hP
  have hD : va_D A (wrW y a gs (state, left, tapeLen, tapeB, tLine, tReader, nodes)) := hD
  refine lv_if_ne (tgt := 16) hx hb dX4_bit_5 (by decide) (fun c3 => ?_) (fun c3 => ?_)
  · replace hf := hf.1 c3
    refine lv_aload_n hx hb dX4_bit_16 rfl (lv_at hl 0 rfl) ?_
    refine va_get (D := (dC, dI)) (ci := 4) (v := .ref a.2.2.1) (C := RX4) (T := TX4) (N := 7) hx hb hts hinX4 hown hK.1 hP 0 rfl rfl 3 (by decide) w22 (fun _ h9 => h9) rfl dX4_bit_17 ?_
    refine lv_iload_n hx hb dX4_bit_20 rfl (lv_at hl 1 rfl) ?_
    have g4 := hf.1
    replace hf := hf.2
    refine ar_ild (f := tapeB) (j := p0.toNatClampNeg) hx hb hK.1 hP 2 0 rfl rfl rfl g4 dX4_bit_21 ?_
    refine vx_ret (W.widen (k := 1) (n := 6) (Nat.zero_le _) (Nat.zero_le _) ?_)
    exact W.iret (v := tapeB p0.toNatClampNeg) hx hb hr (fun t ht hW => ⟨⟨tapeB p0.toNatClampNeg, (state, left, tapeLen, tapeB, tLine, tReader, nodes), rfl, hf, by rw [ht]; exact hP, hD⟩, hS.F ht⟩) hS.2.2 dX4_bit_22
  · replace hf := hf.2 c3
    exact vx_throw0 (own := RX4) (cls := "java/lang/IndexOutOfBoundsException") (names := exN) (ik := 48) (ic := 50) hx hb hst hown (by decide +kernel) (by decide +kernel) w48 (hts (.initialized "java/lang/IndexOutOfBoundsException") (List.mem_of_getElem? (i := 2) rfl)) (hat_50 (fun w h => hts w (List.mem_cons_of_mem _ (List.mem_append_right _ (h)))) hXW) got_50 hZ.1 hZ.2 hS (hl.1.trans hml.symm) dX4_bit_8 dX4_bit_11 dX4_bit_12 dX4_bit_15 (fun x h => (hexc x h).elim) (Nat.le_of_ble_eq_true rfl) (Nat.le_of_ble_eq_true rfl) (Nat.le_of_ble_eq_true rfl) (Nat.le_of_ble_eq_true rfl) hlocks (fun t hvm hz hk => xe_of (state, left, tapeLen, tapeB, tLine, tReader, nodes) hf hP hD hS hz hk) hS.2.2 (Nat.le_refl _) (Nat.le_refl _)

def wp_X4_flip : WireS → Int32 → (WireS → Prop) → (String → WireS → Prop) → Prop := fun (state, left, tapeLen, tapeB, tLine, tReader, nodes) p0 K KE => wp_X4_isOnTape (state, left, tapeLen, tapeB, tLine, tReader, nodes) p0 (fun r1 => ((¬ r1 = 0 → (vp_in p0 200 ∧ (vp_in p0 200 ∧ K (state, left, tapeLen, (upd tapeB p0.toNatClampNeg (1 - (tapeB p0.toNatClampNeg))), tLine, tReader, nodes)))) ∧ (r1 = 0 → KE "java/lang/IndexOutOfBoundsException" (state, left, tapeLen, tapeB, tLine, tReader, nodes))))
set_option maxHeartbeats 4000000 in
set_option maxRecDepth 100000 in
theorem c_X4_flip (l : Launch) (dC : Nat → ClassId) (dI : Nat → Nat → Nat) (y : Nat → ClassId) (a : WireA) (gs : Nat → Nat → Nat) (sz : Nat) (S : WireS) (p0 : Int32) (K : WireS → Prop) (KE : String → WireS → Prop) (hst : l.stackTraces = false) (hf : wp_X4_flip S p0 K KE) : MVX l yX4_flip wsX4_flip { frames := 6, cells := 1, slots := 6, locals := 89 } dC dI y [.ref a.1, .int p0] (wrW y a gs S) sz (fun u => wrW y a gs u) K KE := by
  refine vx_ofW (cc := cX4_flip) (maxL := 2) (ret := none) (by decide) rfl ?_
  intro p e s m args below meth c s₁ B hml hexc hv
  obtain ⟨rfl, hsz, hP, hK, hXW, hZ, hD0⟩ := hv
  have hx := B.exec
  have hb := B.bytes
  have hr := B.returns
  have hts := atoms_spec (ws := wsX4_flip) B.pre
  have hown : s.vm.findClass RX4 = some m.cls := findClass_of_methodNamed B.named
  have hlocks := B.notSynchronized
  subst hsz
  have hD := hD0.self (sz := s.heap.size)
  generalize hAe : va_A (wrW y a gs S) s.heap.size = A at hD hZ ⊢
  have hA : ∀ q : Nat, s.heap.size ≤ q → A q := fun q h => by rw [← hAe]; exact Or.inr h
  have hS : va_S A s.heap s.heap [] := va_S.rf
  have C0 : Cx p s m [.ref a.1, .int p0].toArray meth c cX4_flip 2 none wsX4_flip RX4 A dC dI y := ⟨hx, hb, hr, hml, hown, hts, hlocks, hA, hK⟩
  have w22 := hts (.fieldLink RX4 22 "SharedWire" "tapeBits" "[I") (List.mem_of_getElem? (i := 3) rfl)
  have w48 := hts (.classLink RX4 48 "java/lang/IndexOutOfBoundsException") (List.mem_of_getElem? (i := 1) rfl)
  have hinX4 : ∀ w ∈ wsX40, w ∈ wsX4_flip := fun w h => List.mem_cons_of_mem _ (List.mem_append_left _ (List.mem_append_right _ (h)))
  have hl := lv_entry ([.ref a.1, .int p0]) (n := 2) (Nat.le_of_ble_eq_true rfl)
  rw [lg_entry_eq]
  generalize (lg_sl ([.ref a.1, .int p0]) ++ List.replicate (2 - (lg_sl ([.ref a.1, .int p0])).length) Slot.unset).toArray = ls at hl ⊢
  have hl : lv_has ls 2 [(0, .ref a.1), (1, .int p0)] := hl
  obtain ⟨state, left, tapeLen, tapeB, tLine, tReader, nodes⟩ := S
  clear hAe hD0
  generalize hL0 : ([] : List Loc) = locs at hS ⊢
  unfold wp_X4_flip at hf
  refine lv_aload_n hx hb dX4_flip_0 rfl (lv_at hl 0 rfl) ?_
  refine lv_iload_n hx hb dX4_flip_1 rfl (lv_at hl 1 rfl) ?_
  refine k0i (As := [.int p0]) (rest := []) ⟨hx, hb, hml, hown, hts⟩ (c_X4_isOnTape l dC dI y a gs s.heap.size (state, left, tapeLen, tapeB, tLine, tReader, nodes) p0 _ hf) (cwV 1 hts gX4_flip_X4_isOnTape rfl rfl rfl (by decide +kernel) ⟨Nat.le_of_ble_eq_true rfl, Nat.le_of_ble_eq_true rfl⟩) hK hP hD (va_recv hK.1 hP (ci := 4) (q0 := 0) rfl rfl) hS hA rfl hl.1 rfl (Nat.le_of_ble_eq_true rfl) dX4_flip_2 ⟨Nat.zero_le _, Nat.zero_le _⟩ (fun r1 u2 H locs hf hP hD hS => ?_)
  obtain ⟨hf, e9⟩ := hf
  have e9 := e9.symm
  subst e9
  have hP : va_P (dC, dI) vwCl (wrW y a gs (state, left, tapeLen, tapeB, tLine, tReader, nodes)) H := hP
  have hD : va_D A (wrW y a gs (state, left, tapeLen, tapeB, tLine, tReader, nodes)) := hD
  refine lv_if_ne (tgt := 16) hx hb dX4_flip_5 (by decide) (fun c3 => ?_) (fun c3 => ?_)
  · replace hf := hf.1 c3
    refine lv_aload_n hx hb dX4_flip_16 rfl (lv_at hl 0 rfl) ?_
    refine va_get (D := (dC, dI)) (ci := 4) (v := .ref a.2.2.1) (C := RX4) (T := TX4) (N := 7) hx hb hts hinX4 hown hK.1 hP 0 rfl rfl 3 (by decide) w22 (fun _ h9 => h9) rfl dX4_flip_17 ?_
    refine lv_iload_n hx hb dX4_flip_20 rfl (lv_at hl 1 rfl) ?_
    refine lv_iconst (v := 1) hx hb dX4_flip_21 (by decide) ?_
    refine lv_aload_n hx hb dX4_flip_22 rfl (lv_at hl 0 rfl) ?_
    refine va_get (D := (dC, dI)) (ci := 4) (v := .ref a.2.2.1) (C := RX4) (T := TX4) (N := 7) hx hb hts hinX4 hown hK.1 hP 0 rfl rfl 3 (by decide) w22 (fun _ h9 => h9) rfl dX4_flip_23 ?_
    refine lv_iload_n hx hb dX4_flip_26 rfl (lv_at hl 1 rfl) ?_
    have g4 := hf.1
    replace hf := hf.2
    refine ar_ild (f := tapeB) (j := p0.toNatClampNeg) hx hb hK.1 hP 2 0 rfl rfl rfl g4 dX4_flip_27 ?_
    refine lv_isub hx hb dX4_flip_28 ?_
    have g5 := hf.1
    replace hf := hf.2
    refine ar_ist (f := tapeB) (j := p0.toNatClampNeg) hx hb hK.1 hP hD hS 2 0 rfl rfl rfl g5 dX4_flip_29 (fun H locs hP hD hS => ?_)
    have hP : va_P (dC, dI) vwCl (wrW y a gs (state, left, tapeLen, (upd tapeB p0.toNatClampNeg (1 - (tapeB p0.toNatClampNeg))), tLine, tReader, nodes)) H := hP
    have hD : va_D A (wrW y a gs (state, left, tapeLen, (upd tapeB p0.toNatClampNeg (1 - (tapeB p0.toNatClampNeg))), tLine, tReader, nodes)) := hD
    refine vx_ret (W.widen (k := 1) (n := 6) (Nat.zero_le _) (Nat.zero_le _) ?_)
    exact W.vret hx hb hr (fun t ht hW => ⟨⟨(state, left, tapeLen, (upd tapeB p0.toNatClampNeg (1 - (tapeB p0.toNatClampNeg))), tLine, tReader, nodes), rfl, hf, by rw [ht]; exact hP, hD⟩, hS.F ht⟩) hS.2.2 dX4_flip_30
  · replace hf := hf.2 c3
    exact vx_throw0 (own := RX4) (cls := "java/lang/IndexOutOfBoundsException") (names := exN) (ik := 48) (ic := 50) hx hb hst hown (by decide +kernel) (by decide +kernel) w48 (hts (.initialized "java/lang/IndexOutOfBoundsException") (List.mem_of_getElem? (i := 2) rfl)) (hat_50 (fun w h => hts w (List.mem_cons_of_mem _ (List.mem_append_right _ (h)))) hXW) got_50 hZ.1 hZ.2 hS (hl.1.trans hml.symm) dX4_flip_8 dX4_flip_11 dX4_flip_12 dX4_flip_15 (fun x h => (hexc x h).elim) (Nat.le_of_ble_eq_true rfl) (Nat.le_of_ble_eq_true rfl) (Nat.le_of_ble_eq_true rfl) (Nat.le_of_ble_eq_true rfl) hlocks (fun t hvm hz hk => xe_of (state, left, tapeLen, tapeB, tLine, tReader, nodes) hf hP hD hS hz hk) hS.2.2 (Nat.le_refl _) (Nat.le_refl _)
