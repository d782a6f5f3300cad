def wp_X5_want_168 (K : Int32 → ModelS → Prop) : ModelS → Int32 → Prop := fun (mI, mA, mL) v1 => (vp_in v1 4 ∧ K ((mA 9) v1.toNatClampNeg) (mI, mA, mL))
def wp_X5_want_128 (K : Int32 → ModelS → Prop) : ModelS → Int32 → Int32 → Int32 → Prop := fun (mI, mA, mL) v1 v6 v8 => (vp_in v8 16 ∧ (vp_in v8 16 ∧ (vp_in v1 4 ∧ (vp_in v1 4 ∧ wp_X5_want_168 K (va_up mI 24 ((mI 24) + 1), va_up (va_up (va_up mA 13 (upd (mA 13) v8.toNatClampNeg v6)) 23 (upd (mA 23) v8.toNatClampNeg (mI 24))) 9 (upd (mA 9) v1.toNatClampNeg (((mA 9) v1.toNatClampNeg) + 1)), mL) v1))))
def wp_X5_want_79 (K : Int32 → ModelS → Prop) : ModelS → Int32 → Int32 → Int32 → Int64 → Int32 → Int32 → Prop := fun (mI, mA, mL) v1 v2 v3 v4 v6 k0 => ((k0 ≤ 0 → (vp_in v1 4 ∧ (∀ n9 : Int32, n9 = (4 * v1) + ((mA 9) v1.toNatClampNeg) → (vp_in n9 16 ∧ (bz v2 ∧ (vp_in n9 16 ∧ (vp_in n9 16 ∧ wp_X5_want_128 K (va_up mI 0 k0, va_up (va_up mA 10 (upd (mA 10) n9.toNatClampNeg v2)) 11 (upd (mA 11) n9.toNatClampNeg v3), va_up mL 12 (vp_updL (mL 12) n9.toNatClampNeg v4)) v1 v6 n9))))))) ∧ (¬ k0 ≤ 0 → K 0 (va_up mI 0 k0, mA, mL)))
def wp_X5_want_41 (K : Int32 → ModelS → Prop) : ModelS → Int32 → Int32 → Int32 → Int64 → Int32 → Int32 → Prop := fun (mI, mA, mL) v1 v2 v3 v4 v6 k0 => wp_X5_isNode v1 (fun r2 => ((¬ r2 = 0 → ((¬ k0 = 0 → (vp_in v1 4 ∧ ((¬ (mA 9) v1.toNatClampNeg = 4 → wp_X5_want_79 K (mI, mA, mL) v1 v2 v3 v4 v6 0) ∧ ((mA 9) v1.toNatClampNeg = 4 → wp_X5_want_79 K (mI, mA, mL) v1 v2 v3 v4 v6 3)))) ∧ (k0 = 0 → wp_X5_want_79 K (mI, mA, mL) v1 v2 v3 v4 v6 2))) ∧ (r2 = 0 → wp_X5_want_79 K (mI, mA, mL) v1 v2 v3 v4 v6 1)))
def wp_X5_want_40 (K : Int32 → ModelS → Prop) : ModelS → Int32 → Int32 → Int32 → Int64 → Int32 → Prop := fun (mI, mA, mL) v1 v2 v3 v4 v6 => wp_X5_want_41 K (mI, mA, mL) v1 v2 v3 v4 v6 0
def wp_X5_want_24 (K : Int32 → ModelS → Prop) : ModelS → Int32 → Int32 → Int32 → Int64 → Int32 → Prop := fun (mI, mA, mL) v1 v2 v3 v4 v6 => ((v6 < 0 → wp_X5_want_40 K (mI, mA, mL) v1 v2 v3 v4 v6) ∧ (¬ v6 < 0 → ((9 ≤ v6 → wp_X5_want_40 K (mI, mA, mL) v1 v2 v3 v4 v6) ∧ (¬ 9 ≤ v6 → wp_X5_want_41 K (mI, mA, mL) v1 v2 v3 v4 v6 1))))
def wp_X5_want : ModelS → Int32 → Int32 → Int32 → Int64 → Int32 → (Int32 → ModelS → Prop) → Prop := fun (mI, mA, mL) p0 p1 p2 p3 p4 K => ((p2 < 0 → wp_X5_want_40 K (mI, mA, mL) p0 p1 p2 p3 p4) ∧ (¬ p2 < 0 → ((p1 = 0 → ((2048 ≤ p2 → wp_X5_want_40 K (mI, mA, mL) p0 p1 p2 p3 p4) ∧ (¬ 2048 ≤ p2 → wp_X5_want_24 K (mI, mA, mL) p0 p1 p2 p3 p4))) ∧ (¬ p1 = 0 → ((536870912 ≤ p2 → wp_X5_want_40 K (mI, mA, mL) p0 p1 p2 p3 p4) ∧ (¬ 536870912 ≤ p2 → wp_X5_want_24 K (mI, mA, mL) p0 p1 p2 p3 p4))))))
set_option maxHeartbeats 4000000 in
set_option maxRecDepth 100000 in
theorem j_X5_want_168 {p : Program} {l : Launch} {e : Env} {s : State} {m : MethodId} {args : Array Value} {below : List Frame} {meth : Method} {c : Code} {dC : Nat → ClassId} {dI : Nat → Nat → Nat} {y : Nat → ClassId} {A : Nat → Prop} (C0 : Cx p s m args meth c cX5_want 9 (some .int) wsX5_want RX5 A dC dI y) (a : Nat → Nat) (K : Int32 → ModelS → Prop) : ∀ (S : ModelS) (v1 : Int32) (H : Heap) (locs : List Loc) (ls : Array Slot), va_P (dC, dI) vwCl (mdW y a S) H → va_D A (mdW y a S) → va_S A s.heap H locs → lv_has ls 9 [(0, .ref (a 0)), (1, .int v1)] → wp_X5_want_168 K S v1 → W p l e ({ frames := 1, cells := 0, slots := 0, locals := 20 } : Room) s m args below meth c H locs 0 0 (MQ below (va_Qi K (BW dC dI A (fun u => mdW y a u)) A) args s 0 0 A) (F0 m 168 ls []) := by
  obtain ⟨hx, hb, hr, hml, hown, hts, hlocks, hA, hK⟩ := id C0
  have w28 := hts (.fieldLink RX5 28 "SharedWireModel" "wants" "[I") (List.mem_of_getElem? (i := 2) rfl)
  have hinX5 : ∀ w ∈ wsX50, w ∈ wsX5_want := fun w h => List.mem_cons_of_mem _ (List.mem_append_right _ (h))
  intro S v1 H locs ls hP hD hS hl hf
  obtain ⟨mI, mA, mL⟩ := S
  unfold wp_X5_want_168 at hf
  refine lv_aload_n hx hb dX5_want_168 rfl (lv_at hl 0 rfl) ?_
  refine va_get (D := (dC, dI)) (ci := 5) (v := .ref (a 9)) (C := RX5) (T := TX5) (N := 35) hx hb hts hinX5 hown hK.1 hP 0 rfl rfl 9 (by decide) w28 (fun _ h9 => h9) rfl dX5_want_169 ?_
  refine lv_iload_n hx hb dX5_want_172 rfl (lv_at hl 1 rfl) ?_
  have g17 := hf.1
  replace hf := hf.2
  refine ar_ild (f := (mA 9)) (j := v1.toNatClampNeg) hx hb hK.1 hP 7 0 rfl rfl rfl g17 dX5_want_173 ?_
  exact W.iret (v := (mA 9) v1.toNatClampNeg) hx hb hr (fun t ht hW => ⟨⟨(mA 9) v1.toNatClampNeg, (mI, mA, mL), rfl, hf, by rw [ht]; exact hP, hD⟩, hS.F ht⟩) hS.2.2 dX5_want_174
set_option maxHeartbeats 4000000 in
set_option maxRecDepth 100000 in
theorem j_X5_want_128 {p : Program} {l : Launch} {e : Env} {s : State} {m : MethodId} {args : Array Value} {below : List Frame} {meth : Method} {c : Code} {dC : Nat → ClassId} {dI : Nat → Nat → Nat} {y : Nat → ClassId} {A : Nat → Prop} (C0 : Cx p s m args meth c cX5_want 9 (some .int) wsX5_want RX5 A dC dI y) (a : Nat → Nat) (K : Int32 → ModelS → Prop) : ∀ (S : ModelS) (v1 : Int32) (v6 : Int32) (v8 : Int32) (H : Heap) (locs : List Loc) (ls : Array Slot), va_P (dC, dI) vwCl (mdW y a S) H → va_D A (mdW y a S) → va_S A s.heap H locs → lv_has ls 9 [(0, .ref (a 0)), (1, .int v1), (6, .int v6), (8, .int v8)] → wp_X5_want_128 K S v1 v6 v8 → W p l e ({ frames := 1, cells := 0, slots := 0, locals := 20 } : Room) s m args below meth c H locs 0 0 (MQ below (va_Qi K (BW dC dI A (fun u => mdW y a u)) A) args s 0 0 A) (F0 m 128 ls []) := by
  obtain ⟨hx, hb, hr, hml, hown, hts, hlocks, hA, hK⟩ := id C0
  have w28 := hts (.fieldLink RX5 28 "SharedWireModel" "wants" "[I") (List.mem_of_getElem? (i := 2) rfl)
  have w42 := hts (.fieldLink RX5 42 "SharedWireModel" "bytes" "[I") (List.mem_of_getElem? (i := 7) rfl)
  have w72 := hts (.fieldLink RX5 72 "SharedWireModel" "numbers" "[I") (List.mem_of_getElem? (i := 8) rfl)
  have w150 := hts (.fieldLink RX5 150 "SharedWireModel" "given" "I") (List.mem_of_getElem? (i := 9) rfl)
  have hinX5 : ∀ w ∈ wsX50, w ∈ wsX5_want := fun w h => List.mem_cons_of_mem _ (List.mem_append_right _ (h))
  intro S v1 v6 v8 H locs ls hP hD hS hl hf
  obtain ⟨mI, mA, mL⟩ := S
  unfold wp_X5_want_128 at hf
  refine lv_aload_n hx hb dX5_want_128 rfl (lv_at hl 0 rfl) ?_
  refine va_get (D := (dC, dI)) (ci := 5) (v := .ref (a 13)) (C := RX5) (T := TX5) (N := 35) hx hb hts hinX5 hown hK.1 hP 0 rfl rfl 13 (by decide) w42 (fun _ h9 => h9) rfl dX5_want_129 ?_
  refine lv_iload hx hb dX5_want_132 (lv_at hl 3 rfl) ?_
  refine lv_iload hx hb dX5_want_134 (lv_at hl 2 rfl) ?_
  have g13 := hf.1
  replace hf := hf.2
  refine mst_13 (f := (mA 13)) (x := v6) (j := v8.toNatClampNeg) hx hb hK.1 hP hD hS rfl rfl g13 dX5_want_136 (fun H locs hP hD hS => ?_)
  refine lv_aload_n hx hb dX5_want_137 rfl (lv_at hl 0 rfl) ?_
  refine va_get (D := (dC, dI)) (ci := 5) (v := .ref (a 23)) (C := RX5) (T := TX5) (N := 35) hx hb hts hinX5 hown hK.1 hP 0 rfl rfl 23 (by decide) w72 (fun _ h9 => h9) rfl dX5_want_138 ?_
  refine lv_iload hx hb dX5_want_141 (lv_at hl 3 rfl) ?_
  refine lv_aload_n hx hb dX5_want_143 rfl (lv_at hl 0 rfl) ?_
  refine va_get (D := (dC, dI)) (ci := 5) (v := .int (mI 24)) (C := RX5) (T := TX5) (N := 35) hx hb hts hinX5 hown hK.1 hP 0 rfl rfl 24 (by decide) w150 (fun _ h9 => h9) rfl dX5_want_144 ?_
  have g14 := hf.1
  replace hf := hf.2
  refine mst_23 (f := (mA 23)) (x := mI 24) (j := v8.toNatClampNeg) hx hb hK.1 hP hD hS rfl rfl g14 dX5_want_147 (fun H locs hP hD hS => ?_)
  refine lv_aload_n hx hb dX5_want_148 rfl (lv_at hl 0 rfl) ?_
  refine lv_dup hx hb dX5_want_149 rfl ?_
  refine va_get (D := (dC, dI)) (ci := 5) (v := .int (mI 24)) (C := RX5) (T := TX5) (N := 35) hx hb hts hinX5 hown hK.1 hP 0 rfl rfl 24 (by decide) w150 (fun _ h9 => h9) rfl dX5_want_150 ?_
  refine lv_iconst (v := 1) hx hb dX5_want_153 (by decide) ?_
  refine lv_iadd hx hb dX5_want_154 ?_
  refine mput_24 (v := (mI 24) + 1) hx hb hts hinX5 hown hK.1 hP hD hS w150 dX5_want_155 (fun H locs hP hD hS => ?_)
  refine lv_aload_n hx hb dX5_want_158 rfl (lv_at hl 0 rfl) ?_
  refine va_get (D := (dC, dI)) (ci := 5) (v := .ref (a 9)) (C := RX5) (T := TX5) (N := 35) hx hb hts hinX5 hown hK.1 hP 0 rfl rfl 9 (by decide) w28 (fun _ h9 => h9) rfl dX5_want_159 ?_
  refine lv_iload_n hx hb dX5_want_162 rfl (lv_at hl 1 rfl) ?_
  refine lv_dup2_11 hx hb dX5_want_163 rfl rfl ?_
  have g15 := hf.1
  replace hf := hf.2
  refine ar_ild (f := (mA 9)) (j := v1.toNatClampNeg) hx hb hK.1 hP 7 0 rfl rfl rfl g15 dX5_want_164 ?_
  refine lv_iconst (v := 1) hx hb dX5_want_165 (by decide) ?_
  refine lv_iadd hx hb dX5_want_166 ?_
  have g16 := hf.1
  replace hf := hf.2
  refine mst_9 (f := (mA 9)) (x := ((mA 9) v1.toNatClampNeg) + 1) (j := v1.toNatClampNeg) hx hb hK.1 hP hD hS rfl rfl g16 dX5_want_167 (fun H locs hP hD hS => ?_)
  exact j_X5_want_168 C0 a K (va_up mI 24 ((mI 24) + 1), va_up (va_up (va_up mA 13 (upd (mA 13) v8.toNatClampNeg v6)) 23 (upd (mA 23) v8.toNatClampNeg (mI 24))) 9 (upd (mA 9) v1.toNatClampNeg (((mA 9) v1.toNatClampNeg) + 1)), mL) v1 H locs ls hP hD hS (lv_sub hl [0, 1] rfl) hf
set_option maxHeartbeats 4000000 in
set_option maxRecDepth 100000 in
theorem j_X5_want_79 {p : Program} {l : Launch} {e : Env} {s : State} {m : MethodId} {args : Array Value} {below : List Frame} {meth : Method} {c : Code} {dC : Nat → ClassId} {dI : Nat → Nat → Nat} {y : Nat → ClassId} {A : Nat → Prop} (C0 : Cx p s m args meth c cX5_want 9 (some .int) wsX5_want RX5 A dC dI y) (a : Nat → Nat) (K : Int32 → ModelS → Prop) : ∀ (S : ModelS) (v1 : Int32) (v2 : Int32) (v3 : Int32) (v4 : Int64) (v6 : Int32) (k0 : Int32) (H : Heap) (locs : List Loc) (ls : Array Slot), va_P (dC, dI) vwCl (mdW y a S) H → va_D A (mdW y a S) → va_S A s.heap H locs → lv_has ls 9 [(0, .ref (a 0)), (1, .int v1), (2, .int v2), (3, .int v3), (4, .long v4), (6, .int v6)] → wp_X5_want_79 K S v1 v2 v3 v4 v6 k0 → W p l e ({ frames := 1, cells := 0, slots := 0, locals := 20 } : Room) s m args below meth c H locs 0 0 (MQ below (va_Qi K (BW dC dI A (fun u => mdW y a u)) A) args s 0 0 A) (F0 m 79 ls [.int k0, .ref (a 0)]) := by
  obtain ⟨hx, hb, hr, hml, hown, hts, hlocks, hA, hK⟩ := id C0
  have w28 := hts (.fieldLink RX5 28 "SharedWireModel" "wants" "[I") (List.mem_of_getElem? (i := 2) rfl)
  have w31 := hts (.fieldLink RX5 31 "SharedWireModel" "longs" "[Z") (List.mem_of_getElem? (i := 4) rfl)
  have w35 := hts (.fieldLink RX5 35 "SharedWireModel" "identifiers" "[I") (List.mem_of_getElem? (i := 5) rfl)
  have w38 := hts (.fieldLink RX5 38 "SharedWireModel" "data" "[J") (List.mem_of_getElem? (i := 6) rfl)
  have w99 := hts (.fieldLink RX5 99 "SharedWireModel" "thrown" "I") (List.mem_of_getElem? (i := 3) rfl)
  have hinX5 : ∀ w ∈ wsX50, w ∈ wsX5_want := fun w h => List.mem_cons_of_mem _ (List.mem_append_right _ (h))
  intro S v1 v2 v3 v4 v6 k0 H locs ls hP hD hS hl hf
  obtain ⟨mI, mA, mL⟩ := S
  unfold wp_X5_want_79 at hf
  refine mput_0 (v := k0) hx hb hts hinX5 hown hK.1 hP hD hS w99 dX5_want_79 (fun H locs hP hD hS => ?_)
  refine lv_aload_n hx hb dX5_want_82 rfl (lv_at hl 0 rfl) ?_
  refine va_get (D := (dC, dI)) (ci := 5) (v := .int k0) (C := RX5) (T := TX5) (N := 35) hx hb hts hinX5 hown hK.1 hP 0 rfl rfl 0 (by decide) w99 (fun _ h9 => h9) rfl dX5_want_83 ?_
  refine lv_if_le (tgt := 91) hx hb dX5_want_86 (by decide) (fun c7 => ?_) (fun c7 => ?_)
  · replace hf := hf.1 c7
    refine lv_iconst (v := 4) hx hb dX5_want_91 (by decide) ?_
    refine lv_iload_n hx hb dX5_want_92 rfl (lv_at hl 1 rfl) ?_
    refine lv_imul hx hb dX5_want_93 ?_
    refine lv_aload_n hx hb dX5_want_94 rfl (lv_at hl 0 rfl) ?_
    refine va_get (D := (dC, dI)) (ci := 5) (v := .ref (a 9)) (C := RX5) (T := TX5) (N := 35) hx hb hts hinX5 hown hK.1 hP 0 rfl rfl 9 (by decide) w28 (fun _ h9 => h9) rfl dX5_want_95 ?_
    refine lv_iload_n hx hb dX5_want_98 rfl (lv_at hl 1 rfl) ?_
    have g8 := hf.1
    replace hf := hf.2
    refine ar_ild (f := (mA 9)) (j := v1.toNatClampNeg) hx hb hK.1 hP 7 0 rfl rfl rfl g8 dX5_want_99 ?_
    refine lv_iadd hx hb dX5_want_100 ?_
    refine lv_topi (fun n9 en9 => ?_)
    replace hf := hf n9 en9
    refine lv_istore (lv' := [(8, .int n9), (0, .ref (a 0)), (1, .int v1), (2, .int v2), (3, .int v3), (4, .long v4), (6, .int v6)]) hx hb dX5_want_101 hl (by decide) rfl (fun ls hl => ?_)
    refine lv_aload_n hx hb dX5_want_103 rfl (lv_at hl 1 rfl) ?_
    refine va_get (D := (dC, dI)) (ci := 5) (v := .ref (a 10)) (C := RX5) (T := TX5) (N := 35) hx hb hts hinX5 hown hK.1 hP 0 rfl rfl 10 (by decide) w31 (fun _ h9 => h9) rfl dX5_want_104 ?_
    refine lv_iload hx hb dX5_want_107 (lv_at hl 0 rfl) ?_
    refine lv_iload_n hx hb dX5_want_109 rfl (lv_at hl 3 rfl) ?_
    have g10 := hf.1
    replace hf := hf.2
    have hz := hf.1
    replace hf := hf.2
    refine mst_10 (f := (mA 10)) (x := v2) (j := n9.toNatClampNeg) hx hb hK.1 hP hD hS rfl rfl g10 hz dX5_want_110 (fun H locs hP hD hS => ?_)
    refine lv_aload_n hx hb dX5_want_111 rfl (lv_at hl 1 rfl) ?_
    refine va_get (D := (dC, dI)) (ci := 5) (v := .ref (a 11)) (C := RX5) (T := TX5) (N := 35) hx hb hts hinX5 hown hK.1 hP 0 rfl rfl 11 (by decide) w35 (fun _ h9 => h9) rfl dX5_want_112 ?_
    refine lv_iload hx hb dX5_want_115 (lv_at hl 0 rfl) ?_
    refine lv_iload_n hx hb dX5_want_117 rfl (lv_at hl 4 rfl) ?_
    have g11 := hf.1
    replace hf := hf.2
    refine mst_11 (f := (mA 11)) (x := v3) (j := n9.toNatClampNeg) hx hb hK.1 hP hD hS rfl rfl g11 dX5_want_118 (fun H locs hP hD hS => ?_)
    refine lv_aload_n hx hb dX5_want_119 rfl (lv_at hl 1 rfl) ?_
    refine va_get (D := (dC, dI)) (ci := 5) (v := .ref (a 12)) (C := RX5) (T := TX5) (N := 35) hx hb hts hinX5 hown hK.1 hP 0 rfl rfl 12 (by decide) w38 (fun _ h9 => h9) rfl dX5_want_120 ?_
    refine lv_iload hx hb dX5_want_123 (lv_at hl 0 rfl) ?_
    refine lv_lload hx hb dX5_want_125 (lv_at hl 5 rfl) ?_
    have g12 := hf.1
    replace hf := hf.2
    refine mst_12 (f := (mL 12)) (x := v4) (j := n9.toNatClampNeg) hx hb hK.1 hP hD hS rfl rfl g12 dX5_want_127 (fun H locs hP hD hS => ?_)
    exact j_X5_want_128 C0 a K (va_up mI 0 k0, va_up (va_up mA 10 (upd (mA 10) n9.toNatClampNeg v2)) 11 (upd (mA 11) n9.toNatClampNeg v3), va_up mL 12 (vp_updL (mL 12) n9.toNatClampNeg v4)) v1 v6 n9 H locs ls hP hD hS (lv_sub hl [1, 2, 6, 0] rfl) hf
  · replace hf := hf.2 c7
    refine lv_iconst (v := 0) hx hb dX5_want_89 (by decide) ?_
    exact W.iret (v := 0) hx hb hr (fun t ht hW => ⟨⟨0, (va_up mI 0 k0, mA, mL), rfl, hf, by rw [ht]; exact hP, hD⟩, hS.F ht⟩) hS.2.2 dX5_want_90
set_option maxHeartbeats 4000000 in
set_option maxRecDepth 100000 in
theorem j_X5_want_41 {p : Program} {l : Launch} {e : Env} {s : State} {m : MethodId} {args : Array Value} {below : List Frame} {meth : Method} {c : Code} {dC : Nat → ClassId} {dI : Nat → Nat → Nat} {y : Nat → ClassId} {A : Nat → Prop} (C0 : Cx p s m args meth c cX5_want 9 (some .int) wsX5_want RX5 A dC dI y) (a : Nat → Nat) (K : Int32 → ModelS → Prop) : ∀ (S : ModelS) (v1 : Int32) (v2 : Int32) (v3 : Int32) (v4 : Int64) (v6 : Int32) (k0 : Int32) (H : Heap) (locs : List Loc) (ls : Array Slot), va_P (dC, dI) vwCl (mdW y a S) H → va_D A (mdW y a S) → va_S A s.heap H locs → lv_has ls 9 [(0, .ref (a 0)), (1, .int v1), (2, .int v2), (3, .int v3), (4, .long v4), (6, .int v6)] → wp_X5_want_41 K S v1 v2 v3 v4 v6 k0 → W p l e ({ frames := 1, cells := 0, slots := 0, locals := 20 } : Room) s m args below meth c H locs 0 0 (MQ below (va_Qi K (BW dC dI A (fun u => mdW y a u)) A) args s 0 0 A) (F0 m 41 ls [.int k0]) := by
  obtain ⟨hx, hb, hr, hml, hown, hts, hlocks, hA, hK⟩ := id C0
  have w28 := hts (.fieldLink RX5 28 "SharedWireModel" "wants" "[I") (List.mem_of_getElem? (i := 2) rfl)
  have hinX5 : ∀ w ∈ wsX50, w ∈ wsX5_want := fun w h => List.mem_cons_of_mem _ (List.mem_append_right _ (h))
  intro S v1 v2 v3 v4 v6 k0 H locs ls hP hD hS hl hf
  obtain ⟨mI, mA, mL⟩ := S
  unfold wp_X5_want_41 at hf
  refine lv_istore (lv' := [(7, .int k0), (0, .ref (a 0)), (1, .int v1), (2, .int v2), (3, .int v3), (4, .long v4), (6, .int v6)]) hx hb dX5_want_41 hl (by decide) rfl (fun ls hl => ?_)
  refine lv_aload_n hx hb dX5_want_43 rfl (lv_at hl 1 rfl) ?_
  refine lv_iload_n hx hb dX5_want_44 rfl (lv_at hl 2 rfl) ?_
  refine kSi (As := [.int v1]) (rest := [.ref (a 0)]) ⟨hx, hb, hml, hown, hts⟩ (c_X5_isNode l dC dI y H.size v1 _ hf) (va_cwS 1 hts gX5_want_X5_isNode rfl rfl rfl (by decide +kernel) ⟨Nat.le_of_ble_eq_true rfl, Nat.le_of_ble_eq_true rfl⟩) hK hP hD hS hA rfl hl.1 rfl (Nat.le_of_ble_eq_true rfl) dX5_want_45 ⟨Nat.zero_le _, Nat.zero_le _⟩ (fun r2 H locs hf hP hD hS => ?_)
  refine lv_if_ne (tgt := 55) hx hb dX5_want_48 (by decide) (fun c3 => ?_) (fun c3 => ?_)
  · replace hf := hf.1 c3
    refine lv_iload hx hb dX5_want_55 (lv_at hl 0 rfl) ?_
    refine lv_if_ne (tgt := 64) hx hb dX5_want_57 (by decide) (fun c4 => ?_) (fun c4 => ?_)
    · replace hf := hf.1 c4
      refine lv_aload_n hx hb dX5_want_64 rfl (lv_at hl 1 rfl) ?_
      refine va_get (D := (dC, dI)) (ci := 5) (v := .ref (a 9)) (C := RX5) (T := TX5) (N := 35) hx hb hts hinX5 hown hK.1 hP 0 rfl rfl 9 (by decide) w28 (fun _ h9 => h9) rfl dX5_want_65 ?_
      refine lv_iload_n hx hb dX5_want_68 rfl (lv_at hl 2 rfl) ?_
      have g5 := hf.1
      replace hf := hf.2
      refine ar_ild (f := (mA 9)) (j := v1.toNatClampNeg) hx hb hK.1 hP 7 0 rfl rfl rfl g5 dX5_want_69 ?_
      refine lv_iconst (v := 4) hx hb dX5_want_70 (by decide) ?_
      refine lv_icmp_ne (tgt := 78) hx hb dX5_want_71 (by decide) (fun c6 => ?_) (fun c6 => ?_)
      · replace hf := hf.1 c6
        refine lv_iconst (v := 0) hx hb dX5_want_78 (by decide) ?_
        exact j_X5_want_79 C0 a K (mI, mA, mL) v1 v2 v3 v4 v6 0 H locs ls hP hD hS (lv_sub hl [1, 2, 3, 4, 5, 6] rfl) hf
      · replace hf := hf.2 c6
        refine lv_iconst (v := 3) hx hb dX5_want_74 (by decide) ?_
        refine lv_goto (tgt := 79) hx hb dX5_want_75 (by decide) ?_
        exact j_X5_want_79 C0 a K (mI, mA, mL) v1 v2 v3 v4 v6 3 H locs ls hP hD hS (lv_sub hl [1, 2, 3, 4, 5, 6] rfl) hf
    · replace hf := hf.2 c4
      refine lv_iconst (v := 2) hx hb dX5_want_60 (by decide) ?_
      refine lv_goto (tgt := 79) hx hb dX5_want_61 (by decide) ?_
      exact j_X5_want_79 C0 a K (mI, mA, mL) v1 v2 v3 v4 v6 2 H locs ls hP hD hS (lv_sub hl [1, 2, 3, 4, 5, 6] rfl) hf
  · replace hf := hf.2 c3
    refine lv_iconst (v := 1) hx hb dX5_want_51 (by decide) ?_
    refine lv_goto (tgt := 79) hx hb dX5_want_52 (by decide) ?_
    exact j_X5_want_79 C0 a K (mI, mA, mL) v1 v2 v3 v4 v6 1 H locs ls hP hD hS (lv_sub hl [1, 2, 3, 4, 5, 6] rfl) hf
set_option maxHeartbeats 4000000 in
set_option maxRecDepth 100000 in
theorem j_X5_want_40 {p : Program} {l : Launch} {e : Env} {s : State} {m : MethodId} {args : Array Value} {below : List Frame} {meth : Method} {c : Code} {dC : Nat → ClassId} {dI : Nat → Nat → Nat} {y : Nat → ClassId} {A : Nat → Prop} (C0 : Cx p s m args meth c cX5_want 9 (some .int) wsX5_want RX5 A dC dI y) (a : Nat → Nat) (K : Int32 → ModelS → Prop) : ∀ (S : ModelS) (v1 : Int32) (v2 : Int32) (v3 : Int32) (v4 : Int64) (v6 : Int32) (H : Heap) (locs : List Loc) (ls : Array Slot), va_P (dC, dI) vwCl (mdW y a S) H → va_D A (mdW y a S) → va_S A s.heap H locs → lv_has ls 9 [(0, .ref (a 0)), (1, .int v1), (2, .int v2), (3, .int v3), (4, .long v4), (6, .int v6)] → wp_X5_want_40 K S v1 v2 v3 v4 v6 → W p l e ({ frames := 1, cells := 0, slots := 0, locals := 20 } : Room) s m args below meth c H locs 0 0 (MQ below (va_Qi K (BW dC dI A (fun u => mdW y a u)) A) args s 0 0 A) (F0 m 40 ls []) := by
  obtain ⟨hx, hb, hr, hml, hown, hts, hlocks, hA, hK⟩ := id C0
  intro S v1 v2 v3 v4 v6 H locs ls hP hD hS hl hf
  obtain ⟨mI, mA, mL⟩ := S
  unfold wp_X5_want_40 at hf
  refine lv_iconst (v := 0) hx hb dX5_want_40 (by decide) ?_
  exact j_X5_want_41 C0 a K (mI, mA, mL) v1 v2 v3 v4 v6 0 H locs ls hP hD hS (lv_sub hl [0, 1, 2, 3, 4, 5] rfl) hf
set_option maxHeartbeats 4000000 in
set_option maxRecDepth 100000 in
theorem j_X5_want_24 {p : Program} {l : Launch} {e : Env} {s : State} {m : MethodId} {args : Array Value} {below : List Frame} {meth : Method} {c : Code} {dC : Nat → ClassId} {dI : Nat → Nat → Nat} {y : Nat → ClassId} {A : Nat → Prop} (C0 : Cx p s m args meth c cX5_want 9 (some .int) wsX5_want RX5 A dC dI y) (a : Nat → Nat) (K : Int32 → ModelS → Prop) : ∀ (S : ModelS) (v1 : Int32) (v2 : Int32) (v3 : Int32) (v4 : Int64) (v6 : Int32) (H : Heap) (locs : List Loc) (ls : Array Slot), va_P (dC, dI) vwCl (mdW y a S) H → va_D A (mdW y a S) → va_S A s.heap H locs → lv_has ls 9 [(0, .ref (a 0)), (1, .int v1), (2, .int v2), (3, .int v3), (4, .long v4), (6, .int v6)] → wp_X5_want_24 K S v1 v2 v3 v4 v6 → W p l e ({ frames := 1, cells := 0, slots := 0, locals := 20 } : Room) s m args below meth c H locs 0 0 (MQ below (va_Qi K (BW dC dI A (fun u => mdW y a u)) A) args s 0 0 A) (F0 m 24 ls []) := by
  obtain ⟨hx, hb, hr, hml, hown, hts, hlocks, hA, hK⟩ := id C0
  intro S v1 v2 v3 v4 v6 H locs ls hP hD hS hl hf
  obtain ⟨mI, mA, mL⟩ := S
  unfold wp_X5_want_24 at hf
  refine lv_iload hx hb dX5_want_24 (lv_at hl 5 rfl) ?_
  refine lv_if_lt (tgt := 40) hx hb dX5_want_26 (by decide) (fun c20 => ?_) (fun c20 => ?_)
  · replace hf := hf.1 c20
    exact j_X5_want_40 C0 a K (mI, mA, mL) v1 v2 v3 v4 v6 H locs ls hP hD hS (lv_sub hl [0, 1, 2, 3, 4, 5] rfl) hf
  · replace hf := hf.2 c20
    refine lv_iload hx hb dX5_want_29 (lv_at hl 5 rfl) ?_
    refine lv_bipush (v := 9) hx hb dX5_want_31 (by decide) ?_
    refine lv_icmp_ge (tgt := 40) hx hb dX5_want_33 (by decide) (fun c21 => ?_) (fun c21 => ?_)
    · replace hf := hf.1 c21
      exact j_X5_want_40 C0 a K (mI, mA, mL) v1 v2 v3 v4 v6 H locs ls hP hD hS (lv_sub hl [0, 1, 2, 3, 4, 5] rfl) hf
    · replace hf := hf.2 c21
      refine lv_iconst (v := 1) hx hb dX5_want_36 (by decide) ?_
      refine lv_goto (tgt := 41) hx hb dX5_want_37 (by decide) ?_
      exact j_X5_want_41 C0 a K (mI, mA, mL) v1 v2 v3 v4 v6 1 H locs ls hP hD hS (lv_sub hl [0, 1, 2, 3, 4, 5] rfl) hf
set_option maxHeartbeats 4000000 in
set_option maxRecDepth 100000 in
theorem c_X5_want (l : Launch) (dC : Nat → ClassId) (dI : Nat → Nat → Nat) (y : Nat → ClassId) (a : Nat → Nat) (sz : Nat) (S : ModelS) (p0 : Int32) (p1 : Int32) (p2 : Int32) (p3 : Int64) (p4 : Int32) (K : Int32 → ModelS → Prop) (hf : wp_X5_want S p0 p1 p2 p3 p4 K) : MI l yX5_want wsX5_want { frames := 1, cells := 0, slots := 0, locals := 20 } dC dI y [.ref (a 0), .int p0, .int p1, .int p2, .long p3, .int p4] (mdW y a S) sz (fun u => mdW y a u) K := by
  refine Met.ofW (cc := cX5_want) (maxL := 9) (ret := (some .int)) (by decide) rfl ?_
  intro p e s m args below meth c s₁ B hml hv
  obtain ⟨rfl, hsz, hP, hK, hD0⟩ := hv
  have hx := B.exec
  have hb := B.bytes
  have hr := B.returns
  have hts := atoms_spec (ws := wsX5_want) B.pre
  have hown : s.vm.findClass RX5 = some m.cls := findClass_of_methodNamed B.named
  have hlocks := B.notSynchronized
  subst hsz
  have hD := hD0.self (sz := s.heap.size)
  generalize hAe : va_A (mdW y a S) s.heap.size = A at hD ⊢
  have hA : ∀ q : Nat, s.heap.size ≤ q → A q := fun q h => by rw [← hAe]; exact Or.inr h
  have hS : va_S A s.heap s.heap [] := va_S.rf
  have C0 : Cx p s m [.ref (a 0), .int p0, .int p1, .int p2, .long p3, .int p4].toArray meth c cX5_want 9 (some .int) wsX5_want RX5 A dC dI y := ⟨hx, hb, hr, hml, hown, hts, hlocks, hA, hK⟩
  have w146 := hts (.constant RX5 146 (536870912)) (List.mem_of_getElem? (i := 1) rfl)
  have hl := lv_entry ([.ref (a 0), .int p0, .int p1, .int p2, .long p3, .int p4]) (n := 9) (Nat.le_of_ble_eq_true rfl)
  rw [lg_entry_eq]
  generalize (lg_sl ([.ref (a 0), .int p0, .int p1, .int p2, .long p3, .int p4]) ++ List.replicate (9 - (lg_sl ([.ref (a 0), .int p0, .int p1, .int p2, .long p3, .int p4])).length) Slot.unset).toArray = ls at hl ⊢
  have hl : lv_has ls 9 [(0, .ref (a 0)), (1, .int p0), (2, .int p1), (3, .int p2), (4, .long p3), (6, .int p4)] := hl
  obtain ⟨mI, mA, mL⟩ := S
  clear hAe hD0
  generalize hL0 : ([] : List Loc) = locs at hS ⊢
  unfold wp_X5_want at hf
  refine lv_iload_n hx hb dX5_want_0 rfl (lv_at hl 3 rfl) ?_
  refine lv_if_lt (tgt := 40) hx hb dX5_want_1 (by decide) (fun c1 => ?_) (fun c1 => ?_)
  · replace hf := hf.1 c1
    exact j_X5_want_40 C0 a K (mI, mA, mL) p0 p1 p2 p3 p4 s.heap locs ls hP hD hS (lv_sub hl [0, 1, 2, 3, 4, 5] rfl) hf
  · replace hf := hf.2 c1
    refine lv_iload_n hx hb dX5_want_4 rfl (lv_at hl 2 rfl) ?_
    refine lv_if_eq (tgt := 17) hx hb dX5_want_5 (by decide) (fun c18 => ?_) (fun c18 => ?_)
    · replace hf := hf.1 c18
      refine lv_iload_n hx hb dX5_want_17 rfl (lv_at hl 3 rfl) ?_
      refine lv_sipush (v := 2048) hx hb dX5_want_18 (by decide) ?_
      refine lv_icmp_ge (tgt := 40) hx hb dX5_want_21 (by decide) (fun c19 => ?_) (fun c19 => ?_)
      · replace hf := hf.1 c19
        exact j_X5_want_40 C0 a K (mI, mA, mL) p0 p1 p2 p3 p4 s.heap locs ls hP hD hS (lv_sub hl [0, 1, 2, 3, 4, 5] rfl) hf
      · replace hf := hf.2 c19
        exact j_X5_want_24 C0 a K (mI, mA, mL) p0 p1 p2 p3 p4 s.heap locs ls hP hD hS (lv_sub hl [0, 1, 2, 3, 4, 5] rfl) hf
    · replace hf := hf.2 c18
      refine lv_iload_n hx hb dX5_want_8 rfl (lv_at hl 3 rfl) ?_
      refine lv_ldc (v := 536870912) hx hb hown w146 dX5_want_9 ?_
      refine lv_icmp_ge (tgt := 40) hx hb dX5_want_11 (by decide) (fun c22 => ?_) (fun c22 => ?_)
      · replace hf := hf.1 c22
        exact j_X5_want_40 C0 a K (mI, mA, mL) p0 p1 p2 p3 p4 s.heap locs ls hP hD hS (lv_sub hl [0, 1, 2, 3, 4, 5] rfl) hf
      · replace hf := hf.2 c22
        refine lv_goto (tgt := 24) hx hb dX5_want_14 (by decide) ?_
        exact j_X5_want_24 C0 a K (mI, mA, mL) p0 p1 p2 p3 p4 s.heap locs ls hP hD hS (lv_sub hl [0, 1, 2, 3, 4, 5] rfl) hf

def wp_X5_sentOne_4 (K : Int32 → Prop) : Nat → ModelS → Int32 → Int32 → Prop
  | 0, _, _, _ => False
  | n + 1, (mI, mA, mL), v1, v2 => (vp_in v2 16 ∧ (vp_in v1 4 ∧ (((mA 23) v2.toNatClampNeg = (mA 22) v1.toNatClampNeg → K v2) ∧ (¬ (mA 23) v2.toNatClampNeg = (mA 22) v1.toNatClampNeg → (∀ n5 : Int32, n5 = v2 + 1 → wp_X5_sentOne_4 K n (mI, mA, mL) v1 n5)))))
def wp_X5_sentOne : ModelS → Int32 → (Int32 → Prop) → Prop := fun (mI, mA, mL) p0 K => (∀ n1 : Int32, n1 = 4 * p0 → wp_X5_sentOne_4 K 1000 (mI, mA, mL) p0 n1)
set_option maxHeartbeats 4000000 in
set_option maxRecDepth 100000 in
theorem j_X5_sentOne_4 {p : Program} {l : Launch} {e : Env} {s : State} {m : MethodId} {args : Array Value} {below : List Frame} {meth : Method} {c : Code} {dC : Nat → ClassId} {dI : Nat → Nat → Nat} {y : Nat → ClassId} {A : Nat → Prop} (C0 : Cx p s m args meth c cX5_sentOne 3 (some .int) wsX5_sentOne RX5 A dC dI y) (a : Nat → Nat) (K : Int32 → Prop) (S0 : ModelS) : ∀ n : Nat, ∀ (S : ModelS) (v1 : Int32) (v2 : Int32) (H : Heap) (locs : List Loc) (ls : Array Slot), va_P (dC, dI) vwCl (mdW y a S) H → va_D A (mdW y a S) → va_S A s.heap H locs → lv_has ls 3 [(0, .ref (a 0)), (1, .int v1), (2, .int v2)] → S = S0 → wp_X5_sentOne_4 K n S v1 v2 → W p l e ({ frames := 0, cells := 0, slots := 0, locals := 0 } : Room) s m args below meth c H locs 0 0 (MQ below (va_Qi (fun r u => K r ∧ u = S0) (BW dC dI A (fun u => mdW y a u)) A) args s 0 0 A) (F0 m 4 ls []) := by
  obtain ⟨hx, hb, hr, hml, hown, hts, hlocks, hA, hK⟩ := id C0
  have w69 := hts (.fieldLink RX5 69 "SharedWireModel" "mine" "[I") (List.mem_of_getElem? (i := 2) rfl)
  have w72 := hts (.fieldLink RX5 72 "SharedWireModel" "numbers" "[I") (List.mem_of_getElem? (i := 1) rfl)
  have hinX5 : ∀ w ∈ wsX50, w ∈ wsX5_sentOne := fun w h => List.mem_cons_of_mem _ (List.mem_append_right _ (h))
  intro n
  induction n with
  | zero =>
    intro S v1 v2 H locs ls hP hD hS hl hSS hf
    exact False.elim (by unfold wp_X5_sentOne_4 at hf; exact hf)
  | succ n ih =>
    intro S v1 v2 H locs ls hP hD hS hl hSS hf
    obtain ⟨mI, mA, mL⟩ := S
    unfold wp_X5_sentOne_4 at hf
    refine lv_aload_n hx hb dX5_sentOne_4 rfl (lv_at hl 0 rfl) ?_
    refine va_get (D := (dC, dI)) (ci := 5) (v := .ref (a 23)) (C := RX5) (T := TX5) (N := 35) hx hb hts hinX5 hown hK.1 hP 0 rfl rfl 23 (by decide) w72 (fun _ h9 => h9) rfl dX5_sentOne_5 ?_
    refine lv_iload_n hx hb dX5_sentOne_8 rfl (lv_at hl 2 rfl) ?_
    have g2 := hf.1
    replace hf := hf.2
    refine ar_ild (f := (mA 23)) (j := v2.toNatClampNeg) hx hb hK.1 hP 21 0 rfl rfl rfl g2 dX5_sentOne_9 ?_
    refine lv_aload_n hx hb dX5_sentOne_10 rfl (lv_at hl 0 rfl) ?_
    refine va_get (D := (dC, dI)) (ci := 5) (v := .ref (a 22)) (C := RX5) (T := TX5) (N := 35) hx hb hts hinX5 hown hK.1 hP 0 rfl rfl 22 (by decide) w69 (fun _ h9 => h9) rfl dX5_sentOne_11 ?_
    refine lv_iload_n hx hb dX5_sentOne_14 rfl (lv_at hl 1 rfl) ?_
    have g3 := hf.1
    replace hf := hf.2
    refine ar_ild (f := (mA 22)) (j := v1.toNatClampNeg) hx hb hK.1 hP 20 0 rfl rfl rfl g3 dX5_sentOne_15 ?_
    refine lv_icmp_eq (tgt := 25) hx hb dX5_sentOne_16 (by decide) (fun c4 => ?_) (fun c4 => ?_)
    · replace hf := hf.1 c4
      refine lv_iload_n hx hb dX5_sentOne_25 rfl (lv_at hl 2 rfl) ?_
      exact W.iret (v := v2) hx hb hr (fun t ht hW => ⟨⟨v2, (mI, mA, mL), rfl, ⟨hf, hSS⟩, by rw [ht]; exact hP, hD⟩, hS.F ht⟩) hS.2.2 dX5_sentOne_26
    · replace hf := hf.2 c4
      obtain ⟨n5, en5⟩ : ∃ z : Int32, z = v2 + 1 := ⟨_, rfl⟩
      replace hf := hf n5 en5
      refine lv_iinc (v := n5) (lv' := [(2, .int n5), (0, .ref (a 0)), (1, .int v1)]) hx hb dX5_sentOne_19 hl (k := 2) rfl (by rw [en5]; rfl) (by decide) rfl (fun ls hl => ?_)
      refine lv_goto (tgt := 4) hx hb dX5_sentOne_22 (by decide) ?_
      exact ih (mI, mA, mL) v1 n5 H locs ls hP hD hS (lv_sub hl [1, 2, 0] rfl) hSS hf
set_option maxHeartbeats 4000000 in
set_option maxRecDepth 100000 in
theorem c_X5_sentOne (l : Launch) (dC : Nat → ClassId) (dI : Nat → Nat → Nat) (y : Nat → ClassId) (a : Nat → Nat) (sz : Nat) (S : ModelS) (p0 : Int32) (K : Int32 → Prop) (hf : wp_X5_sentOne S p0 K) : MI l yX5_sentOne wsX5_sentOne { frames := 0, cells := 0, slots := 0, locals := 0 } dC dI y [.ref (a 0), .int p0] (mdW y a S) sz (fun u => mdW y a u) (fun r u => K r ∧ u = S) := by
  refine Met.ofW (cc := cX5_sentOne) (maxL := 3) (ret := (some .int)) (by decide) rfl ?_
  intro p e s m args below meth c s₁ B hml hv
  obtain ⟨rfl, hsz, hP, hK, hD0⟩ := hv
  have hx := B.exec
  have hb := B.bytes
  have hr := B.returns
  have hts := atoms_spec (ws := wsX5_sentOne) B.pre
  have hown : s.vm.findClass RX5 = some m.cls := findClass_of_methodNamed B.named
  have hlocks := B.notSynchronized
  subst hsz
  have hD := hD0.self (sz := s.heap.size)
  generalize hAe : va_A (mdW y a S) s.heap.size = A at hD ⊢
  have hA : ∀ q : Nat, s.heap.size ≤ q → A q := fun q h => by rw [← hAe]; exact Or.inr h
  have hS : va_S A s.heap s.heap [] := va_S.rf
  have C0 : Cx p s m [.ref (a 0), .int p0].toArray meth c cX5_sentOne 3 (some .int) wsX5_sentOne RX5 A dC dI y := ⟨hx, hb, hr, hml, hown, hts, hlocks, hA, hK⟩
  have hl := lv_entry ([.ref (a 0), .int p0]) (n := 3) (Nat.le_of_ble_eq_true rfl)
  rw [lg_entry_eq]
  generalize (lg_sl ([.ref (a 0), .int p0]) ++ List.replicate (3 - (lg_sl ([.ref (a 0), .int p0])).length) Slot.unset).toArray = ls at hl ⊢
  have hl : lv_has ls 3 [(0, .ref (a 0)), (1, .int p0)] := hl
  obtain ⟨mI, mA, mL⟩ := S
  have hSS : (mI, mA, mL) = (mI, mA, mL) := rfl
  clear hAe hD0
  generalize hL0 : ([] : List Loc) = locs at hS ⊢
  unfold wp_X5_sentOne at hf
  refine lv_iconst (v := 4) hx hb dX5_sentOne_0 (by decide) ?_
  refine lv_iload_n hx hb dX5_sentOne_1 rfl (lv_at hl 1 rfl) ?_
  refine lv_imul hx hb dX5_sentOne_2 ?_
  refine lv_topi (fun n1 en1 => ?_)
  replace hf := hf n1 en1
  refine lv_istore_n (lv' := [(2, .int n1), (0, .ref (a 0)), (1, .int p0)]) hx hb dX5_sentOne_3 rfl hl (by decide) rfl (fun ls hl => ?_)
  exact j_X5_sentOne_4 C0 a K _ 1000 (mI, mA, mL) p0 n1 s.heap locs ls hP hD hS (lv_sub hl [1, 2, 0] rfl) hSS hf

def wp_X5_forget_88 (K : ModelS → Prop) (C : ModelS → Int32 → Int32 → Prop) : ModelS → Int32 → Int32 → Prop := fun (mI, mA, mL) v1 v3 => (vp_in (v3 + 1) 16 ∧ (vp_in v3 16 ∧ (∀ n17 : Int32, n17 = v3 + 1 → C (mI, va_up mA 23 (upd (mA 23) v3.toNatClampNeg ((mA 23) ((v3 + 1).toNatClampNeg))), mL) v1 n17)))
def wp_X5_forget_18 (K : ModelS → Prop) : Nat → ModelS → Int32 → Int32 → Prop
  | 0, _, _, _ => False
  | n + 1, (mI, mA, mL), v1, v3 => (vp_in v1 4 ∧ (((4 * v1) + ((mA 9) v1.toNatClampNeg) ≤ v3 → K (mI, mA, mL)) ∧ (¬ (4 * v1) + ((mA 9) v1.toNatClampNeg) ≤ v3 → (vp_in (v3 + 1) 16 ∧ (vp_in v3 16 ∧ (bz ((mA 10) ((v3 + 1).toNatClampNeg)) ∧ (vp_in (v3 + 1) 16 ∧ (vp_in v3 16 ∧ (vp_in (v3 + 1) 16 ∧ (vp_in v3 16 ∧ (vp_in (v3 + 1) 16 ∧ (vp_in v3 16 ∧ wp_X5_forget_88 K (wp_X5_forget_18 K n) (mI, va_up (va_up (va_up mA 10 (upd (mA 10) v3.toNatClampNeg ((mA 10) ((v3 + 1).toNatClampNeg)))) 11 (upd (mA 11) v3.toNatClampNeg ((mA 11) ((v3 + 1).toNatClampNeg)))) 13 (upd (mA 13) v3.toNatClampNeg ((mA 13) ((v3 + 1).toNatClampNeg))), va_up mL 12 (vp_updL (mL 12) v3.toNatClampNeg ((mL 12) ((v3 + 1).toNatClampNeg)))) v1 v3))))))))))))
def wp_X5_forget : ModelS → Int32 → (ModelS → Prop) → Prop := fun (mI, mA, mL) p0 K => wp_X5_sentOne (mI, mA, mL) p0 (fun r1 => (vp_in p0 4 ∧ (vp_in p0 4 ∧ wp_X5_forget_18 K 1000 (mI, va_up mA 9 (upd (mA 9) p0.toNatClampNeg (((mA 9) p0.toNatClampNeg) - 1)), mL) p0 r1)))
set_option maxHeartbeats 4000000 in
set_option maxRecDepth 100000 in
theorem j_X5_forget_88 {p : Program} {l : Launch} {e : Env} {s : State} {m : MethodId} {args : Array Value} {below : List Frame} {meth : Method} {c : Code} {dC : Nat → ClassId} {dI : Nat → Nat → Nat} {y : Nat → ClassId} {A : Nat → Prop} (C0 : Cx p s m args meth c cX5_forget 4 none wsX5_forget RX5 A dC dI y) (a : Nat → Nat) (K : ModelS → Prop) (C : ModelS → Int32 → Int32 → Prop) (hC : ∀ (S : ModelS) (v1 : Int32) (v3 : Int32) (H : Heap) (locs : List Loc) (ls : Array Slot), va_P (dC, dI) vwCl (mdW y a S) H → va_D A (mdW y a S) → va_S A s.heap H locs → lv_has ls 4 [(0, .ref (a 0)), (1, .int v1), (3, .int v3)] → C S v1 v3 → W p l e ({ frames := 1, cells := 0, slots := 0, locals := 22 } : Room) s m args below meth c H locs 0 0 (MQ below (va_Qv K (BW dC dI A (fun u => mdW y a u)) A) args s 0 0 A) (F0 m 18 ls [])) : ∀ (S : ModelS) (v1 : Int32) (v3 : Int32) (H : Heap) (locs : List Loc) (ls : Array Slot), va_P (dC, dI) vwCl (mdW y a S) H → va_D A (mdW y a S) → va_S A s.heap H locs → lv_has ls 4 [(0, .ref (a 0)), (1, .int v1), (3, .int v3)] → wp_X5_forget_88 K C S v1 v3 → W p l e ({ frames := 1, cells := 0, slots := 0, locals := 22 } : Room) s m args below meth c H locs 0 0 (MQ below (va_Qv K (BW dC dI A (fun u => mdW y a u)) A) args s 0 0 A) (F0 m 88 ls []) := by
  obtain ⟨hx, hb, hr, hml, hown, hts, hlocks, hA, hK⟩ := id C0
  have w72 := hts (.fieldLink RX5 72 "SharedWireModel" "numbers" "[I") (List.mem_of_getElem? (i := 6) rfl)
  have hinX5 : ∀ w ∈ wsX50, w ∈ wsX5_forget := fun w h => List.mem_cons_of_mem _ (List.mem_append_right _ (h))
  intro S v1 v3 H locs ls hP hD hS hl hf
  obtain ⟨mI, mA, mL⟩ := S
  unfold wp_X5_forget_88 at hf
  refine lv_aload_n hx hb dX5_forget_88 rfl (lv_at hl 0 rfl) ?_
  refine va_get (D := (dC, dI)) (ci := 5) (v := .ref (a 23)) (C := RX5) (T := TX5) (N := 35) hx hb hts hinX5 hown hK.1 hP 0 rfl rfl 23 (by decide) w72 (fun _ h9 => h9) rfl dX5_forget_89 ?_
  refine lv_iload_n hx hb dX5_forget_92 rfl (lv_at hl 2 rfl) ?_
  refine lv_aload_n hx hb dX5_forget_93 rfl (lv_at hl 0 rfl) ?_
  refine va_get (D := (dC, dI)) (ci := 5) (v := .ref (a 23)) (C := RX5) (T := TX5) (N := 35) hx hb hts hinX5 hown hK.1 hP 0 rfl rfl 23 (by decide) w72 (fun _ h9 => h9) rfl dX5_forget_94 ?_
  refine lv_iload_n hx hb dX5_forget_97 rfl (lv_at hl 2 rfl) ?_
  refine lv_iconst (v := 1) hx hb dX5_forget_98 (by decide) ?_
  refine lv_iadd hx hb dX5_forget_99 ?_
  have g15 := hf.1
  replace hf := hf.2
  refine ar_ild (f := (mA 23)) (j := (v3 + 1).toNatClampNeg) hx hb hK.1 hP 21 0 rfl rfl rfl g15 dX5_forget_100 ?_
  have g16 := hf.1
  replace hf := hf.2
  refine mst_23 (f := (mA 23)) (x := (mA 23) ((v3 + 1).toNatClampNeg)) (j := v3.toNatClampNeg) hx hb hK.1 hP hD hS rfl rfl g16 dX5_forget_101 (fun H locs hP hD hS => ?_)
  obtain ⟨n17, en17⟩ : ∃ z : Int32, z = v3 + 1 := ⟨_, rfl⟩
  replace hf := hf n17 en17
  refine lv_iinc (v := n17) (lv' := [(3, .int n17), (0, .ref (a 0)), (1, .int v1)]) hx hb dX5_forget_102 hl (k := 2) rfl (by rw [en17]; rfl) (by decide) rfl (fun ls hl => ?_)
  refine lv_goto (tgt := 18) hx hb dX5_forget_105 (by decide) ?_
  exact hC (mI, va_up mA 23 (upd (mA 23) v3.toNatClampNeg ((mA 23) ((v3 + 1).toNatClampNeg))), mL) v1 n17 H locs ls hP hD hS (lv_sub hl [1, 2, 0] rfl) hf
set_option maxHeartbeats 4000000 in
set_option maxRecDepth 100000 in
theorem j_X5_forget_18 {p : Program} {l : Launch} {e : Env} {s : State} {m : MethodId} {args : Array Value} {below : List Frame} {meth : Method} {c : Code} {dC : Nat → ClassId} {dI : Nat → Nat → Nat} {y : Nat → ClassId} {A : Nat → Prop} (C0 : Cx p s m args meth c cX5_forget 4 none wsX5_forget RX5 A dC dI y) (a : Nat → Nat) (K : ModelS → Prop) : ∀ n : Nat, ∀ (S : ModelS) (v1 : Int32) (v3 : Int32) (H : Heap) (locs : List Loc) (ls : Array Slot), va_P (dC, dI) vwCl (mdW y a S) H → va_D A (mdW y a S) → va_S A s.heap H locs → lv_has ls 4 [(0, .ref (a 0)), (1, .int v1), (3, .int v3)] → wp_X5_forget_18 K n S v1 v3 → W p l e ({ frames := 1, cells := 0, slots := 0, locals := 22 } : Room) s m args below meth c H locs 0 0 (MQ below (va_Qv K (BW dC dI A (fun u => mdW y a u)) A) args s 0 0 A) (F0 m 18 ls []) := by
  obtain ⟨hx, hb, hr, hml, hown, hts, hlocks, hA, hK⟩ := id C0
  have w28 := hts (.fieldLink RX5 28 "SharedWireModel" "wants" "[I") (List.mem_of_getElem? (i := 1) rfl)
  have w31 := hts (.fieldLink RX5 31 "SharedWireModel" "longs" "[Z") (List.mem_of_getElem? (i := 2) rfl)
  have w35 := hts (.fieldLink RX5 35 "SharedWireModel" "identifiers" "[I") (List.mem_of_getElem? (i := 3) rfl)
  have w38 := hts (.fieldLink RX5 38 "SharedWireModel" "data" "[J") (List.mem_of_getElem? (i := 4) rfl)
  have w42 := hts (.fieldLink RX5 42 "SharedWireModel" "bytes" "[I") (List.mem_of_getElem? (i := 5) rfl)
  have hinX5 : ∀ w ∈ wsX50, w ∈ wsX5_forget := fun w h => List.mem_cons_of_mem _ (List.mem_append_right _ (h))
  intro n
  induction n with
  | zero =>
    intro S v1 v3 H locs ls hP hD hS hl hf
    exact False.elim (by unfold wp_X5_forget_18 at hf; exact hf)
  | succ n ih =>
    intro S v1 v3 H locs ls hP hD hS hl hf
    obtain ⟨mI, mA, mL⟩ := S
    unfold wp_X5_forget_18 at hf
    refine lv_iload_n hx hb dX5_forget_18 rfl (lv_at hl 2 rfl) ?_
    refine lv_iconst (v := 4) hx hb dX5_forget_19 (by decide) ?_
    refine lv_iload_n hx hb dX5_forget_20 rfl (lv_at hl 1 rfl) ?_
    refine lv_imul hx hb dX5_forget_21 ?_
    refine lv_aload_n hx hb dX5_forget_22 rfl (lv_at hl 0 rfl) ?_
    refine va_get (D := (dC, dI)) (ci := 5) (v := .ref (a 9)) (C := RX5) (T := TX5) (N := 35) hx hb hts hinX5 hown hK.1 hP 0 rfl rfl 9 (by decide) w28 (fun _ h9 => h9) rfl dX5_forget_23 ?_
    refine lv_iload_n hx hb dX5_forget_26 rfl (lv_at hl 1 rfl) ?_
    have g5 := hf.1
    replace hf := hf.2
    refine ar_ild (f := (mA 9)) (j := v1.toNatClampNeg) hx hb hK.1 hP 7 0 rfl rfl rfl g5 dX5_forget_27 ?_
    refine lv_iadd hx hb dX5_forget_28 ?_
    refine lv_icmp_ge (tgt := 108) hx hb dX5_forget_29 (by decide) (fun c6 => ?_) (fun c6 => ?_)
    · replace hf := hf.1 c6
      exact W.vret hx hb hr (fun t ht hW => ⟨⟨(mI, mA, mL), rfl, hf, by rw [ht]; exact hP, hD⟩, hS.F ht⟩) hS.2.2 dX5_forget_108
    · replace hf := hf.2 c6
      refine lv_aload_n hx hb dX5_forget_32 rfl (lv_at hl 0 rfl) ?_
      refine va_get (D := (dC, dI)) (ci := 5) (v := .ref (a 10)) (C := RX5) (T := TX5) (N := 35) hx hb hts hinX5 hown hK.1 hP 0 rfl rfl 10 (by decide) w31 (fun _ h9 => h9) rfl dX5_forget_33 ?_
      refine lv_iload_n hx hb dX5_forget_36 rfl (lv_at hl 2 rfl) ?_
      refine lv_aload_n hx hb dX5_forget_37 rfl (lv_at hl 0 rfl) ?_
      refine va_get (D := (dC, dI)) (ci := 5) (v := .ref (a 10)) (C := RX5) (T := TX5) (N := 35) hx hb hts hinX5 hown hK.1 hP 0 rfl rfl 10 (by decide) w31 (fun _ h9 => h9) rfl dX5_forget_38 ?_
      refine lv_iload_n hx hb dX5_forget_41 rfl (lv_at hl 2 rfl) ?_
      refine lv_iconst (v := 1) hx hb dX5_forget_42 (by decide) ?_
      refine lv_iadd hx hb dX5_forget_43 ?_
      have g7 := hf.1
      replace hf := hf.2
      refine ar_zld (f := (mA 10)) (j := (v3 + 1).toNatClampNeg) hx hb hK.1 hP 8 2 rfl rfl rfl g7 dX5_forget_44 ?_
      have g8 := hf.1
      replace hf := hf.2
      have hz := hf.1
      replace hf := hf.2
      refine mst_10 (f := (mA 10)) (x := (mA 10) ((v3 + 1).toNatClampNeg)) (j := v3.toNatClampNeg) hx hb hK.1 hP hD hS rfl rfl g8 hz dX5_forget_45 (fun H locs hP hD hS => ?_)
      refine lv_aload_n hx hb dX5_forget_46 rfl (lv_at hl 0 rfl) ?_
      refine va_get (D := (dC, dI)) (ci := 5) (v := .ref (a 11)) (C := RX5) (T := TX5) (N := 35) hx hb hts hinX5 hown hK.1 hP 0 rfl rfl 11 (by decide) w35 (fun _ h9 => h9) rfl dX5_forget_47 ?_
      refine lv_iload_n hx hb dX5_forget_50 rfl (lv_at hl 2 rfl) ?_
      refine lv_aload_n hx hb dX5_forget_51 rfl (lv_at hl 0 rfl) ?_
      refine va_get (D := (dC, dI)) (ci := 5) (v := .ref (a 11)) (C := RX5) (T := TX5) (N := 35) hx hb hts hinX5 hown hK.1 hP 0 rfl rfl 11 (by decide) w35 (fun _ h9 => h9) rfl dX5_forget_52 ?_
      refine lv_iload_n hx hb dX5_forget_55 rfl (lv_at hl 2 rfl) ?_
      refine lv_iconst (v := 1) hx hb dX5_forget_56 (by decide) ?_
      refine lv_iadd hx hb dX5_forget_57 ?_
      have g9 := hf.1
      replace hf := hf.2
      refine ar_ild (f := (mA 11)) (j := (v3 + 1).toNatClampNeg) hx hb hK.1 hP 9 0 rfl rfl rfl g9 dX5_forget_58 ?_
      have g10 := hf.1
      replace hf := hf.2
      refine mst_11 (f := (mA 11)) (x := (mA 11) ((v3 + 1).toNatClampNeg)) (j := v3.toNatClampNeg) hx hb hK.1 hP hD hS rfl rfl g10 dX5_forget_59 (fun H locs hP hD hS => ?_)
      refine lv_aload_n hx hb dX5_forget_60 rfl (lv_at hl 0 rfl) ?_
      refine va_get (D := (dC, dI)) (ci := 5) (v := .ref (a 12)) (C := RX5) (T := TX5) (N := 35) hx hb hts hinX5 hown hK.1 hP 0 rfl rfl 12 (by decide) w38 (fun _ h9 => h9) rfl dX5_forget_61 ?_
      refine lv_iload_n hx hb dX5_forget_64 rfl (lv_at hl 2 rfl) ?_
      refine lv_aload_n hx hb dX5_forget_65 rfl (lv_at hl 0 rfl) ?_
      refine va_get (D := (dC, dI)) (ci := 5) (v := .ref (a 12)) (C := RX5) (T := TX5) (N := 35) hx hb hts hinX5 hown hK.1 hP 0 rfl rfl 12 (by decide) w38 (fun _ h9 => h9) rfl dX5_forget_66 ?_
      refine lv_iload_n hx hb dX5_forget_69 rfl (lv_at hl 2 rfl) ?_
      refine lv_iconst (v := 1) hx hb dX5_forget_70 (by decide) ?_
      refine lv_iadd hx hb dX5_forget_71 ?_
      have g11 := hf.1
      replace hf := hf.2
      refine ar_lld (f := (mL 12)) (j := (v3 + 1).toNatClampNeg) hx hb hK.1 hP 10 1 rfl rfl rfl g11 dX5_forget_72 ?_
      have g12 := hf.1
      replace hf := hf.2
      refine mst_12 (f := (mL 12)) (x := (mL 12) ((v3 + 1).toNatClampNeg)) (j := v3.toNatClampNeg) hx hb hK.1 hP hD hS rfl rfl g12 dX5_forget_73 (fun H locs hP hD hS => ?_)
      refine lv_aload_n hx hb dX5_forget_74 rfl (lv_at hl 0 rfl) ?_
      refine va_get (D := (dC, dI)) (ci := 5) (v := .ref (a 13)) (C := RX5) (T := TX5) (N := 35) hx hb hts hinX5 hown hK.1 hP 0 rfl rfl 13 (by decide) w42 (fun _ h9 => h9) rfl dX5_forget_75 ?_
      refine lv_iload_n hx hb dX5_forget_78 rfl (lv_at hl 2 rfl) ?_
      refine lv_aload_n hx hb dX5_forget_79 rfl (lv_at hl 0 rfl) ?_
      refine va_get (D := (dC, dI)) (ci := 5) (v := .ref (a 13)) (C := RX5) (T := TX5) (N := 35) hx hb hts hinX5 hown hK.1 hP 0 rfl rfl 13 (by decide) w42 (fun _ h9 => h9) rfl dX5_forget_80 ?_
      refine lv_iload_n hx hb dX5_forget_83 rfl (lv_at hl 2 rfl) ?_
      refine lv_iconst (v := 1) hx hb dX5_forget_84 (by decide) ?_
      refine lv_iadd hx hb dX5_forget_85 ?_
      have g13 := hf.1
      replace hf := hf.2
      refine ar_ild (f := (mA 13)) (j := (v3 + 1).toNatClampNeg) hx hb hK.1 hP 11 0 rfl rfl rfl g13 dX5_forget_86 ?_
      have g14 := hf.1
      replace hf := hf.2
      refine mst_13 (f := (mA 13)) (x := (mA 13) ((v3 + 1).toNatClampNeg)) (j := v3.toNatClampNeg) hx hb hK.1 hP hD hS rfl rfl g14 dX5_forget_87 (fun H locs hP hD hS => ?_)
      exact j_X5_forget_88 C0 a K (wp_X5_forget_18 K n) ih (mI, va_up (va_up (va_up mA 10 (upd (mA 10) v3.toNatClampNeg ((mA 10) ((v3 + 1).toNatClampNeg)))) 11 (upd (mA 11) v3.toNatClampNeg ((mA 11) ((v3 + 1).toNatClampNeg)))) 13 (upd (mA 13) v3.toNatClampNeg ((mA 13) ((v3 + 1).toNatClampNeg))), va_up mL 12 (vp_updL (mL 12) v3.toNatClampNeg ((mL 12) ((v3 + 1).toNatClampNeg)))) v1 v3 H locs ls hP hD hS (lv_sub hl [0, 1, 2] rfl) hf
set_option maxHeartbeats 4000000 in
set_option maxRecDepth 100000 in
theorem c_X5_forget (l : Launch) (dC : Nat → ClassId) (dI : Nat → Nat → Nat) (y : Nat → ClassId) (a : Nat → Nat) (sz : Nat) (S : ModelS) (p0 : Int32) (K : ModelS → Prop) (hf : wp_X5_forget S p0 K) : MV l yX5_forget wsX5_forget { frames := 1, cells := 0, slots := 0, locals := 22 } dC dI y [.ref (a 0), .int p0] (mdW y a S) sz (fun u => mdW y a u) K := by
  refine Met.ofW (cc := cX5_forget) (maxL := 4) (ret := none) (by decide) rfl ?_
  intro p e s m args below meth c s₁ B hml hv
  obtain ⟨rfl, hsz, hP, hK, hD0⟩ := hv
  have hx := B.exec
  have hb := B.bytes
  have hr := B.returns
  have hts := atoms_spec (ws := wsX5_forget) B.pre
  have hown : s.vm.findClass RX5 = some m.cls := findClass_of_methodNamed B.named
  have hlocks := B.notSynchronized
  subst hsz
  have hD := hD0.self (sz := s.heap.size)
  generalize hAe : va_A (mdW y a S) s.heap.size = A at hD ⊢
  have hA : ∀ q : Nat, s.heap.size ≤ q → A q := fun q h => by rw [← hAe]; exact Or.inr h
  have hS : va_S A s.heap s.heap [] := va_S.rf
  have C0 : Cx p s m [.ref (a 0), .int p0].toArray meth c cX5_forget 4 none wsX5_forget RX5 A dC dI y := ⟨hx, hb, hr, hml, hown, hts, hlocks, hA, hK⟩
  have w28 := hts (.fieldLink RX5 28 "SharedWireModel" "wants" "[I") (List.mem_of_getElem? (i := 1) rfl)
  have hinX5 : ∀ w ∈ wsX50, w ∈ wsX5_forget := fun w h => List.mem_cons_of_mem _ (List.mem_append_right _ (h))
  have hl := lv_entry ([.ref (a 0), .int p0]) (n := 4) (Nat.le_of_ble_eq_true rfl)
  rw [lg_entry_eq]
  generalize (lg_sl ([.ref (a 0), .int p0]) ++ List.replicate (4 - (lg_sl ([.ref (a 0), .int p0])).length) Slot.unset).toArray = ls at hl ⊢
  have hl : lv_has ls 4 [(0, .ref (a 0)), (1, .int p0)] := hl
  obtain ⟨mI, mA, mL⟩ := S
  clear hAe hD0
  generalize hL0 : ([] : List Loc) = locs at hS ⊢
  unfold wp_X5_forget at hf
  refine lv_aload_n hx hb dX5_forget_0 rfl (lv_at hl 0 rfl) ?_
  refine lv_iload_n hx hb dX5_forget_1 rfl (lv_at hl 1 rfl) ?_
  refine k0i (As := [.int p0]) (rest := []) ⟨hx, hb, hml, hown, hts⟩ (c_X5_sentOne l dC dI y a s.heap.size (mI, mA, mL) p0 _ hf) (cwV 1 hts gX5_forget_X5_sentOne rfl rfl rfl (by decide +kernel) ⟨Nat.le_of_ble_eq_true rfl, Nat.le_of_ble_eq_true rfl⟩) hK hP hD (va_recv hK.1 hP (ci := 5) (q0 := 0) rfl rfl) hS hA rfl hl.1 rfl (Nat.le_of_ble_eq_true rfl) dX5_forget_2 ⟨Nat.zero_le _, Nat.zero_le _⟩ (fun r1 u2 H locs hf hP hD hS => ?_)
  obtain ⟨hf, e9⟩ := hf
  have e9 := e9.symm
  subst e9
  have hP : va_P (dC, dI) vwCl (mdW y a (mI, mA, mL)) H := hP
  have hD : va_D A (mdW y a (mI, mA, mL)) := hD
  refine lv_istore_n (lv' := [(2, .int r1), (0, .ref (a 0)), (1, .int p0)]) hx hb dX5_forget_5 rfl hl (by decide) rfl (fun ls hl => ?_)
  refine lv_aload_n hx hb dX5_forget_6 rfl (lv_at hl 1 rfl) ?_
  refine va_get (D := (dC, dI)) (ci := 5) (v := .ref (a 9)) (C := RX5) (T := TX5) (N := 35) hx hb hts hinX5 hown hK.1 hP 0 rfl rfl 9 (by decide) w28 (fun _ h9 => h9) rfl dX5_forget_7 ?_
  refine lv_iload_n hx hb dX5_forget_10 rfl (lv_at hl 2 rfl) ?_
  refine lv_dup2_11 hx hb dX5_forget_11 rfl rfl ?_
  have g3 := hf.1
  replace hf := hf.2
  refine ar_ild (f := (mA 9)) (j := p0.toNatClampNeg) hx hb hK.1 hP 7 0 rfl rfl rfl g3 dX5_forget_12 ?_
  refine lv_iconst (v := 1) hx hb dX5_forget_13 (by decide) ?_
  refine lv_isub hx hb dX5_forget_14 ?_
  have g4 := hf.1
  replace hf := hf.2
  refine mst_9 (f := (mA 9)) (x := ((mA 9) p0.toNatClampNeg) - 1) (j := p0.toNatClampNeg) hx hb hK.1 hP hD hS rfl rfl g4 dX5_forget_15 (fun H locs hP hD hS => ?_)
  refine lv_iload_n hx hb dX5_forget_16 rfl (lv_at hl 0 rfl) ?_
  refine lv_istore_n (lv' := [(3, .int r1), (2, .int r1), (0, .ref (a 0)), (1, .int p0)]) hx hb dX5_forget_17 rfl hl (by decide) rfl (fun ls hl => ?_)
  exact j_X5_forget_18 C0 a K 1000 (mI, va_up mA 9 (upd (mA 9) p0.toNatClampNeg (((mA 9) p0.toNatClampNeg) - 1)), mL) p0 r1 H locs ls hP hD hS (lv_sub hl [2, 3, 0] rfl) hf

def wp_X5_sends_50 (K : Int32 → Prop) : ModelS → Prop := fun (mI, mA, mL) => K 1
def wp_X5_sends : ModelS → Int32 → (Int32 → Prop) → Prop := fun (mI, mA, mL) p0 K => (vp_in p0 4 ∧ ((¬ (mA 3) p0.toNatClampNeg = 3 → (vp_in p0 4 ∧ ((¬ (mA 3) p0.toNatClampNeg = 2 → wp_X5_sends_50 K (mI, mA, mL)) ∧ ((mA 3) p0.toNatClampNeg = 2 → wp_X5_answers (mI, mA, mL) p0 (fun r5 => ((r5 = 0 → wp_X5_sends_50 K (mI, mA, mL)) ∧ (¬ r5 = 0 → K 0))))))) ∧ ((mA 3) p0.toNatClampNeg = 3 → (vp_in p0 4 ∧ (vp_in ((200 * p0) + ((mA 21) p0.toNatClampNeg)) 1000 ∧ K ((mA 18) (((200 * p0) + ((mA 21) p0.toNatClampNeg)).toNatClampNeg)))))))
set_option maxHeartbeats 4000000 in
set_option maxRecDepth 100000 in
theorem j_X5_sends_50 {p : Program} {l : Launch} {e : Env} {s : State} {m : MethodId} {args : Array Value} {below : List Frame} {meth : Method} {c : Code} {dC : Nat → ClassId} {dI : Nat → Nat → Nat} {y : Nat → ClassId} {A : Nat → Prop} (C0 : Cx p s m args meth c cX5_sends 2 (some .int) wsX5_sends RX5 A dC dI y) (a : Nat → Nat) (K : Int32 → Prop) (S0 : ModelS) : ∀ (S : ModelS) (H : Heap) (locs : List Loc) (ls : Array Slot), va_P (dC, dI) vwCl (mdW y a S) H → va_D A (mdW y a S) → va_S A s.heap H locs → lv_has ls 2 [] → S = S0 → wp_X5_sends_50 K S → W p l e ({ frames := 3, cells := 0, slots := 0, locals := 69 } : Room) s m args below meth c H locs 0 0 (MQ below (va_Qi (fun r u => K r ∧ u = S0) (BW dC dI A (fun u => mdW y a u)) A) args s 0 0 A) (F0 m 50 ls []) := by
  obtain ⟨hx, hb, hr, hml, hown, hts, hlocks, hA, hK⟩ := id C0
  intro S H locs ls hP hD hS hl hSS hf
  obtain ⟨mI, mA, mL⟩ := S
  unfold wp_X5_sends_50 at hf
  refine lv_iconst (v := 1) hx hb dX5_sends_50 (by decide) ?_
  exact W.iret (v := 1) hx hb hr (fun t ht hW => ⟨⟨1, (mI, mA, mL), rfl, ⟨hf, hSS⟩, by rw [ht]; exact hP, hD⟩, hS.F ht⟩) hS.2.2 dX5_sends_51
set_option maxHeartbeats 4000000 in
set_option maxRecDepth 100000 in
theorem c_X5_sends (l : Launch) (dC : Nat → ClassId) (dI : Nat → Nat → Nat) (y : Nat → ClassId) (a : Nat → Nat) (sz : Nat) (S : ModelS) (p0 : Int32) (K : Int32 → Prop) (hf : wp_X5_sends S p0 K) : MI l yX5_sends wsX5_sends { frames := 3, cells := 0, slots := 0, locals := 69 } dC dI y [.ref (a 0), .int p0] (mdW y a S) sz (fun u => mdW y a u) (fun r u => K r ∧ u = S) := by
  refine Met.ofW (cc := cX5_sends) (maxL := 2) (ret := (some .int)) (by decide) rfl ?_
  intro p e s m args below meth c s₁ B hml hv
  obtain ⟨rfl, hsz, hP, hK, hD0⟩ := hv
  have hx := B.exec
  have hb := B.bytes
  have hr := B.returns
  have hts := atoms_spec (ws := wsX5_sends) B.pre
  have hown : s.vm.findClass RX5 = some m.cls := findClass_of_methodNamed B.named
  have hlocks := B.notSynchronized
  subst hsz
  have hD := hD0.self (sz := s.heap.size)
  generalize hAe : va_A (mdW y a S) s.heap.size = A at hD ⊢
  have hA : ∀ q : Nat, s.heap.size ≤ q → A q := fun q h => by rw [← hAe]; exact Or.inr h
  have hS : va_S A s.heap s.heap [] := va_S.rf
  have C0 : Cx p s m [.ref (a 0), .int p0].toArray meth c cX5_sends 2 (some .int) wsX5_sends RX5 A dC dI y := ⟨hx, hb, hr, hml, hown, hts, hlocks, hA, hK⟩
  have w9 := hts (.fieldLink RX5 9 "SharedWireModel" "state" "[I") (List.mem_of_getElem? (i := 1) rfl)
  have w57 := hts (.fieldLink RX5 57 "SharedWireModel" "wireBits" "[I") (List.mem_of_getElem? (i := 2) rfl)
  have w66 := hts (.fieldLink RX5 66 "SharedWireModel" "at" "[I") (List.mem_of_getElem? (i := 3) rfl)
  have hinX5 : ∀ w ∈ wsX50, w ∈ wsX5_sends := fun w h => List.mem_cons_of_mem _ (List.mem_append_right _ (h))
  have hl := lv_entry ([.ref (a 0), .int p0]) (n := 2) (Nat.le_of_ble_eq_true rfl)
  rw [lg_entry_eq]
  generalize (lg_sl ([.ref (a 0), .int p0]) ++ List.replicate (2 - (lg_sl ([.ref (a 0), .int p0])).length) Slot.unset).toArray = ls at hl ⊢
  have hl : lv_has ls 2 [(0, .ref (a 0)), (1, .int p0)] := hl
  obtain ⟨mI, mA, mL⟩ := S
  have hSS : (mI, mA, mL) = (mI, mA, mL) := rfl
  clear hAe hD0
  generalize hL0 : ([] : List Loc) = locs at hS ⊢
  unfold wp_X5_sends at hf
  refine lv_aload_n hx hb dX5_sends_0 rfl (lv_at hl 0 rfl) ?_
  refine va_get (D := (dC, dI)) (ci := 5) (v := .ref (a 3)) (C := RX5) (T := TX5) (N := 35) hx hb hts hinX5 hown hK.1 hP 0 rfl rfl 3 (by decide) w9 (fun _ h9 => h9) rfl dX5_sends_1 ?_
  refine lv_iload_n hx hb dX5_sends_4 rfl (lv_at hl 1 rfl) ?_
  have g1 := hf.1
  replace hf := hf.2
  refine ar_ild (f := (mA 3)) (j := p0.toNatClampNeg) hx hb hK.1 hP 1 0 rfl rfl rfl g1 dX5_sends_5 ?_
  refine lv_iconst (v := 3) hx hb dX5_sends_6 (by decide) ?_
  refine lv_icmp_ne (tgt := 28) hx hb dX5_sends_7 (by decide) (fun c2 => ?_) (fun c2 => ?_)
  · replace hf := hf.1 c2
    refine lv_aload_n hx hb dX5_sends_28 rfl (lv_at hl 0 rfl) ?_
    refine va_get (D := (dC, dI)) (ci := 5) (v := .ref (a 3)) (C := RX5) (T := TX5) (N := 35) hx hb hts hinX5 hown hK.1 hP 0 rfl rfl 3 (by decide) w9 (fun _ h9 => h9) rfl dX5_sends_29 ?_
    refine lv_iload_n hx hb dX5_sends_32 rfl (lv_at hl 1 rfl) ?_
    have g3 := hf.1
    replace hf := hf.2
    refine ar_ild (f := (mA 3)) (j := p0.toNatClampNeg) hx hb hK.1 hP 1 0 rfl rfl rfl g3 dX5_sends_33 ?_
    refine lv_iconst (v := 2) hx hb dX5_sends_34 (by decide) ?_
    refine lv_icmp_ne (tgt := 50) hx hb dX5_sends_35 (by decide) (fun c4 => ?_) (fun c4 => ?_)
    · replace hf := hf.1 c4
      exact j_X5_sends_50 C0 a K _ (mI, mA, mL) s.heap locs ls hP hD hS (lv_sub hl [] rfl) hSS hf
    · replace hf := hf.2 c4
      refine lv_aload_n hx hb dX5_sends_38 rfl (lv_at hl 0 rfl) ?_
      refine lv_iload_n hx hb dX5_sends_39 rfl (lv_at hl 1 rfl) ?_
      refine k0i (As := [.int p0]) (rest := []) ⟨hx, hb, hml, hown, hts⟩ (c_X5_answers l dC dI y a s.heap.size (mI, mA, mL) p0 _ hf) (cwV 1 hts gX5_sends_X5_answers rfl rfl rfl (by decide +kernel) ⟨Nat.le_of_ble_eq_true rfl, Nat.le_of_ble_eq_true rfl⟩) hK hP hD (va_recv hK.1 hP (ci := 5) (q0 := 0) rfl rfl) hS hA rfl hl.1 rfl (Nat.le_of_ble_eq_true rfl) dX5_sends_40 ⟨Nat.zero_le _, Nat.zero_le _⟩ (fun r5 u6 H locs hf hP hD hS => ?_)
      obtain ⟨hf, e9⟩ := hf
      have e9 := e9.symm
      subst e9
      have hP : va_P (dC, dI) vwCl (mdW y a (mI, mA, mL)) H := hP
      have hD : va_D A (mdW y a (mI, mA, mL)) := hD
      refine lv_if_eq (tgt := 50) hx hb dX5_sends_43 (by decide) (fun c7 => ?_) (fun c7 => ?_)
      · replace hf := hf.1 c7
        exact j_X5_sends_50 C0 a K _ (mI, mA, mL) H locs ls hP hD hS (lv_sub hl [] rfl) hSS hf
      · replace hf := hf.2 c7
        refine lv_iconst (v := 0) hx hb dX5_sends_46 (by decide) ?_
        refine lv_goto (tgt := 51) hx hb dX5_sends_47 (by decide) ?_
        exact W.iret (v := 0) hx hb hr (fun t ht hW => ⟨⟨0, (mI, mA, mL), rfl, ⟨hf, hSS⟩, by rw [ht]; exact hP, hD⟩, hS.F ht⟩) hS.2.2 dX5_sends_51
  · replace hf := hf.2 c2
    refine lv_aload_n hx hb dX5_sends_10 rfl (lv_at hl 0 rfl) ?_
    refine va_get (D := (dC, dI)) (ci := 5) (v := .ref (a 18)) (C := RX5) (T := TX5) (N := 35) hx hb hts hinX5 hown hK.1 hP 0 rfl rfl 18 (by decide) w57 (fun _ h9 => h9) rfl dX5_sends_11 ?_
    refine lv_sipush (v := 200) hx hb dX5_sends_14 (by decide) ?_
    refine lv_iload_n hx hb dX5_sends_17 rfl (lv_at hl 1 rfl) ?_
    refine lv_imul hx hb dX5_sends_18 ?_
    refine lv_aload_n hx hb dX5_sends_19 rfl (lv_at hl 0 rfl) ?_
    refine va_get (D := (dC, dI)) (ci := 5) (v := .ref (a 21)) (C := RX5) (T := TX5) (N := 35) hx hb hts hinX5 hown hK.1 hP 0 rfl rfl 21 (by decide) w66 (fun _ h9 => h9) rfl dX5_sends_20 ?_
    refine lv_iload_n hx hb dX5_sends_23 rfl (lv_at hl 1 rfl) ?_
    have g8 := hf.1
    replace hf := hf.2
    refine ar_ild (f := (mA 21)) (j := p0.toNatClampNeg) hx hb hK.1 hP 19 0 rfl rfl rfl g8 dX5_sends_24 ?_
    refine lv_iadd hx hb dX5_sends_25 ?_
    have g9 := hf.1
    replace hf := hf.2
    refine ar_ild (f := (mA 18)) (j := ((200 * p0) + ((mA 21) p0.toNatClampNeg)).toNatClampNeg) hx hb hK.1 hP 16 0 rfl rfl rfl g9 dX5_sends_26 ?_
    exact W.iret (v := (mA 18) (((200 * p0) + ((mA 21) p0.toNatClampNeg)).toNatClampNeg)) hx hb hr (fun t ht hW => ⟨⟨(mA 18) (((200 * p0) + ((mA 21) p0.toNatClampNeg)).toNatClampNeg), (mI, mA, mL), rfl, ⟨hf, hSS⟩, by rw [ht]; exact hP, hD⟩, hS.F ht⟩) hS.2.2 dX5_sends_27

def wp_X5_offerAll_2_4 (K : ModelS → Prop) : ModelS → Prop := fun (mI, mA, mL) => K (mI, mA, mL)
def wp_X5_offerAll_64_3 (K : ModelS → Prop) : ModelS → Prop := fun (mI, mA, mL) => wp_X5_offerAll_2_4 K (mI, mA, mL)
def wp_X5_offerAll_53_3 (K : ModelS → Prop) : ModelS → Int32 → Prop := fun (mI, mA, mL) v2 => wp_X5_make (mI, mA, mL) v2 3 (fun u15 => wp_X5_begin (u15.1, u15.2.1, u15.2.2) 3 (fun u16 => wp_X5_offerAll_64_3 K (u16.1, u16.2.1, u16.2.2)))
def wp_X5_offerAll_2_3 (K : ModelS → Prop) : ModelS → Prop := fun (mI, mA, mL) => wp_X5_offer (mI, mA, mL) 3 (fun r10 => ((¬ (mA 3) 3 = 1 → wp_X5_offerAll_64_3 K (mI, mA, mL)) ∧ ((mA 3) 3 = 1 → ((r10 < 0 → wp_X5_offerAll_64_3 K (mI, mA, mL)) ∧ (¬ r10 < 0 → (vp_in r10 16 ∧ wp_X5_offerAll_53_3 K (mI, va_up (va_up (va_up mA 3 (upd (mA 3) 3 3)) 22 (upd (mA 22) 3 ((mA 23) r10.toNatClampNeg))) 21 (upd (mA 21) 3 0), mL) r10))))))
def wp_X5_offerAll_64_2 (K : ModelS → Prop) : ModelS → Prop := fun (mI, mA, mL) => wp_X5_offerAll_2_3 K (mI, mA, mL)
def wp_X5_offerAll_53_2 (K : ModelS → Prop) : ModelS → Int32 → Prop := fun (mI, mA, mL) v2 => wp_X5_make (mI, mA, mL) v2 2 (fun u19 => wp_X5_begin (u19.1, u19.2.1, u19.2.2) 2 (fun u20 => wp_X5_offerAll_64_2 K (u20.1, u20.2.1, u20.2.2)))
def wp_X5_offerAll_2_2 (K : ModelS → Prop) : ModelS → Prop := fun (mI, mA, mL) => wp_X5_offer (mI, mA, mL) 2 (fun r7 => ((¬ (mA 3) 2 = 1 → wp_X5_offerAll_64_2 K (mI, mA, mL)) ∧ ((mA 3) 2 = 1 → ((r7 < 0 → wp_X5_offerAll_64_2 K (mI, mA, mL)) ∧ (¬ r7 < 0 → (vp_in r7 16 ∧ wp_X5_offerAll_53_2 K (mI, va_up (va_up (va_up mA 3 (upd (mA 3) 2 3)) 22 (upd (mA 22) 2 ((mA 23) r7.toNatClampNeg))) 21 (upd (mA 21) 2 0), mL) r7))))))
def wp_X5_offerAll_64_1 (K : ModelS → Prop) : ModelS → Prop := fun (mI, mA, mL) => wp_X5_offerAll_2_2 K (mI, mA, mL)
def wp_X5_offerAll_53_1 (K : ModelS → Prop) : ModelS → Int32 → Prop := fun (mI, mA, mL) v2 => wp_X5_make (mI, mA, mL) v2 1 (fun u23 => wp_X5_begin (u23.1, u23.2.1, u23.2.2) 1 (fun u24 => wp_X5_offerAll_64_1 K (u24.1, u24.2.1, u24.2.2)))
def wp_X5_offerAll_2_1 (K : ModelS → Prop) : ModelS → Prop := fun (mI, mA, mL) => wp_X5_offer (mI, mA, mL) 1 (fun r4 => ((¬ (mA 3) 1 = 1 → wp_X5_offerAll_64_1 K (mI, mA, mL)) ∧ ((mA 3) 1 = 1 → ((r4 < 0 → wp_X5_offerAll_64_1 K (mI, mA, mL)) ∧ (¬ r4 < 0 → (vp_in r4 16 ∧ wp_X5_offerAll_53_1 K (mI, va_up (va_up (va_up mA 3 (upd (mA 3) 1 3)) 22 (upd (mA 22) 1 ((mA 23) r4.toNatClampNeg))) 21 (upd (mA 21) 1 0), mL) r4))))))
def wp_X5_offerAll_64_0 (K : ModelS → Prop) : ModelS → Prop := fun (mI, mA, mL) => wp_X5_offerAll_2_1 K (mI, mA, mL)
def wp_X5_offerAll_53_0 (K : ModelS → Prop) : ModelS → Int32 → Prop := fun (mI, mA, mL) v2 => wp_X5_make (mI, mA, mL) v2 0 (fun u27 => wp_X5_begin (u27.1, u27.2.1, u27.2.2) 0 (fun u28 => wp_X5_offerAll_64_0 K (u28.1, u28.2.1, u28.2.2)))
def wp_X5_offerAll_2_0 (K : ModelS → Prop) : ModelS → Prop := fun (mI, mA, mL) => wp_X5_offer (mI, mA, mL) 0 (fun r1 => ((¬ (mA 3) 0 = 1 → wp_X5_offerAll_64_0 K (mI, mA, mL)) ∧ ((mA 3) 0 = 1 → ((r1 < 0 → wp_X5_offerAll_64_0 K (mI, mA, mL)) ∧ (¬ r1 < 0 → (vp_in r1 16 ∧ wp_X5_offerAll_53_0 K (mI, va_up (va_up (va_up mA 3 (upd (mA 3) 0 3)) 22 (upd (mA 22) 0 ((mA 23) r1.toNatClampNeg))) 21 (upd (mA 21) 0 0), mL) r1))))))
def wp_X5_offerAll : ModelS → (ModelS → Prop) → Prop := fun (mI, mA, mL) K => wp_X5_offerAll_2_0 K (mI, mA, mL)
set_option maxHeartbeats 4000000 in
set_option maxRecDepth 100000 in
theorem j_X5_offerAll_2_4 {p : Program} {l : Launch} {e : Env} {s : State} {m : MethodId} {args : Array Value} {below : List Frame} {meth : Method} {c : Code} {dC : Nat → ClassId} {dI : Nat → Nat → Nat} {y : Nat → ClassId} {A : Nat → Prop} (C0 : Cx p s m args meth c cX5_offerAll 3 none wsX5_offerAll RX5 A dC dI y) (a : Nat → Nat) (K : ModelS → Prop) : ∀ (S : ModelS) (H : Heap) (locs : List Loc) (ls : Array Slot), va_P (dC, dI) vwCl (mdW y a S) H → va_D A (mdW y a S) → va_S A s.heap H locs → lv_has ls 3 [(0, .ref (a 0)), (1, .int 4)] → wp_X5_offerAll_2_4 K S → W p l e ({ frames := 3, cells := 0, slots := 0, locals := 68 } : Room) s m args below meth c H locs 0 0 (MQ below (va_Qv K (BW dC dI A (fun u => mdW y a u)) A) args s 0 0 A) (F0 m 2 ls []) := by
  obtain ⟨hx, hb, hr, hml, hown, hts, hlocks, hA, hK⟩ := id C0
  intro S H locs ls hP hD hS hl hf
  obtain ⟨mI, mA, mL⟩ := S
  unfold wp_X5_offerAll_2_4 at hf
  refine lv_iload_n hx hb dX5_offerAll_2 rfl (lv_at hl 1 rfl) ?_
  refine lv_iconst (v := 4) hx hb dX5_offerAll_3 (by decide) ?_
  refine lv_icmp_ge (tgt := 70) hx hb dX5_offerAll_4 (by decide) (fun _ => ?_) (fun c9 => absurd (by decide) c9)
  exact W.vret hx hb hr (fun t ht hW => ⟨⟨(mI, mA, mL), rfl, hf, by rw [ht]; exact hP, hD⟩, hS.F ht⟩) hS.2.2 dX5_offerAll_70
set_option maxHeartbeats 4000000 in
set_option maxRecDepth 100000 in
theorem j_X5_offerAll_64_3 {p : Program} {l : Launch} {e : Env} {s : State} {m : MethodId} {args : Array Value} {below : List Frame} {meth : Method} {c : Code} {dC : Nat → ClassId} {dI : Nat → Nat → Nat} {y : Nat → ClassId} {A : Nat → Prop} (C0 : Cx p s m args meth c cX5_offerAll 3 none wsX5_offerAll RX5 A dC dI y) (a : Nat → Nat) (K : ModelS → Prop) : ∀ (S : ModelS) (H : Heap) (locs : List Loc) (ls : Array Slot), va_P (dC, dI) vwCl (mdW y a S) H → va_D A (mdW y a S) → va_S A s.heap H locs → lv_has ls 3 [(0, .ref (a 0)), (1, .int 3)] → wp_X5_offerAll_64_3 K S → W p l e ({ frames := 3, cells := 0, slots := 0, locals := 68 } : Room) s m args below meth c H locs 0 0 (MQ below (va_Qv K (BW dC dI A (fun u => mdW y a u)) A) args s 0 0 A) (F0 m 64 ls []) := by
  obtain ⟨hx, hb, hr, hml, hown, hts, hlocks, hA, hK⟩ := id C0
  intro S H locs ls hP hD hS hl hf
  obtain ⟨mI, mA, mL⟩ := S
  unfold wp_X5_offerAll_64_3 at hf
  refine lv_iinc (v := 4) (lv' := [(1, .int 4), (0, .ref (a 0))]) hx hb dX5_offerAll_64 hl (k := 1) rfl (by decide) (by decide) rfl (fun ls hl => ?_)
  refine lv_goto (tgt := 2) hx hb dX5_offerAll_67 (by decide) ?_
  exact j_X5_offerAll_2_4 C0 a K (mI, mA, mL) H locs ls hP hD hS (lv_sub hl [1, 0] rfl) hf
set_option maxHeartbeats 4000000 in
set_option maxRecDepth 100000 in
theorem j_X5_offerAll_53_3 {p : Program} {l : Launch} {e : Env} {s : State} {m : MethodId} {args : Array Value} {below : List Frame} {meth : Method} {c : Code} {dC : Nat → ClassId} {dI : Nat → Nat → Nat} {y : Nat → ClassId} {A : Nat → Prop} (C0 : Cx p s m args meth c cX5_offerAll 3 none wsX5_offerAll RX5 A dC dI y) (a : Nat → Nat) (K : ModelS → Prop) : ∀ (S : ModelS) (v2 : Int32) (H : Heap) (locs : List Loc) (ls : Array Slot), va_P (dC, dI) vwCl (mdW y a S) H → va_D A (mdW y a S) → va_S A s.heap H locs → lv_has ls 3 [(0, .ref (a 0)), (1, .int 3), (2, .int v2)] → wp_X5_offerAll_53_3 K S v2 → W p l e ({ frames := 3, cells := 0, slots := 0, locals := 68 } : Room) s m args below meth c H locs 0 0 (MQ below (va_Qv K (BW dC dI A (fun u => mdW y a u)) A) args s 0 0 A) (F0 m 53 ls []) := by
  obtain ⟨hx, hb, hr, hml, hown, hts, hlocks, hA, hK⟩ := id C0
  intro S v2 H locs ls hP hD hS hl hf
  obtain ⟨mI, mA, mL⟩ := S
  unfold wp_X5_offerAll_53_3 at hf
  refine lv_aload_n hx hb dX5_offerAll_53 rfl (lv_at hl 0 rfl) ?_
  refine lv_iload_n hx hb dX5_offerAll_54 rfl (lv_at hl 2 rfl) ?_
  refine lv_iload_n hx hb dX5_offerAll_55 rfl (lv_at hl 1 rfl) ?_
  refine k0v (As := [.int v2, .int 3]) (rest := []) ⟨hx, hb, hml, hown, hts⟩ (c_X5_make l dC dI y a H.size (mI, mA, mL) v2 3 _ hf) (cwV 2 hts gX5_offerAll_X5_make rfl rfl rfl (by decide +kernel) ⟨Nat.le_of_ble_eq_true rfl, Nat.le_of_ble_eq_true rfl⟩) hK hP hD (va_recv hK.1 hP (ci := 5) (q0 := 0) rfl rfl) hS hA rfl hl.1 rfl (Nat.le_of_ble_eq_true rfl) dX5_offerAll_56 ⟨Nat.zero_le _, Nat.zero_le _⟩ (fun u15 H locs hf hP hD hS => ?_)
  have hP : va_P (dC, dI) vwCl (mdW y a (u15.1, u15.2.1, u15.2.2)) H := hP
  have hD : va_D A (mdW y a (u15.1, u15.2.1, u15.2.2)) := hD
  refine lv_aload_n hx hb dX5_offerAll_59 rfl (lv_at hl 0 rfl) ?_
  refine lv_iload_n hx hb dX5_offerAll_60 rfl (lv_at hl 1 rfl) ?_
  refine k0v (As := [.int 3]) (rest := []) ⟨hx, hb, hml, hown, hts⟩ (c_X5_begin l dC dI y a H.size (u15.1, u15.2.1, u15.2.2) 3 _ hf) (cwV 1 hts gX5_offerAll_X5_begin rfl rfl rfl (by decide +kernel) ⟨Nat.le_of_ble_eq_true rfl, Nat.le_of_ble_eq_true rfl⟩) hK hP hD (va_recv hK.1 hP (ci := 5) (q0 := 0) rfl rfl) hS hA rfl hl.1 rfl (Nat.le_of_ble_eq_true rfl) dX5_offerAll_61 ⟨Nat.zero_le _, Nat.zero_le _⟩ (fun u16 H locs hf hP hD hS => ?_)
  have hP : va_P (dC, dI) vwCl (mdW y a (u16.1, u16.2.1, u16.2.2)) H := hP
  have hD : va_D A (mdW y a (u16.1, u16.2.1, u16.2.2)) := hD
  exact j_X5_offerAll_64_3 C0 a K (u16.1, u16.2.1, u16.2.2) H locs ls hP hD hS (lv_sub hl [0, 1] rfl) hf
set_option maxHeartbeats 4000000 in
set_option maxRecDepth 100000 in
theorem j_X5_offerAll_2_3 {p : Program} {l : Launch} {e : Env} {s : State} {m : MethodId} {args : Array Value} {below : List Frame} {meth : Method} {c : Code} {dC : Nat → ClassId} {dI : Nat → Nat → Nat} {y : Nat → ClassId} {A : Nat → Prop} (C0 : Cx p s m args meth c cX5_offerAll 3 none wsX5_offerAll RX5 A dC dI y) (a : Nat → Nat) (K : ModelS → Prop) : ∀ (S : ModelS) (H : Heap) (locs : List Loc) (ls : Array Slot), va_P (dC, dI) vwCl (mdW y a S) H → va_D A (mdW y a S) → va_S A s.heap H locs → lv_has ls 3 [(0, .ref (a 0)), (1, .int 3)] → wp_X5_offerAll_2_3 K S → W p l e ({ frames := 3, cells := 0, slots := 0, locals := 68 } : Room) s m args below meth c H locs 0 0 (MQ below (va_Qv K (BW dC dI A (fun u => mdW y a u)) A) args s 0 0 A) (F0 m 2 ls []) := by
  obtain ⟨hx, hb, hr, hml, hown, hts, hlocks, hA, hK⟩ := id C0
  have w9 := hts (Cond.fieldLink RX5 9 "SharedWireModel" "state" "[I") (List.mem_of_getElem? (i := 1) rfl)
  have w66 := hts (Cond.fieldLink RX5 66 "SharedWireModel" "at" "[I") (List.mem_of_getElem? (i := 4) rfl)
  have w69 := hts (Cond.fieldLink RX5 69 "SharedWireModel" "mine" "[I") (List.mem_of_getElem? (i := 2) rfl)
  have w72 := hts (Cond.fieldLink RX5 72 "SharedWireModel" "numbers" "[I") (List.mem_of_getElem? (i := 3) rfl)
  have hinX5 : ∀ w ∈ wsX50, w ∈ wsX5_offerAll := fun w h => List.mem_cons_of_mem _ (List.mem_append_right _ (h))
  intro S H locs ls hP hD hS hl hf
  obtain ⟨mI, mA, mL⟩ := S
  unfold wp_X5_offerAll_2_3 at hf
  refine lv_iload_n hx hb dX5_offerAll_2 rfl (lv_at hl 1 rfl) ?_
  refine lv_iconst (v := 4) hx hb dX5_offerAll_3 (by decide) ?_
  refine lv_icmp_ge (tgt := 70) hx hb dX5_offerAll_4 (by decide) (fun c9 => absurd c9 (by decide)) (fun _ => ?_)
  refine lv_aload_n hx hb dX5_offerAll_7 rfl (lv_at hl 0 rfl) ?_
  refine lv_iload_n hx hb dX5_offerAll_8 rfl (lv_at hl 1 rfl) ?_
  refine k0i (As := [.int 3]) (rest := []) ⟨hx, hb, hml, hown, hts⟩ (c_X5_offer l dC dI y a H.size (mI, mA, mL) 3 _ hf) (cwV 1 hts gX5_offerAll_X5_offer rfl rfl rfl (by decide +kernel) ⟨Nat.le_of_ble_eq_true rfl, Nat.le_of_ble_eq_true rfl⟩) hK hP hD (va_recv hK.1 hP (ci := 5) (q0 := 0) rfl rfl) hS hA rfl hl.1 rfl (Nat.le_of_ble_eq_true rfl) dX5_offerAll_9 ⟨Nat.zero_le _, Nat.zero_le _⟩ (fun r10 u11 H locs hf hP hD hS => ?_)
  obtain ⟨hf, e9⟩ := hf
  have e9 := e9.symm
  subst e9
  have hP : va_P (dC, dI) vwCl (mdW y a (mI, mA, mL)) H := hP
  have hD : va_D A (mdW y a (mI, mA, mL)) := hD
  refine lv_istore_n (lv' := [(2, .int r10), (0, .ref (a 0)), (1, .int 3)]) hx hb dX5_offerAll_12 rfl hl (by decide) rfl (fun ls hl => ?_)
  refine lv_aload_n hx hb dX5_offerAll_13 rfl (lv_at hl 1 rfl) ?_
  refine va_get (D := (dC, dI)) (ci := 5) (v := .ref (a 3)) (C := RX5) (T := TX5) (N := 35) hx hb hts hinX5 hown hK.1 hP 0 rfl rfl 3 (by decide) w9 (fun _ h9 => h9) rfl dX5_offerAll_14 ?_
  refine lv_iload_n hx hb dX5_offerAll_17 rfl (lv_at hl 2 rfl) ?_
  refine ar_ild (f := (mA 3)) (j := 3) hx hb hK.1 hP 1 0 rfl rfl (clamp_lit 3 rfl) (vin_lit 3 4 rfl rfl) dX5_offerAll_18 ?_
  refine lv_iconst (v := 1) hx hb dX5_offerAll_19 (by decide) ?_
  refine lv_icmp_ne (tgt := 64) hx hb dX5_offerAll_20 (by decide) (fun c12 => ?_) (fun c12 => ?_)
  · replace hf := hf.1 c12
    exact j_X5_offerAll_64_3 C0 a K (mI, mA, mL) H locs ls hP hD hS (lv_sub hl [1, 2] rfl) hf
  · replace hf := hf.2 c12
    refine lv_iload_n hx hb dX5_offerAll_23 rfl (lv_at hl 0 rfl) ?_
    refine lv_if_lt (tgt := 64) hx hb dX5_offerAll_24 (by decide) (fun c13 => ?_) (fun c13 => ?_)
    · replace hf := hf.1 c13
      exact j_X5_offerAll_64_3 C0 a K (mI, mA, mL) H locs ls hP hD hS (lv_sub hl [1, 2] rfl) hf
    · replace hf := hf.2 c13
      refine lv_aload_n hx hb dX5_offerAll_27 rfl (lv_at hl 1 rfl) ?_
      refine va_get (D := (dC, dI)) (ci := 5) (v := .ref (a 3)) (C := RX5) (T := TX5) (N := 35) hx hb hts hinX5 hown hK.1 hP 0 rfl rfl 3 (by decide) w9 (fun _ h9 => h9) rfl dX5_offerAll_28 ?_
      refine lv_iload_n hx hb dX5_offerAll_31 rfl (lv_at hl 2 rfl) ?_
      refine lv_iconst (v := 3) hx hb dX5_offerAll_32 (by decide) ?_
      refine mst_3 (f := (mA 3)) (x := 3) (j := 3) hx hb hK.1 hP hD hS rfl (clamp_lit 3 rfl) (vin_lit 3 4 rfl rfl) dX5_offerAll_33 (fun H locs hP hD hS => ?_)
      refine lv_aload_n hx hb dX5_offerAll_34 rfl (lv_at hl 1 rfl) ?_
      refine va_get (D := (dC, dI)) (ci := 5) (v := .ref (a 22)) (C := RX5) (T := TX5) (N := 35) hx hb hts hinX5 hown hK.1 hP 0 rfl rfl 22 (by decide) w69 (fun _ h9 => h9) rfl dX5_offerAll_35 ?_
      refine lv_iload_n hx hb dX5_offerAll_38 rfl (lv_at hl 2 rfl) ?_
      refine lv_aload_n hx hb dX5_offerAll_39 rfl (lv_at hl 1 rfl) ?_
      refine va_get (D := (dC, dI)) (ci := 5) (v := .ref (a 23)) (C := RX5) (T := TX5) (N := 35) hx hb hts hinX5 hown hK.1 hP 0 rfl rfl 23 (by decide) w72 (fun _ h9 => h9) rfl dX5_offerAll_40 ?_
      refine lv_iload_n hx hb dX5_offerAll_43 rfl (lv_at hl 0 rfl) ?_
      have g14 := hf.1
      replace hf := hf.2
      refine ar_ild (f := (mA 23)) (j := r10.toNatClampNeg) hx hb hK.1 hP 21 0 rfl rfl rfl g14 dX5_offerAll_44 ?_
      refine mst_22 (f := (mA 22)) (x := (mA 23) r10.toNatClampNeg) (j := 3) hx hb hK.1 hP hD hS rfl (clamp_lit 3 rfl) (vin_lit 3 4 rfl rfl) dX5_offerAll_45 (fun H locs hP hD hS => ?_)
      refine lv_aload_n hx hb dX5_offerAll_46 rfl (lv_at hl 1 rfl) ?_
      refine va_get (D := (dC, dI)) (ci := 5) (v := .ref (a 21)) (C := RX5) (T := TX5) (N := 35) hx hb hts hinX5 hown hK.1 hP 0 rfl rfl 21 (by decide) w66 (fun _ h9 => h9) rfl dX5_offerAll_47 ?_
      refine lv_iload_n hx hb dX5_offerAll_50 rfl (lv_at hl 2 rfl) ?_
      refine lv_iconst (v := 0) hx hb dX5_offerAll_51 (by decide) ?_
      refine mst_21 (f := (mA 21)) (x := 0) (j := 3) hx hb hK.1 hP hD hS rfl (clamp_lit 3 rfl) (vin_lit 3 4 rfl rfl) dX5_offerAll_52 (fun H locs hP hD hS => ?_)
      exact j_X5_offerAll_53_3 C0 a K (mI, va_up (va_up (va_up mA 3 (upd (mA 3) 3 3)) 22 (upd (mA 22) 3 ((mA 23) r10.toNatClampNeg))) 21 (upd (mA 21) 3 0), mL) r10 H locs ls hP hD hS (lv_sub hl [1, 2, 0] rfl) hf
set_option maxHeartbeats 4000000 in
set_option maxRecDepth 100000 in
theorem j_X5_offerAll_64_2 {p : Program} {l : Launch} {e : Env} {s : State} {m : MethodId} {args : Array Value} {below : List Frame} {meth : Method} {c : Code} {dC : Nat → ClassId} {dI : Nat → Nat → Nat} {y : Nat → ClassId} {A : Nat → Prop} (C0 : Cx p s m args meth c cX5_offerAll 3 none wsX5_offerAll RX5 A dC dI y) (a : Nat → Nat) (K : ModelS → Prop) : ∀ (S : ModelS) (H : Heap) (locs : List Loc) (ls : Array Slot), va_P (dC, dI) vwCl (mdW y a S) H → va_D A (mdW y a S) → va_S A s.heap H locs → lv_has ls 3 [(0, .ref (a 0)), (1, .int 2)] → wp_X5_offerAll_64_2 K S → W p l e ({ frames := 3, cells := 0, slots := 0, locals := 68 } : Room) s m args below meth c H locs 0 0 (MQ below (va_Qv K (BW dC dI A (fun u => mdW y a u)) A) args s 0 0 A) (F0 m 64 ls []) := by
  obtain ⟨hx, hb, hr, hml, hown, hts, hlocks, hA, hK⟩ := id C0
  intro S H locs ls hP hD hS hl hf
  obtain ⟨mI, mA, mL⟩ := S
  unfold wp_X5_offerAll_64_2 at hf
  refine lv_iinc (v := 3) (lv' := [(1, .int 3), (0, .ref (a 0))]) hx hb dX5_offerAll_64 hl (k := 1) rfl (by decide) (by decide) rfl (fun ls hl => ?_)
  refine lv_goto (tgt := 2) hx hb dX5_offerAll_67 (by decide) ?_
  exact j_X5_offerAll_2_3 C0 a K (mI, mA, mL) H locs ls hP hD hS (lv_sub hl [1, 0] rfl) hf
set_option maxHeartbeats 4000000 in
set_option maxRecDepth 100000 in
theorem j_X5_offerAll_53_2 {p : Program} {l : Launch} {e : Env} {s : State} {m : MethodId} {args : Array Value} {below : List Frame} {meth : Method} {c : Code} {dC : Nat → ClassId} {dI : Nat → Nat → Nat} {y : Nat → ClassId} {A : Nat → Prop} (C0 : Cx p s m args meth c cX5_offerAll 3 none wsX5_offerAll RX5 A dC dI y) (a : Nat → Nat) (K : ModelS → Prop) : ∀ (S : ModelS) (v2 : Int32) (H : Heap) (locs : List Loc) (ls : Array Slot), va_P (dC, dI) vwCl (mdW y a S) H → va_D A (mdW y a S) → va_S A s.heap H locs → lv_has ls 3 [(0, .ref (a 0)), (1, .int 2), (2, .int v2)] → wp_X5_offerAll_53_2 K S v2 → W p l e ({ frames := 3, cells := 0, slots := 0, locals := 68 } : Room) s m args below meth c H locs 0 0 (MQ below (va_Qv K (BW dC dI A (fun u => mdW y a u)) A) args s 0 0 A) (F0 m 53 ls []) := by
  obtain ⟨hx, hb, hr, hml, hown, hts, hlocks, hA, hK⟩ := id C0
  intro S v2 H locs ls hP hD hS hl hf
  obtain ⟨mI, mA, mL⟩ := S
  unfold wp_X5_offerAll_53_2 at hf
  refine lv_aload_n hx hb dX5_offerAll_53 rfl (lv_at hl 0 rfl) ?_
  refine lv_iload_n hx hb dX5_offerAll_54 rfl (lv_at hl 2 rfl) ?_
  refine lv_iload_n hx hb dX5_offerAll_55 rfl (lv_at hl 1 rfl) ?_
  refine k0v (As := [.int v2, .int 2]) (rest := []) ⟨hx, hb, hml, hown, hts⟩ (c_X5_make l dC dI y a H.size (mI, mA, mL) v2 2 _ hf) (cwV 2 hts gX5_offerAll_X5_make rfl rfl rfl (by decide +kernel) ⟨Nat.le_of_ble_eq_true rfl, Nat.le_of_ble_eq_true rfl⟩) hK hP hD (va_recv hK.1 hP (ci := 5) (q0 := 0) rfl rfl) hS hA rfl hl.1 rfl (Nat.le_of_ble_eq_true rfl) dX5_offerAll_56 ⟨Nat.zero_le _, Nat.zero_le _⟩ (fun u19 H locs hf hP hD hS => ?_)
  have hP : va_P (dC, dI) vwCl (mdW y a (u19.1, u19.2.1, u19.2.2)) H := hP
  have hD : va_D A (mdW y a (u19.1, u19.2.1, u19.2.2)) := hD
  refine lv_aload_n hx hb dX5_offerAll_59 rfl (lv_at hl 0 rfl) ?_
  refine lv_iload_n hx hb dX5_offerAll_60 rfl (lv_at hl 1 rfl) ?_
  refine k0v (As := [.int 2]) (rest := []) ⟨hx, hb, hml, hown, hts⟩ (c_X5_begin l dC dI y a H.size (u19.1, u19.2.1, u19.2.2) 2 _ hf) (cwV 1 hts gX5_offerAll_X5_begin rfl rfl rfl (by decide +kernel) ⟨Nat.le_of_ble_eq_true rfl, Nat.le_of_ble_eq_true rfl⟩) hK hP hD (va_recv hK.1 hP (ci := 5) (q0 := 0) rfl rfl) hS hA rfl hl.1 rfl (Nat.le_of_ble_eq_true rfl) dX5_offerAll_61 ⟨Nat.zero_le _, Nat.zero_le _⟩ (fun u20 H locs hf hP hD hS => ?_)
  have hP : va_P (dC, dI) vwCl (mdW y a (u20.1, u20.2.1, u20.2.2)) H := hP
  have hD : va_D A (mdW y a (u20.1, u20.2.1, u20.2.2)) := hD
  exact j_X5_offerAll_64_2 C0 a K (u20.1, u20.2.1, u20.2.2) H locs ls hP hD hS (lv_sub hl [0, 1] rfl) hf
set_option maxHeartbeats 4000000 in
set_option maxRecDepth 100000 in
theorem j_X5_offerAll_2_2 {p : Program} {l : Launch} {e : Env} {s : State} {m : MethodId} {args : Array Value} {below : List Frame} {meth : Method} {c : Code} {dC : Nat → ClassId} {dI : Nat → Nat → Nat} {y : Nat → ClassId} {A : Nat → Prop} (C0 : Cx p s m args meth c cX5_offerAll 3 none wsX5_offerAll RX5 A dC dI y) (a : Nat → Nat) (K : ModelS → Prop) : ∀ (S : ModelS) (H : Heap) (locs : List Loc) (ls : Array Slot), va_P (dC, dI) vwCl (mdW y a S) H → va_D A (mdW y a S) → va_S A s.heap H locs → lv_has ls 3 [(0, .ref (a 0)), (1, .int 2)] → wp_X5_offerAll_2_2 K S → W p l e ({ frames := 3, cells := 0, slots := 0, locals := 68 } : Room) s m args below meth c H locs 0 0 (MQ below (va_Qv K (BW dC dI A (fun u => mdW y a u)) A) args s 0 0 A) (F0 m 2 ls []) := by
  obtain ⟨hx, hb, hr, hml, hown, hts, hlocks, hA, hK⟩ := id C0
  have w9 := hts (Cond.fieldLink RX5 9 "SharedWireModel" "state" "[I") (List.mem_of_getElem? (i := 1) rfl)
  have w66 := hts (Cond.fieldLink RX5 66 "SharedWireModel" "at" "[I") (List.mem_of_getElem? (i := 4) rfl)
  have w69 := hts (Cond.fieldLink RX5 69 "SharedWireModel" "mine" "[I") (List.mem_of_getElem? (i := 2) rfl)
  have w72 := hts (Cond.fieldLink RX5 72 "SharedWireModel" "numbers" "[I") (List.mem_of_getElem? (i := 3) rfl)
  have hinX5 : ∀ w ∈ wsX50, w ∈ wsX5_offerAll := fun w h => List.mem_cons_of_mem _ (List.mem_append_right _ (h))
  intro S H locs ls hP hD hS hl hf
  obtain ⟨mI, mA, mL⟩ := S
  unfold wp_X5_offerAll_2_2 at hf
  refine lv_iload_n hx hb dX5_offerAll_2 rfl (lv_at hl 1 rfl) ?_
  refine lv_iconst (v := 4) hx hb dX5_offerAll_3 (by decide) ?_
  refine lv_icmp_ge (tgt := 70) hx hb dX5_offerAll_4 (by decide) (fun c9 => absurd c9 (by decide)) (fun _ => ?_)
  refine lv_aload_n hx hb dX5_offerAll_7 rfl (lv_at hl 0 rfl) ?_
  refine lv_iload_n hx hb dX5_offerAll_8 rfl (lv_at hl 1 rfl) ?_
  refine k0i (As := [.int 2]) (rest := []) ⟨hx, hb, hml, hown, hts⟩ (c_X5_offer l dC dI y a H.size (mI, mA, mL) 2 _ hf) (cwV 1 hts gX5_offerAll_X5_offer rfl rfl rfl (by decide +kernel) ⟨Nat.le_of_ble_eq_true rfl, Nat.le_of_ble_eq_true rfl⟩) hK hP hD (va_recv hK.1 hP (ci := 5) (q0 := 0) rfl rfl) hS hA rfl hl.1 rfl (Nat.le_of_ble_eq_true rfl) dX5_offerAll_9 ⟨Nat.zero_le _, Nat.zero_le _⟩ (fun r7 u8 H locs hf hP hD hS => ?_)
  obtain ⟨hf, e9⟩ := hf
  have e9 := e9.symm
  subst e9
  have hP : va_P (dC, dI) vwCl (mdW y a (mI, mA, mL)) H := hP
  have hD : va_D A (mdW y a (mI, mA, mL)) := hD
  refine lv_istore_n (lv' := [(2, .int r7), (0, .ref (a 0)), (1, .int 2)]) hx hb dX5_offerAll_12 rfl hl (by decide) rfl (fun ls hl => ?_)
  refine lv_aload_n hx hb dX5_offerAll_13 rfl (lv_at hl 1 rfl) ?_
  refine va_get (D := (dC, dI)) (ci := 5) (v := .ref (a 3)) (C := RX5) (T := TX5) (N := 35) hx hb hts hinX5 hown hK.1 hP 0 rfl rfl 3 (by decide) w9 (fun _ h9 => h9) rfl dX5_offerAll_14 ?_
  refine lv_iload_n hx hb dX5_offerAll_17 rfl (lv_at hl 2 rfl) ?_
  refine ar_ild (f := (mA 3)) (j := 2) hx hb hK.1 hP 1 0 rfl rfl (clamp_lit 2 rfl) (vin_lit 2 4 rfl rfl) dX5_offerAll_18 ?_
  refine lv_iconst (v := 1) hx hb dX5_offerAll_19 (by decide) ?_
  refine lv_icmp_ne (tgt := 64) hx hb dX5_offerAll_20 (by decide) (fun c9 => ?_) (fun c9 => ?_)
  · replace hf := hf.1 c9
    exact j_X5_offerAll_64_2 C0 a K (mI, mA, mL) H locs ls hP hD hS (lv_sub hl [1, 2] rfl) hf
  · replace hf := hf.2 c9
    refine lv_iload_n hx hb dX5_offerAll_23 rfl (lv_at hl 0 rfl) ?_
    refine lv_if_lt (tgt := 64) hx hb dX5_offerAll_24 (by decide) (fun c17 => ?_) (fun c17 => ?_)
    · replace hf := hf.1 c17
      exact j_X5_offerAll_64_2 C0 a K (mI, mA, mL) H locs ls hP hD hS (lv_sub hl [1, 2] rfl) hf
    · replace hf := hf.2 c17
      refine lv_aload_n hx hb dX5_offerAll_27 rfl (lv_at hl 1 rfl) ?_
      refine va_get (D := (dC, dI)) (ci := 5) (v := .ref (a 3)) (C := RX5) (T := TX5) (N := 35) hx hb hts hinX5 hown hK.1 hP 0 rfl rfl 3 (by decide) w9 (fun _ h9 => h9) rfl dX5_offerAll_28 ?_
      refine lv_iload_n hx hb dX5_offerAll_31 rfl (lv_at hl 2 rfl) ?_
      refine lv_iconst (v := 3) hx hb dX5_offerAll_32 (by decide) ?_
      refine mst_3 (f := (mA 3)) (x := 3) (j := 2) hx hb hK.1 hP hD hS rfl (clamp_lit 2 rfl) (vin_lit 2 4 rfl rfl) dX5_offerAll_33 (fun H locs hP hD hS => ?_)
      refine lv_aload_n hx hb dX5_offerAll_34 rfl (lv_at hl 1 rfl) ?_
      refine va_get (D := (dC, dI)) (ci := 5) (v := .ref (a 22)) (C := RX5) (T := TX5) (N := 35) hx hb hts hinX5 hown hK.1 hP 0 rfl rfl 22 (by decide) w69 (fun _ h9 => h9) rfl dX5_offerAll_35 ?_
      refine lv_iload_n hx hb dX5_offerAll_38 rfl (lv_at hl 2 rfl) ?_
      refine lv_aload_n hx hb dX5_offerAll_39 rfl (lv_at hl 1 rfl) ?_
      refine va_get (D := (dC, dI)) (ci := 5) (v := .ref (a 23)) (C := RX5) (T := TX5) (N := 35) hx hb hts hinX5 hown hK.1 hP 0 rfl rfl 23 (by decide) w72 (fun _ h9 => h9) rfl dX5_offerAll_40 ?_
      refine lv_iload_n hx hb dX5_offerAll_43 rfl (lv_at hl 0 rfl) ?_
      have g18 := hf.1
      replace hf := hf.2
      refine ar_ild (f := (mA 23)) (j := r7.toNatClampNeg) hx hb hK.1 hP 21 0 rfl rfl rfl g18 dX5_offerAll_44 ?_
      refine mst_22 (f := (mA 22)) (x := (mA 23) r7.toNatClampNeg) (j := 2) hx hb hK.1 hP hD hS rfl (clamp_lit 2 rfl) (vin_lit 2 4 rfl rfl) dX5_offerAll_45 (fun H locs hP hD hS => ?_)
      refine lv_aload_n hx hb dX5_offerAll_46 rfl (lv_at hl 1 rfl) ?_
      refine va_get (D := (dC, dI)) (ci := 5) (v := .ref (a 21)) (C := RX5) (T := TX5) (N := 35) hx hb hts hinX5 hown hK.1 hP 0 rfl rfl 21 (by decide) w66 (fun _ h9 => h9) rfl dX5_offerAll_47 ?_
      refine lv_iload_n hx hb dX5_offerAll_50 rfl (lv_at hl 2 rfl) ?_
      refine lv_iconst (v := 0) hx hb dX5_offerAll_51 (by decide) ?_
      refine mst_21 (f := (mA 21)) (x := 0) (j := 2) hx hb hK.1 hP hD hS rfl (clamp_lit 2 rfl) (vin_lit 2 4 rfl rfl) dX5_offerAll_52 (fun H locs hP hD hS => ?_)
      exact j_X5_offerAll_53_2 C0 a K (mI, va_up (va_up (va_up mA 3 (upd (mA 3) 2 3)) 22 (upd (mA 22) 2 ((mA 23) r7.toNatClampNeg))) 21 (upd (mA 21) 2 0), mL) r7 H locs ls hP hD hS (lv_sub hl [1, 2, 0] rfl) hf
set_option maxHeartbeats 4000000 in
set_option maxRecDepth 100000 in
theorem j_X5_offerAll_64_1 {p : Program} {l : Launch} {e : Env} {s : State} {m : MethodId} {args : Array Value} {below : List Frame} {meth : Method} {c : Code} {dC : Nat → ClassId} {dI : Nat → Nat → Nat} {y : Nat → ClassId} {A : Nat → Prop} (C0 : Cx p s m args meth c cX5_offerAll 3 none wsX5_offerAll RX5 A dC dI y) (a : Nat → Nat) (K : ModelS → Prop) : ∀ (S : ModelS) (H : Heap) (locs : List Loc) (ls : Array Slot), va_P (dC, dI) vwCl (mdW y a S) H → va_D A (mdW y a S) → va_S A s.heap H locs → lv_has ls 3 [(0, .ref (a 0)), (1, .int 1)] → wp_X5_offerAll_64_1 K S → W p l e ({ frames := 3, cells := 0, slots := 0, locals := 68 } : Room) s m args below meth c H locs 0 0 (MQ below (va_Qv K (BW dC dI A (fun u => mdW y a u)) A) args s 0 0 A) (F0 m 64 ls []) := by
  obtain ⟨hx, hb, hr, hml, hown, hts, hlocks, hA, hK⟩ := id C0
  intro S H locs ls hP hD hS hl hf
  obtain ⟨mI, mA, mL⟩ := S
  unfold wp_X5_offerAll_64_1 at hf
  refine lv_iinc (v := 2) (lv' := [(1, .int 2), (0, .ref (a 0))]) hx hb dX5_offerAll_64 hl (k := 1) rfl (by decide) (by decide) rfl (fun ls hl => ?_)
  refine lv_goto (tgt := 2) hx hb dX5_offerAll_67 (by decide) ?_
  exact j_X5_offerAll_2_2 C0 a K (mI, mA, mL) H locs ls hP hD hS (lv_sub hl [1, 0] rfl) hf
set_option maxHeartbeats 4000000 in
set_option maxRecDepth 100000 in
theorem j_X5_offerAll_53_1 {p : Program} {l : Launch} {e : Env} {s : State} {m : MethodId} {args : Array Value} {below : List Frame} {meth : Method} {c : Code} {dC : Nat → ClassId} {dI : Nat → Nat → Nat} {y : Nat → ClassId} {A : Nat → Prop} (C0 : Cx p s m args meth c cX5_offerAll 3 none wsX5_offerAll RX5 A dC dI y) (a : Nat → Nat) (K : ModelS → Prop) : ∀ (S : ModelS) (v2 : Int32) (H : Heap) (locs : List Loc) (ls : Array Slot), va_P (dC, dI) vwCl (mdW y a S) H → va_D A (mdW y a S) → va_S A s.heap H locs → lv_has ls 3 [(0, .ref (a 0)), (1, .int 1), (2, .int v2)] → wp_X5_offerAll_53_1 K S v2 → W p l e ({ frames := 3, cells := 0, slots := 0, locals := 68 } : Room) s m args below meth c H locs 0 0 (MQ below (va_Qv K (BW dC dI A (fun u => mdW y a u)) A) args s 0 0 A) (F0 m 53 ls []) := by
  obtain ⟨hx, hb, hr, hml, hown, hts, hlocks, hA, hK⟩ := id C0
  intro S v2 H locs ls hP hD hS hl hf
  obtain ⟨mI, mA, mL⟩ := S
  unfold wp_X5_offerAll_53_1 at hf
  refine lv_aload_n hx hb dX5_offerAll_53 rfl (lv_at hl 0 rfl) ?_
  refine lv_iload_n hx hb dX5_offerAll_54 rfl (lv_at hl 2 rfl) ?_
  refine lv_iload_n hx hb dX5_offerAll_55 rfl (lv_at hl 1 rfl) ?_
  refine k0v (As := [.int v2, .int 1]) (rest := []) ⟨hx, hb, hml, hown, hts⟩ (c_X5_make l dC dI y a H.size (mI, mA, mL) v2 1 _ hf) (cwV 2 hts gX5_offerAll_X5_make rfl rfl rfl (by decide +kernel) ⟨Nat.le_of_ble_eq_true rfl, Nat.le_of_ble_eq_true rfl⟩) hK hP hD (va_recv hK.1 hP (ci := 5) (q0 := 0) rfl rfl) hS hA rfl hl.1 rfl (Nat.le_of_ble_eq_true rfl) dX5_offerAll_56 ⟨Nat.zero_le _, Nat.zero_le _⟩ (fun u23 H locs hf hP hD hS => ?_)
  have hP : va_P (dC, dI) vwCl (mdW y a (u23.1, u23.2.1, u23.2.2)) H := hP
  have hD : va_D A (mdW y a (u23.1, u23.2.1, u23.2.2)) := hD
  refine lv_aload_n hx hb dX5_offerAll_59 rfl (lv_at hl 0 rfl) ?_
  refine lv_iload_n hx hb dX5_offerAll_60 rfl (lv_at hl 1 rfl) ?_
  refine k0v (As := [.int 1]) (rest := []) ⟨hx, hb, hml, hown, hts⟩ (c_X5_begin l dC dI y a H.size (u23.1, u23.2.1, u23.2.2) 1 _ hf) (cwV 1 hts gX5_offerAll_X5_begin rfl rfl rfl (by decide +kernel) ⟨Nat.le_of_ble_eq_true rfl, Nat.le_of_ble_eq_true rfl⟩) hK hP hD (va_recv hK.1 hP (ci := 5) (q0 := 0) rfl rfl) hS hA rfl hl.1 rfl (Nat.le_of_ble_eq_true rfl) dX5_offerAll_61 ⟨Nat.zero_le _, Nat.zero_le _⟩ (fun u24 H locs hf hP hD hS => ?_)
  have hP : va_P (dC, dI) vwCl (mdW y a (u24.1, u24.2.1, u24.2.2)) H := hP
  have hD : va_D A (mdW y a (u24.1, u24.2.1, u24.2.2)) := hD
  exact j_X5_offerAll_64_1 C0 a K (u24.1, u24.2.1, u24.2.2) H locs ls hP hD hS (lv_sub hl [0, 1] rfl) hf
set_option maxHeartbeats 4000000 in
set_option maxRecDepth 100000 in
theorem j_X5_offerAll_2_1 {p : Program} {l : Launch} {e : Env} {s : State} {m : MethodId} {args : Array Value} {below : List Frame} {meth : Method} {c : Code} {dC : Nat → ClassId} {dI : Nat → Nat → Nat} {y : Nat → ClassId} {A : Nat → Prop} (C0 : Cx p s m args meth c cX5_offerAll 3 none wsX5_offerAll RX5 A dC dI y) (a : Nat → Nat) (K : ModelS → Prop) : ∀ (S : ModelS) (H : Heap) (locs : List Loc) (ls : Array Slot), va_P (dC, dI) vwCl (mdW y a S) H → va_D A (mdW y a S) → va_S A s.heap H locs → lv_has ls 3 [(0, .ref (a 0)), (1, .int 1)] → wp_X5_offerAll_2_1 K S → W p l e ({ frames := 3, cells := 0, slots := 0, locals := 68 } : Room) s m args below meth c H locs 0 0 (MQ below (va_Qv K (BW dC dI A (fun u => mdW y a u)) A) args s 0 0 A) (F0 m 2 ls []) := by
  obtain ⟨hx, hb, hr, hml, hown, hts, hlocks, hA, hK⟩ := id C0
  have w9 := hts (Cond.fieldLink RX5 9 "SharedWireModel" "state" "[I") (List.mem_of_getElem? (i := 1) rfl)
  have w66 := hts (Cond.fieldLink RX5 66 "SharedWireModel" "at" "[I") (List.mem_of_getElem? (i := 4) rfl)
  have w69 := hts (Cond.fieldLink RX5 69 "SharedWireModel" "mine" "[I") (List.mem_of_getElem? (i := 2) rfl)
  have w72 := hts (Cond.fieldLink RX5 72 "SharedWireModel" "numbers" "[I") (List.mem_of_getElem? (i := 3) rfl)
  have hinX5 : ∀ w ∈ wsX50, w ∈ wsX5_offerAll := fun w h => List.mem_cons_of_mem _ (List.mem_append_right _ (h))
  intro S H locs ls hP hD hS hl hf
  obtain ⟨mI, mA, mL⟩ := S
  unfold wp_X5_offerAll_2_1 at hf
  refine lv_iload_n hx hb dX5_offerAll_2 rfl (lv_at hl 1 rfl) ?_
  refine lv_iconst (v := 4) hx hb dX5_offerAll_3 (by decide) ?_
  refine lv_icmp_ge (tgt := 70) hx hb dX5_offerAll_4 (by decide) (fun c9 => absurd c9 (by decide)) (fun _ => ?_)
  refine lv_aload_n hx hb dX5_offerAll_7 rfl (lv_at hl 0 rfl) ?_
  refine lv_iload_n hx hb dX5_offerAll_8 rfl (lv_at hl 1 rfl) ?_
  refine k0i (As := [.int 1]) (rest := []) ⟨hx, hb, hml, hown, hts⟩ (c_X5_offer l dC dI y a H.size (mI, mA, mL) 1 _ hf) (cwV 1 hts gX5_offerAll_X5_offer rfl rfl rfl (by decide +kernel) ⟨Nat.le_of_ble_eq_true rfl, Nat.le_of_ble_eq_true rfl⟩) hK hP hD (va_recv hK.1 hP (ci := 5) (q0 := 0) rfl rfl) hS hA rfl hl.1 rfl (Nat.le_of_ble_eq_true rfl) dX5_offerAll_9 ⟨Nat.zero_le _, Nat.zero_le _⟩ (fun r4 u5 H locs hf hP hD hS => ?_)
  obtain ⟨hf, e9⟩ := hf
  have e9 := e9.symm
  subst e9
  have hP : va_P (dC, dI) vwCl (mdW y a (mI, mA, mL)) H := hP
  have hD : va_D A (mdW y a (mI, mA, mL)) := hD
  refine lv_istore_n (lv' := [(2, .int r4), (0, .ref (a 0)), (1, .int 1)]) hx hb dX5_offerAll_12 rfl hl (by decide) rfl (fun ls hl => ?_)
  refine lv_aload_n hx hb dX5_offerAll_13 rfl (lv_at hl 1 rfl) ?_
  refine va_get (D := (dC, dI)) (ci := 5) (v := .ref (a 3)) (C := RX5) (T := TX5) (N := 35) hx hb hts hinX5 hown hK.1 hP 0 rfl rfl 3 (by decide) w9 (fun _ h9 => h9) rfl dX5_offerAll_14 ?_
  refine lv_iload_n hx hb dX5_offerAll_17 rfl (lv_at hl 2 rfl) ?_
  refine ar_ild (f := (mA 3)) (j := 1) hx hb hK.1 hP 1 0 rfl rfl (clamp_lit 1 rfl) (vin_lit 1 4 rfl rfl) dX5_offerAll_18 ?_
  refine lv_iconst (v := 1) hx hb dX5_offerAll_19 (by decide) ?_
  refine lv_icmp_ne (tgt := 64) hx hb dX5_offerAll_20 (by decide) (fun c6 => ?_) (fun c6 => ?_)
  · replace hf := hf.1 c6
    exact j_X5_offerAll_64_1 C0 a K (mI, mA, mL) H locs ls hP hD hS (lv_sub hl [1, 2] rfl) hf
  · replace hf := hf.2 c6
    refine lv_iload_n hx hb dX5_offerAll_23 rfl (lv_at hl 0 rfl) ?_
    refine lv_if_lt (tgt := 64) hx hb dX5_offerAll_24 (by decide) (fun c21 => ?_) (fun c21 => ?_)
    · replace hf := hf.1 c21
      exact j_X5_offerAll_64_1 C0 a K (mI, mA, mL) H locs ls hP hD hS (lv_sub hl [1, 2] rfl) hf
    · replace hf := hf.2 c21
      refine lv_aload_n hx hb dX5_offerAll_27 rfl (lv_at hl 1 rfl) ?_
      refine va_get (D := (dC, dI)) (ci := 5) (v := .ref (a 3)) (C := RX5) (T := TX5) (N := 35) hx hb hts hinX5 hown hK.1 hP 0 rfl rfl 3 (by decide) w9 (fun _ h9 => h9) rfl dX5_offerAll_28 ?_
      refine lv_iload_n hx hb dX5_offerAll_31 rfl (lv_at hl 2 rfl) ?_
      refine lv_iconst (v := 3) hx hb dX5_offerAll_32 (by decide) ?_
      refine mst_3 (f := (mA 3)) (x := 3) (j := 1) hx hb hK.1 hP hD hS rfl (clamp_lit 1 rfl) (vin_lit 1 4 rfl rfl) dX5_offerAll_33 (fun H locs hP hD hS => ?_)
      refine lv_aload_n hx hb dX5_offerAll_34 rfl (lv_at hl 1 rfl) ?_
      refine va_get (D := (dC, dI)) (ci := 5) (v := .ref (a 22)) (C := RX5) (T := TX5) (N := 35) hx hb hts hinX5 hown hK.1 hP 0 rfl rfl 22 (by decide) w69 (fun _ h9 => h9) rfl dX5_offerAll_35 ?_
      refine lv_iload_n hx hb dX5_offerAll_38 rfl (lv_at hl 2 rfl) ?_
      refine lv_aload_n hx hb dX5_offerAll_39 rfl (lv_at hl 1 rfl) ?_
      refine va_get (D := (dC, dI)) (ci := 5) (v := .ref (a 23)) (C := RX5) (T := TX5) (N := 35) hx hb hts hinX5 hown hK.1 hP 0 rfl rfl 23 (by decide) w72 (fun _ h9 => h9) rfl dX5_offerAll_40 ?_
      refine lv_iload_n hx hb dX5_offerAll_43 rfl (lv_at hl 0 rfl) ?_
      have g22 := hf.1
      replace hf := hf.2
      refine ar_ild (f := (mA 23)) (j := r4.toNatClampNeg) hx hb hK.1 hP 21 0 rfl rfl rfl g22 dX5_offerAll_44 ?_
      refine mst_22 (f := (mA 22)) (x := (mA 23) r4.toNatClampNeg) (j := 1) hx hb hK.1 hP hD hS rfl (clamp_lit 1 rfl) (vin_lit 1 4 rfl rfl) dX5_offerAll_45 (fun H locs hP hD hS => ?_)
      refine lv_aload_n hx hb dX5_offerAll_46 rfl (lv_at hl 1 rfl) ?_
      refine va_get (D := (dC, dI)) (ci := 5) (v := .ref (a 21)) (C := RX5) (T := TX5) (N := 35) hx hb hts hinX5 hown hK.1 hP 0 rfl rfl 21 (by decide) w66 (fun _ h9 => h9) rfl dX5_offerAll_47 ?_
      refine lv_iload_n hx hb dX5_offerAll_50 rfl (lv_at hl 2 rfl) ?_
      refine lv_iconst (v := 0) hx hb dX5_offerAll_51 (by decide) ?_
      refine mst_21 (f := (mA 21)) (x := 0) (j := 1) hx hb hK.1 hP hD hS rfl (clamp_lit 1 rfl) (vin_lit 1 4 rfl rfl) dX5_offerAll_52 (fun H locs hP hD hS => ?_)
      exact j_X5_offerAll_53_1 C0 a K (mI, va_up (va_up (va_up mA 3 (upd (mA 3) 1 3)) 22 (upd (mA 22) 1 ((mA 23) r4.toNatClampNeg))) 21 (upd (mA 21) 1 0), mL) r4 H locs ls hP hD hS (lv_sub hl [1, 2, 0] rfl) hf
set_option maxHeartbeats 4000000 in
set_option maxRecDepth 100000 in
theorem j_X5_offerAll_64_0 {p : Program} {l : Launch} {e : Env} {s : State} {m : MethodId} {args : Array Value} {below : List Frame} {meth : Method} {c : Code} {dC : Nat → ClassId} {dI : Nat → Nat → Nat} {y : Nat → ClassId} {A : Nat → Prop} (C0 : Cx p s m args meth c cX5_offerAll 3 none wsX5_offerAll RX5 A dC dI y) (a : Nat → Nat) (K : ModelS → Prop) : ∀ (S : ModelS) (H : Heap) (locs : List Loc) (ls : Array Slot), va_P (dC, dI) vwCl (mdW y a S) H → va_D A (mdW y a S) → va_S A s.heap H locs → lv_has ls 3 [(0, .ref (a 0)), (1, .int 0)] → wp_X5_offerAll_64_0 K S → W p l e ({ frames := 3, cells := 0, slots := 0, locals := 68 } : Room) s m args below meth c H locs 0 0 (MQ below (va_Qv K (BW dC dI A (fun u => mdW y a u)) A) args s 0 0 A) (F0 m 64 ls []) := by
  obtain ⟨hx, hb, hr, hml, hown, hts, hlocks, hA, hK⟩ := id C0
  intro S H locs ls hP hD hS hl hf
  obtain ⟨mI, mA, mL⟩ := S
  unfold wp_X5_offerAll_64_0 at hf
  refine lv_iinc (v := 1) (lv' := [(1, .int 1), (0, .ref (a 0))]) hx hb dX5_offerAll_64 hl (k := 1) rfl (by decide) (by decide) rfl (fun ls hl => ?_)
  refine lv_goto (tgt := 2) hx hb dX5_offerAll_67 (by decide) ?_
  exact j_X5_offerAll_2_1 C0 a K (mI, mA, mL) H locs ls hP hD hS (lv_sub hl [1, 0] rfl) hf
set_option maxHeartbeats 4000000 in
set_option maxRecDepth 100000 in
theorem j_X5_offerAll_53_0 {p : Program} {l : Launch} {e : Env} {s : State} {m : MethodId} {args : Array Value} {below : List Frame} {meth : Method} {c : Code} {dC : Nat → ClassId} {dI : Nat → Nat → Nat} {y : Nat → ClassId} {A : Nat → Prop} (C0 : Cx p s m args meth c cX5_offerAll 3 none wsX5_offerAll RX5 A dC dI y) (a : Nat → Nat) (K : ModelS → Prop) : ∀ (S : ModelS) (v2 : Int32) (H : Heap) (locs : List Loc) (ls : Array Slot), va_P (dC, dI) vwCl (mdW y a S) H → va_D A (mdW y a S) → va_S A s.heap H locs → lv_has ls 3 [(0, .ref (a 0)), (1, .int 0), (2, .int v2)] → wp_X5_offerAll_53_0 K S v2 → W p l e ({ frames := 3, cells := 0, slots := 0, locals := 68 } : Room) s m args below meth c H locs 0 0 (MQ below (va_Qv K (BW dC dI A (fun u => mdW y a u)) A) args s 0 0 A) (F0 m 53 ls []) := by
  obtain ⟨hx, hb, hr, hml, hown, hts, hlocks, hA, hK⟩ := id C0
  intro S v2 H locs ls hP hD hS hl hf
  obtain ⟨mI, mA, mL⟩ := S
  unfold wp_X5_offerAll_53_0 at hf
  refine lv_aload_n hx hb dX5_offerAll_53 rfl (lv_at hl 0 rfl) ?_
  refine lv_iload_n hx hb dX5_offerAll_54 rfl (lv_at hl 2 rfl) ?_
  refine lv_iload_n hx hb dX5_offerAll_55 rfl (lv_at hl 1 rfl) ?_
  refine k0v (As := [.int v2, .int 0]) (rest := []) ⟨hx, hb, hml, hown, hts⟩ (c_X5_make l dC dI y a H.size (mI, mA, mL) v2 0 _ hf) (cwV 2 hts gX5_offerAll_X5_make rfl rfl rfl (by decide +kernel) ⟨Nat.le_of_ble_eq_true rfl, Nat.le_of_ble_eq_true rfl⟩) hK hP hD (va_recv hK.1 hP (ci := 5) (q0 := 0) rfl rfl) hS hA rfl hl.1 rfl (Nat.le_of_ble_eq_true rfl) dX5_offerAll_56 ⟨Nat.zero_le _, Nat.zero_le _⟩ (fun u27 H locs hf hP hD hS => ?_)
  have hP : va_P (dC, dI) vwCl (mdW y a (u27.1, u27.2.1, u27.2.2)) H := hP
  have hD : va_D A (mdW y a (u27.1, u27.2.1, u27.2.2)) := hD
  refine lv_aload_n hx hb dX5_offerAll_59 rfl (lv_at hl 0 rfl) ?_
  refine lv_iload_n hx hb dX5_offerAll_60 rfl (lv_at hl 1 rfl) ?_
  refine k0v (As := [.int 0]) (rest := []) ⟨hx, hb, hml, hown, hts⟩ (c_X5_begin l dC dI y a H.size (u27.1, u27.2.1, u27.2.2) 0 _ hf) (cwV 1 hts gX5_offerAll_X5_begin rfl rfl rfl (by decide +kernel) ⟨Nat.le_of_ble_eq_true rfl, Nat.le_of_ble_eq_true rfl⟩) hK hP hD (va_recv hK.1 hP (ci := 5) (q0 := 0) rfl rfl) hS hA rfl hl.1 rfl (Nat.le_of_ble_eq_true rfl) dX5_offerAll_61 ⟨Nat.zero_le _, Nat.zero_le _⟩ (fun u28 H locs hf hP hD hS => ?_)
  have hP : va_P (dC, dI) vwCl (mdW y a (u28.1, u28.2.1, u28.2.2)) H := hP
  have hD : va_D A (mdW y a (u28.1, u28.2.1, u28.2.2)) := hD
  exact j_X5_offerAll_64_0 C0 a K (u28.1, u28.2.1, u28.2.2) H locs ls hP hD hS (lv_sub hl [0, 1] rfl) hf
set_option maxHeartbeats 4000000 in
set_option maxRecDepth 100000 in
theorem j_X5_offerAll_2_0 {p : Program} {l : Launch} {e : Env} {s : State} {m : MethodId} {args : Array Value} {below : List Frame} {meth : Method} {c : Code} {dC : Nat → ClassId} {dI : Nat → Nat → Nat} {y : Nat → ClassId} {A : Nat → Prop} (C0 : Cx p s m args meth c cX5_offerAll 3 none wsX5_offerAll RX5 A dC dI y) (a : Nat → Nat) (K : ModelS → Prop) : ∀ (S : ModelS) (H : Heap) (locs : List Loc) (ls : Array Slot), va_P (dC, dI) vwCl (mdW y a S) H → va_D A (mdW y a S) → va_S A s.heap H locs → lv_has ls 3 [(0, .ref (a 0)), (1, .int 0)] → wp_X5_offerAll_2_0 K S → W p l e ({ frames := 3, cells := 0, slots := 0, locals := 68 } : Room) s m args below meth c H locs 0 0 (MQ below (va_Qv K (BW dC dI A (fun u => mdW y a u)) A) args s 0 0 A) (F0 m 2 ls []) := by
  obtain ⟨hx, hb, hr, hml, hown, hts, hlocks, hA, hK⟩ := id C0
  have w9 := hts (Cond.fieldLink RX5 9 "SharedWireModel" "state" "[I") (List.mem_of_getElem? (i := 1) rfl)
  have w66 := hts (Cond.fieldLink RX5 66 "SharedWireModel" "at" "[I") (List.mem_of_getElem? (i := 4) rfl)
  have w69 := hts (Cond.fieldLink RX5 69 "SharedWireModel" "mine" "[I") (List.mem_of_getElem? (i := 2) rfl)
  have w72 := hts (Cond.fieldLink RX5 72 "SharedWireModel" "numbers" "[I") (List.mem_of_getElem? (i := 3) rfl)
  have hinX5 : ∀ w ∈ wsX50, w ∈ wsX5_offerAll := fun w h => List.mem_cons_of_mem _ (List.mem_append_right _ (h))
  intro S H locs ls hP hD hS hl hf
  obtain ⟨mI, mA, mL⟩ := S
  unfold wp_X5_offerAll_2_0 at hf
  refine lv_iload_n hx hb dX5_offerAll_2 rfl (lv_at hl 1 rfl) ?_
  refine lv_iconst (v := 4) hx hb dX5_offerAll_3 (by decide) ?_
  refine lv_icmp_ge (tgt := 70) hx hb dX5_offerAll_4 (by decide) (fun c9 => absurd c9 (by decide)) (fun _ => ?_)
  refine lv_aload_n hx hb dX5_offerAll_7 rfl (lv_at hl 0 rfl) ?_
  refine lv_iload_n hx hb dX5_offerAll_8 rfl (lv_at hl 1 rfl) ?_
  refine k0i (As := [.int 0]) (rest := []) ⟨hx, hb, hml, hown, hts⟩ (c_X5_offer l dC dI y a H.size (mI, mA, mL) 0 _ hf) (cwV 1 hts gX5_offerAll_X5_offer rfl rfl rfl (by decide +kernel) ⟨Nat.le_of_ble_eq_true rfl, Nat.le_of_ble_eq_true rfl⟩) hK hP hD (va_recv hK.1 hP (ci := 5) (q0 := 0) rfl rfl) hS hA rfl hl.1 rfl (Nat.le_of_ble_eq_true rfl) dX5_offerAll_9 ⟨Nat.zero_le _, Nat.zero_le _⟩ (fun r1 u2 H locs hf hP hD hS => ?_)
  obtain ⟨hf, e9⟩ := hf
  have e9 := e9.symm
  subst e9
  have hP : va_P (dC, dI) vwCl (mdW y a (mI, mA, mL)) H := hP
  have hD : va_D A (mdW y a (mI, mA, mL)) := hD
  refine lv_istore_n (lv' := [(2, .int r1), (0, .ref (a 0)), (1, .int 0)]) hx hb dX5_offerAll_12 rfl hl (by decide) rfl (fun ls hl => ?_)
  refine lv_aload_n hx hb dX5_offerAll_13 rfl (lv_at hl 1 rfl) ?_
  refine va_get (D := (dC, dI)) (ci := 5) (v := .ref (a 3)) (C := RX5) (T := TX5) (N := 35) hx hb hts hinX5 hown hK.1 hP 0 rfl rfl 3 (by decide) w9 (fun _ h9 => h9) rfl dX5_offerAll_14 ?_
  refine lv_iload_n hx hb dX5_offerAll_17 rfl (lv_at hl 2 rfl) ?_
  refine ar_ild (f := (mA 3)) (j := 0) hx hb hK.1 hP 1 0 rfl rfl (clamp_lit 0 rfl) (vin_lit 0 4 rfl rfl) dX5_offerAll_18 ?_
  refine lv_iconst (v := 1) hx hb dX5_offerAll_19 (by decide) ?_
  refine lv_icmp_ne (tgt := 64) hx hb dX5_offerAll_20 (by decide) (fun c3 => ?_) (fun c3 => ?_)
  · replace hf := hf.1 c3
    exact j_X5_offerAll_64_0 C0 a K (mI, mA, mL) H locs ls hP hD hS (lv_sub hl [1, 2] rfl) hf
  · replace hf := hf.2 c3
    refine lv_iload_n hx hb dX5_offerAll_23 rfl (lv_at hl 0 rfl) ?_
    refine lv_if_lt (tgt := 64) hx hb dX5_offerAll_24 (by decide) (fun c25 => ?_) (fun c25 => ?_)
    · replace hf := hf.1 c25
      exact j_X5_offerAll_64_0 C0 a K (mI, mA, mL) H locs ls hP hD hS (lv_sub hl [1, 2] rfl) hf
    · replace hf := hf.2 c25
      refine lv_aload_n hx hb dX5_offerAll_27 rfl (lv_at hl 1 rfl) ?_
      refine va_get (D := (dC, dI)) (ci := 5) (v := .ref (a 3)) (C := RX5) (T := TX5) (N := 35) hx hb hts hinX5 hown hK.1 hP 0 rfl rfl 3 (by decide) w9 (fun _ h9 => h9) rfl dX5_offerAll_28 ?_
      refine lv_iload_n hx hb dX5_offerAll_31 rfl (lv_at hl 2 rfl) ?_
      refine lv_iconst (v := 3) hx hb dX5_offerAll_32 (by decide) ?_
      refine mst_3 (f := (mA 3)) (x := 3) (j := 0) hx hb hK.1 hP hD hS rfl (clamp_lit 0 rfl) (vin_lit 0 4 rfl rfl) dX5_offerAll_33 (fun H locs hP hD hS => ?_)
      refine lv_aload_n hx hb dX5_offerAll_34 rfl (lv_at hl 1 rfl) ?_
      refine va_get (D := (dC, dI)) (ci := 5) (v := .ref (a 22)) (C := RX5) (T := TX5) (N := 35) hx hb hts hinX5 hown hK.1 hP 0 rfl rfl 22 (by decide) w69 (fun _ h9 => h9) rfl dX5_offerAll_35 ?_
      refine lv_iload_n hx hb dX5_offerAll_38 rfl (lv_at hl 2 rfl) ?_
      refine lv_aload_n hx hb dX5_offerAll_39 rfl (lv_at hl 1 rfl) ?_
      refine va_get (D := (dC, dI)) (ci := 5) (v := .ref (a 23)) (C := RX5) (T := TX5) (N := 35) hx hb hts hinX5 hown hK.1 hP 0 rfl rfl 23 (by decide) w72 (fun _ h9 => h9) rfl dX5_offerAll_40 ?_
      refine lv_iload_n hx hb dX5_offerAll_43 rfl (lv_at hl 0 rfl) ?_
      have g26 := hf.1
      replace hf := hf.2
      refine ar_ild (f := (mA 23)) (j := r1.toNatClampNeg) hx hb hK.1 hP 21 0 rfl rfl rfl g26 dX5_offerAll_44 ?_
      refine mst_22 (f := (mA 22)) (x := (mA 23) r1.toNatClampNeg) (j := 0) hx hb hK.1 hP hD hS rfl (clamp_lit 0 rfl) (vin_lit 0 4 rfl rfl) dX5_offerAll_45 (fun H locs hP hD hS => ?_)
      refine lv_aload_n hx hb dX5_offerAll_46 rfl (lv_at hl 1 rfl) ?_
      refine va_get (D := (dC, dI)) (ci := 5) (v := .ref (a 21)) (C := RX5) (T := TX5) (N := 35) hx hb hts hinX5 hown hK.1 hP 0 rfl rfl 21 (by decide) w66 (fun _ h9 => h9) rfl dX5_offerAll_47 ?_
      refine lv_iload_n hx hb dX5_offerAll_50 rfl (lv_at hl 2 rfl) ?_
      refine lv_iconst (v := 0) hx hb dX5_offerAll_51 (by decide) ?_
      refine mst_21 (f := (mA 21)) (x := 0) (j := 0) hx hb hK.1 hP hD hS rfl (clamp_lit 0 rfl) (vin_lit 0 4 rfl rfl) dX5_offerAll_52 (fun H locs hP hD hS => ?_)
      exact j_X5_offerAll_53_0 C0 a K (mI, va_up (va_up (va_up mA 3 (upd (mA 3) 0 3)) 22 (upd (mA 22) 0 ((mA 23) r1.toNatClampNeg))) 21 (upd (mA 21) 0 0), mL) r1 H locs ls hP hD hS (lv_sub hl [1, 2, 0] rfl) hf
set_option maxHeartbeats 4000000 in
set_option maxRecDepth 100000 in
theorem c_X5_offerAll (l : Launch) (dC : Nat → ClassId) (dI : Nat → Nat → Nat) (y : Nat → ClassId) (a : Nat → Nat) (sz : Nat) (S : ModelS) (K : ModelS → Prop) (hf : wp_X5_offerAll S K) : MV l yX5_offerAll wsX5_offerAll { frames := 3, cells := 0, slots := 0, locals := 68 } dC dI y [.ref (a 0)] (mdW y a S) sz (fun u => mdW y a u) K := by
  refine Met.ofW (cc := cX5_offerAll) (maxL := 3) (ret := none) (by decide) rfl ?_
  intro p e s m args below meth c s₁ B hml hv
  obtain ⟨rfl, hsz, hP, hK, hD0⟩ := hv
  have hx := B.exec
  have hb := B.bytes
  have hr := B.returns
  have hts := atoms_spec (ws := wsX5_offerAll) B.pre
  have hown : s.vm.findClass RX5 = some m.cls := findClass_of_methodNamed B.named
  have hlocks := B.notSynchronized
  subst hsz
  have hD := hD0.self (sz := s.heap.size)
  generalize hAe : va_A (mdW y a S) s.heap.size = A at hD ⊢
  have hA : ∀ q : Nat, s.heap.size ≤ q → A q := fun q h => by rw [← hAe]; exact Or.inr h
  have hS : va_S A s.heap s.heap [] := va_S.rf
  have C0 : Cx p s m [.ref (a 0)].toArray meth c cX5_offerAll 3 none wsX5_offerAll RX5 A dC dI y := ⟨hx, hb, hr, hml, hown, hts, hlocks, hA, hK⟩
  have hl := lv_entry ([.ref (a 0)]) (n := 3) (Nat.le_of_ble_eq_true rfl)
  rw [lg_entry_eq]
  generalize (lg_sl ([.ref (a 0)]) ++ List.replicate (3 - (lg_sl ([.ref (a 0)])).length) Slot.unset).toArray = ls at hl ⊢
  have hl : lv_has ls 3 [(0, .ref (a 0))] := hl
  obtain ⟨mI, mA, mL⟩ := S
  clear hAe hD0
  generalize hL0 : ([] : List Loc) = locs at hS ⊢
  unfold wp_X5_offerAll at hf
  refine lv_iconst (v := 0) hx hb dX5_offerAll_0 (by decide) ?_
  refine lv_istore_n (lv' := [(1, .int 0), (0, .ref (a 0))]) hx hb dX5_offerAll_1 rfl hl (by decide) rfl (fun ls hl => ?_)
  exact j_X5_offerAll_2_0 C0 a K (mI, mA, mL) s.heap locs ls hP hD hS (lv_sub hl [1, 0] rfl) hf

def wp_X5_saw_119 (K : Int32 → ModelS → Prop) : ModelS → Prop := fun (mI, mA, mL) => K 4 (mI, mA, mL)
def wp_X5_saw_100 (K : Int32 → ModelS → Prop) : ModelS → Int32 → Int32 → Int32 → Int32 → Prop := fun (mI, mA, mL) v1 v3 v4 k0 => ((v4 = 0 → wp_X5_saw_119 K (mI, mA, mL)) ∧ (¬ v4 = 0 → ((v3 < 0 → wp_X5_saw_119 K (mI, mA, mL)) ∧ (¬ v3 < 0 → ((4 ≤ k0 - v3 → (vp_in v1 4 ∧ K 0 (mI, va_up mA 3 (upd (mA 3) v1.toNatClampNeg 2), mL))) ∧ (¬ 4 ≤ k0 - v3 → wp_X5_saw_119 K (mI, mA, mL)))))))
def wp_X5_saw : ModelS → Int32 → Int32 → (Int32 → ModelS → Prop) → Prop := fun (mI, mA, mL) p0 p1 K => (vp_in p0 4 ∧ (vp_in ((200 * p0) + ((mA 21) p0.toNatClampNeg)) 1000 ∧ (∀ n3 : Int32, n3 = (mA 19) (((200 * p0) + ((mA 21) p0.toNatClampNeg)).toNatClampNeg) → (vp_in p0 4 ∧ (vp_in ((200 * p0) + ((mA 21) p0.toNatClampNeg)) 1000 ∧ (∀ n6 : Int32, n6 = (mA 18) (((200 * p0) + ((mA 21) p0.toNatClampNeg)).toNatClampNeg) → wp_X5_take (mI, mA, mL) p0 p1 (fun r7 u8 => (vp_in p0 4 ∧ (vp_in p0 4 ∧ ((¬ n3 = 201 → ((¬ p1 = n6 → wp_X5_sentOne (u8.1, va_up u8.2.1 21 (upd (u8.2.1 21) p0.toNatClampNeg (((u8.2.1 21) p0.toNatClampNeg) + 1)), u8.2.2) p0 (fun r13 => (vp_in r13 16 ∧ (((u8.2.1 10) r13.toNatClampNeg = 0 → wp_X5_saw_100 K (u8.1, va_up u8.2.1 21 (upd (u8.2.1 21) p0.toNatClampNeg (((u8.2.1 21) p0.toNatClampNeg) + 1)), u8.2.2) p0 n3 n6 15) ∧ (¬ (u8.2.1 10) r13.toNatClampNeg = 0 → wp_X5_saw_100 K (u8.1, va_up u8.2.1 21 (upd (u8.2.1 21) p0.toNatClampNeg (((u8.2.1 21) p0.toNatClampNeg) + 1)), u8.2.2) p0 n3 n6 35))))) ∧ (p1 = n6 → K 0 (u8.1, va_up u8.2.1 21 (upd (u8.2.1 21) p0.toNatClampNeg (((u8.2.1 21) p0.toNatClampNeg) + 1)), u8.2.2)))) ∧ (n3 = 201 → ((¬ p1 = 1 → K 0 (u8.1, va_up u8.2.1 21 (upd (u8.2.1 21) p0.toNatClampNeg (((u8.2.1 21) p0.toNatClampNeg) + 1)), u8.2.2)) ∧ (p1 = 1 → K 5 (u8.1, va_up u8.2.1 21 (upd (u8.2.1 21) p0.toNatClampNeg (((u8.2.1 21) p0.toNatClampNeg) + 1)), u8.2.2))))))))))))))
set_option maxHeartbeats 4000000 in
set_option maxRecDepth 100000 in
theorem j_X5_saw_119 {p : Program} {l : Launch} {e : Env} {s : State} {m : MethodId} {args : Array Value} {below : List Frame} {meth : Method} {c : Code} {dC : Nat → ClassId} {dI : Nat → Nat → Nat} {y : Nat → ClassId} {A : Nat → Prop} (C0 : Cx p s m args meth c cX5_saw 6 (some .int) wsX5_saw RX5 A dC dI y) (a : Nat → Nat) (K : Int32 → ModelS → Prop) : ∀ (S : ModelS) (H : Heap) (locs : List Loc) (ls : Array Slot), va_P (dC, dI) vwCl (mdW y a S) H → va_D A (mdW y a S) → va_S A s.heap H locs → lv_has ls 6 [] → wp_X5_saw_119 K S → W p l e ({ frames := 4, cells := 0, slots := 0, locals := 93 } : Room) s m args below meth c H locs 0 0 (MQ below (va_Qi K (BW dC dI A (fun u => mdW y a u)) A) args s 0 0 A) (F0 m 119 ls []) := by
  obtain ⟨hx, hb, hr, hml, hown, hts, hlocks, hA, hK⟩ := id C0
  intro S H locs ls hP hD hS hl hf
  obtain ⟨mI, mA, mL⟩ := S
  unfold wp_X5_saw_119 at hf
  refine lv_iconst (v := 4) hx hb dX5_saw_119 (by decide) ?_
  exact W.iret (v := 4) hx hb hr (fun t ht hW => ⟨⟨4, (mI, mA, mL), rfl, hf, by rw [ht]; exact hP, hD⟩, hS.F ht⟩) hS.2.2 dX5_saw_120
set_option maxHeartbeats 4000000 in
set_option maxRecDepth 100000 in
theorem j_X5_saw_100 {p : Program} {l : Launch} {e : Env} {s : State} {m : MethodId} {args : Array Value} {below : List Frame} {meth : Method} {c : Code} {dC : Nat → ClassId} {dI : Nat → Nat → Nat} {y : Nat → ClassId} {A : Nat → Prop} (C0 : Cx p s m args meth c cX5_saw 6 (some .int) wsX5_saw RX5 A dC dI y) (a : Nat → Nat) (K : Int32 → ModelS → Prop) : ∀ (S : ModelS) (v1 : Int32) (v3 : Int32) (v4 : Int32) (k0 : Int32) (H : Heap) (locs : List Loc) (ls : Array Slot), va_P (dC, dI) vwCl (mdW y a S) H → va_D A (mdW y a S) → va_S A s.heap H locs → lv_has ls 6 [(0, .ref (a 0)), (1, .int v1), (3, .int v3), (4, .int v4)] → wp_X5_saw_100 K S v1 v3 v4 k0 → W p l e ({ frames := 4, cells := 0, slots := 0, locals := 93 } : Room) s m args below meth c H locs 0 0 (MQ below (va_Qi K (BW dC dI A (fun u => mdW y a u)) A) args s 0 0 A) (F0 m 100 ls [.int k0]) := by
  obtain ⟨hx, hb, hr, hml, hown, hts, hlocks, hA, hK⟩ := id C0
  have w9 := hts (Cond.fieldLink RX5 9 "SharedWireModel" "state" "[I") (List.mem_of_getElem? (i := 5) rfl)
  have hinX5 : ∀ w ∈ wsX50, w ∈ wsX5_saw := fun w h => List.mem_cons_of_mem _ (List.mem_append_right _ (h))
  intro S v1 v3 v4 k0 H locs ls hP hD hS hl hf
  obtain ⟨mI, mA, mL⟩ := S
  unfold wp_X5_saw_100 at hf
  refine lv_istore (lv' := [(5, .int k0), (0, .ref (a 0)), (1, .int v1), (3, .int v3), (4, .int v4)]) hx hb dX5_saw_100 hl (by decide) rfl (fun ls hl => ?_)
  refine lv_iload hx hb dX5_saw_102 (lv_at hl 4 rfl) ?_
  refine lv_if_eq (tgt := 119) hx hb dX5_saw_104 (by decide) (fun c17 => ?_) (fun c17 => ?_)
  · replace hf := hf.1 c17
    exact j_X5_saw_119 C0 a K (mI, mA, mL) H locs ls hP hD hS (lv_sub hl [] rfl) hf
  · replace hf := hf.2 c17
    refine lv_iload_n hx hb dX5_saw_107 rfl (lv_at hl 3 rfl) ?_
    refine lv_if_lt (tgt := 119) hx hb dX5_saw_108 (by decide) (fun c18 => ?_) (fun c18 => ?_)
    · replace hf := hf.1 c18
      exact j_X5_saw_119 C0 a K (mI, mA, mL) H locs ls hP hD hS (lv_sub hl [] rfl) hf
    · replace hf := hf.2 c18
      refine lv_iload hx hb dX5_saw_111 (lv_at hl 0 rfl) ?_
      refine lv_iload_n hx hb dX5_saw_113 rfl (lv_at hl 3 rfl) ?_
      refine lv_isub hx hb dX5_saw_114 ?_
      refine lv_iconst (v := 4) hx hb dX5_saw_115 (by decide) ?_
      refine lv_icmp_ge (tgt := 121) hx hb dX5_saw_116 (by decide) (fun c19 => ?_) (fun c19 => ?_)
      · replace hf := hf.1 c19
        refine lv_aload_n hx hb dX5_saw_121 rfl (lv_at hl 1 rfl) ?_
        refine va_get (D := (dC, dI)) (ci := 5) (v := .ref (a 3)) (C := RX5) (T := TX5) (N := 35) hx hb hts hinX5 hown hK.1 hP 0 rfl rfl 3 (by decide) w9 (fun _ h9 => h9) rfl dX5_saw_122 ?_
        refine lv_iload_n hx hb dX5_saw_125 rfl (lv_at hl 2 rfl) ?_
        refine lv_iconst (v := 2) hx hb dX5_saw_126 (by decide) ?_
        have g20 := hf.1
        replace hf := hf.2
        refine mst_3 (f := (mA 3)) (x := 2) (j := v1.toNatClampNeg) hx hb hK.1 hP hD hS rfl rfl g20 dX5_saw_127 (fun H locs hP hD hS => ?_)
        refine lv_iconst (v := 0) hx hb dX5_saw_128 (by decide) ?_
        exact W.iret (v := 0) hx hb hr (fun t ht hW => ⟨⟨0, (mI, va_up mA 3 (upd (mA 3) v1.toNatClampNeg 2), mL), rfl, hf, by rw [ht]; exact hP, hD⟩, hS.F ht⟩) hS.2.2 dX5_saw_129
      · replace hf := hf.2 c19
        exact j_X5_saw_119 C0 a K (mI, mA, mL) H locs ls hP hD hS (lv_sub hl [] rfl) hf
set_option maxHeartbeats 4000000 in
set_option maxRecDepth 100000 in
theorem c_X5_saw (l : Launch) (dC : Nat → ClassId) (dI : Nat → Nat → Nat) (y : Nat → ClassId) (a : Nat → Nat) (sz : Nat) (S : ModelS) (p0 : Int32) (p1 : Int32) (K : Int32 → ModelS → Prop) (hf : wp_X5_saw S p0 p1 K) : MI l yX5_saw wsX5_saw { frames := 4, cells := 0, slots := 0, locals := 93 } dC dI y [.ref (a 0), .int p0, .int p1] (mdW y a S) sz (fun u => mdW y a u) K := by
  refine Met.ofW (cc := cX5_saw) (maxL := 6) (ret := (some .int)) (by decide) rfl ?_
  intro p e s m args below meth c s₁ B hml hv
  obtain ⟨rfl, hsz, hP, hK, hD0⟩ := hv
  have hx := B.exec
  have hb := B.bytes
  have hr := B.returns
  have hts := atoms_spec (ws := wsX5_saw) B.pre
  have hown : s.vm.findClass RX5 = some m.cls := findClass_of_methodNamed B.named
  have hlocks := B.notSynchronized
  subst hsz
  have hD := hD0.self (sz := s.heap.size)
  generalize hAe : va_A (mdW y a S) s.heap.size = A at hD ⊢
  have hA : ∀ q : Nat, s.heap.size ≤ q → A q := fun q h => by rw [← hAe]; exact Or.inr h
  have hS : va_S A s.heap s.heap [] := va_S.rf
  have C0 : Cx p s m [.ref (a 0), .int p0, .int p1].toArray meth c cX5_saw 6 (some .int) wsX5_saw RX5 A dC dI y := ⟨hx, hb, hr, hml, hown, hts, hlocks, hA, hK⟩
  have w31 := hts (Cond.fieldLink RX5 31 "SharedWireModel" "longs" "[Z") (List.mem_of_getElem? (i := 4) rfl)
  have w57 := hts (Cond.fieldLink RX5 57 "SharedWireModel" "wireBits" "[I") (List.mem_of_getElem? (i := 3) rfl)
  have w60 := hts (Cond.fieldLink RX5 60 "SharedWireModel" "places" "[I") (List.mem_of_getElem? (i := 1) rfl)
  have w66 := hts (Cond.fieldLink RX5 66 "SharedWireModel" "at" "[I") (List.mem_of_getElem? (i := 2) rfl)
  have hinX5 : ∀ w ∈ wsX50, w ∈ wsX5_saw := fun w h => List.mem_cons_of_mem _ (List.mem_append_right _ (h))
  have hl := lv_entry ([.ref (a 0), .int p0, .int p1]) (n := 6) (Nat.le_of_ble_eq_true rfl)
  rw [lg_entry_eq]
  generalize (lg_sl ([.ref (a 0), .int p0, .int p1]) ++ List.replicate (6 - (lg_sl ([.ref (a 0), .int p0, .int p1])).length) Slot.unset).toArray = ls at hl ⊢
  have hl : lv_has ls 6 [(0, .ref (a 0)), (1, .int p0), (2, .int p1)] := hl
  obtain ⟨mI, mA, mL⟩ := S
  clear hAe hD0
  generalize hL0 : ([] : List Loc) = locs at hS ⊢
  unfold wp_X5_saw at hf
  refine lv_aload_n hx hb dX5_saw_0 rfl (lv_at hl 0 rfl) ?_
  refine va_get (D := (dC, dI)) (ci := 5) (v := .ref (a 19)) (C := RX5) (T := TX5) (N := 35) hx hb hts hinX5 hown hK.1 hP 0 rfl rfl 19 (by decide) w60 (fun _ h9 => h9) rfl dX5_saw_1 ?_
  refine lv_sipush (v := 200) hx hb dX5_saw_4 (by decide) ?_
  refine lv_iload_n hx hb dX5_saw_7 rfl (lv_at hl 1 rfl) ?_
  refine lv_imul hx hb dX5_saw_8 ?_
  refine lv_aload_n hx hb dX5_saw_9 rfl (lv_at hl 0 rfl) ?_
  refine va_get (D := (dC, dI)) (ci := 5) (v := .ref (a 21)) (C := RX5) (T := TX5) (N := 35) hx hb hts hinX5 hown hK.1 hP 0 rfl rfl 21 (by decide) w66 (fun _ h9 => h9) rfl dX5_saw_10 ?_
  refine lv_iload_n hx hb dX5_saw_13 rfl (lv_at hl 1 rfl) ?_
  have g1 := hf.1
  replace hf := hf.2
  refine ar_ild (f := (mA 21)) (j := p0.toNatClampNeg) hx hb hK.1 hP 19 0 rfl rfl rfl g1 dX5_saw_14 ?_
  refine lv_iadd hx hb dX5_saw_15 ?_
  have g2 := hf.1
  replace hf := hf.2
  refine ar_ild (f := (mA 19)) (j := ((200 * p0) + ((mA 21) p0.toNatClampNeg)).toNatClampNeg) hx hb hK.1 hP 17 0 rfl rfl rfl g2 dX5_saw_16 ?_
  refine lv_topi (fun n3 en3 => ?_)
  replace hf := hf n3 en3
  refine lv_istore_n (lv' := [(3, .int n3), (0, .ref (a 0)), (1, .int p0), (2, .int p1)]) hx hb dX5_saw_17 rfl hl (by decide) rfl (fun ls hl => ?_)
  refine lv_aload_n hx hb dX5_saw_18 rfl (lv_at hl 1 rfl) ?_
  refine va_get (D := (dC, dI)) (ci := 5) (v := .ref (a 18)) (C := RX5) (T := TX5) (N := 35) hx hb hts hinX5 hown hK.1 hP 0 rfl rfl 18 (by decide) w57 (fun _ h9 => h9) rfl dX5_saw_19 ?_
  refine lv_sipush (v := 200) hx hb dX5_saw_22 (by decide) ?_
  refine lv_iload_n hx hb dX5_saw_25 rfl (lv_at hl 2 rfl) ?_
  refine lv_imul hx hb dX5_saw_26 ?_
  refine lv_aload_n hx hb dX5_saw_27 rfl (lv_at hl 1 rfl) ?_
  refine va_get (D := (dC, dI)) (ci := 5) (v := .ref (a 21)) (C := RX5) (T := TX5) (N := 35) hx hb hts hinX5 hown hK.1 hP 0 rfl rfl 21 (by decide) w66 (fun _ h9 => h9) rfl dX5_saw_28 ?_
  refine lv_iload_n hx hb dX5_saw_31 rfl (lv_at hl 2 rfl) ?_
  have g4 := hf.1
  replace hf := hf.2
  refine ar_ild (f := (mA 21)) (j := p0.toNatClampNeg) hx hb hK.1 hP 19 0 rfl rfl rfl g4 dX5_saw_32 ?_
  refine lv_iadd hx hb dX5_saw_33 ?_
  have g5 := hf.1
  replace hf := hf.2
  refine ar_ild (f := (mA 18)) (j := ((200 * p0) + ((mA 21) p0.toNatClampNeg)).toNatClampNeg) hx hb hK.1 hP 16 0 rfl rfl rfl g5 dX5_saw_34 ?_
  refine lv_topi (fun n6 en6 => ?_)
  replace hf := hf n6 en6
  refine lv_istore (lv' := [(4, .int n6), (3, .int n3), (0, .ref (a 0)), (1, .int p0), (2, .int p1)]) hx hb dX5_saw_35 hl (by decide) rfl (fun ls hl => ?_)
  refine lv_aload_n hx hb dX5_saw_37 rfl (lv_at hl 2 rfl) ?_
  refine lv_iload_n hx hb dX5_saw_38 rfl (lv_at hl 3 rfl) ?_
  refine lv_iload_n hx hb dX5_saw_39 rfl (lv_at hl 4 rfl) ?_
  refine k0i (As := [.int p0, .int p1]) (rest := []) ⟨hx, hb, hml, hown, hts⟩ (c_X5_take l dC dI y a s.heap.size (mI, mA, mL) p0 p1 _ hf) (cwV 2 hts gX5_saw_X5_take rfl rfl rfl (by decide +kernel) ⟨Nat.le_of_ble_eq_true rfl, Nat.le_of_ble_eq_true rfl⟩) hK hP hD (va_recv hK.1 hP (ci := 5) (q0 := 0) rfl rfl) hS hA rfl hl.1 rfl (Nat.le_of_ble_eq_true rfl) dX5_saw_40 ⟨Nat.zero_le _, Nat.zero_le _⟩ (fun r7 u8 H locs hf hP hD hS => ?_)
  have hP : va_P (dC, dI) vwCl (mdW y a (u8.1, u8.2.1, u8.2.2)) H := hP
  have hD : va_D A (mdW y a (u8.1, u8.2.1, u8.2.2)) := hD
  refine lv_pop hx hb dX5_saw_43 rfl ?_
  refine lv_aload_n hx hb dX5_saw_44 rfl (lv_at hl 2 rfl) ?_
  refine va_get (D := (dC, dI)) (ci := 5) (v := .ref (a 21)) (C := RX5) (T := TX5) (N := 35) hx hb hts hinX5 hown hK.1 hP 0 rfl rfl 21 (by decide) w66 (fun _ h9 => h9) rfl dX5_saw_45 ?_
  refine lv_iload_n hx hb dX5_saw_48 rfl (lv_at hl 3 rfl) ?_
  refine lv_dup2_11 hx hb dX5_saw_49 rfl rfl ?_
  have g9 := hf.1
  replace hf := hf.2
  refine ar_ild (f := (u8.2.1 21)) (j := p0.toNatClampNeg) hx hb hK.1 hP 19 0 rfl rfl rfl g9 dX5_saw_50 ?_
  refine lv_iconst (v := 1) hx hb dX5_saw_51 (by decide) ?_
  refine lv_iadd hx hb dX5_saw_52 ?_
  have g10 := hf.1
  replace hf := hf.2
  refine mst_21 (f := (u8.2.1 21)) (x := ((u8.2.1 21) p0.toNatClampNeg) + 1) (j := p0.toNatClampNeg) hx hb hK.1 hP hD hS rfl rfl g10 dX5_saw_53 (fun H locs hP hD hS => ?_)
  refine lv_iload_n hx hb dX5_saw_54 rfl (lv_at hl 1 rfl) ?_
  refine lv_sipush (v := 201) hx hb dX5_saw_55 (by decide) ?_
  refine lv_icmp_ne (tgt := 72) hx hb dX5_saw_58 (by decide) (fun c11 => ?_) (fun c11 => ?_)
  · replace hf := hf.1 c11
    refine lv_iload_n hx hb dX5_saw_72 rfl (lv_at hl 4 rfl) ?_
    refine lv_iload hx hb dX5_saw_73 (lv_at hl 0 rfl) ?_
    refine lv_icmp_ne (tgt := 80) hx hb dX5_saw_75 (by decide) (fun c12 => ?_) (fun c12 => ?_)
    · replace hf := hf.1 c12
      refine lv_aload_n hx hb dX5_saw_80 rfl (lv_at hl 2 rfl) ?_
      refine va_get (D := (dC, dI)) (ci := 5) (v := .ref (a 10)) (C := RX5) (T := TX5) (N := 35) hx hb hts hinX5 hown hK.1 hP 0 rfl rfl 10 (by decide) w31 (fun _ h9 => h9) rfl dX5_saw_81 ?_
      refine lv_aload_n hx hb dX5_saw_84 rfl (lv_at hl 2 rfl) ?_
      refine lv_iload_n hx hb dX5_saw_85 rfl (lv_at hl 3 rfl) ?_
      refine k0i (As := [.int p0]) (rest := [.ref (a 10)]) ⟨hx, hb, hml, hown, hts⟩ (c_X5_sentOne l dC dI y a H.size (u8.1, va_up u8.2.1 21 (upd (u8.2.1 21) p0.toNatClampNeg (((u8.2.1 21) p0.toNatClampNeg) + 1)), u8.2.2) p0 _ hf) (cwV 1 hts gX5_saw_X5_sentOne rfl rfl rfl (by decide +kernel) ⟨Nat.le_of_ble_eq_true rfl, Nat.le_of_ble_eq_true rfl⟩) hK hP hD (va_recv hK.1 hP (ci := 5) (q0 := 0) rfl rfl) hS hA rfl hl.1 rfl (Nat.le_of_ble_eq_true rfl) dX5_saw_86 ⟨Nat.zero_le _, Nat.zero_le _⟩ (fun r13 u14 H locs hf hP hD hS => ?_)
      obtain ⟨hf, e9⟩ := hf
      have e9 := e9.symm
      subst e9
      have hP : va_P (dC, dI) vwCl (mdW y a (u8.1, va_up u8.2.1 21 (upd (u8.2.1 21) p0.toNatClampNeg (((u8.2.1 21) p0.toNatClampNeg) + 1)), u8.2.2)) H := hP
      have hD : va_D A (mdW y a (u8.1, va_up u8.2.1 21 (upd (u8.2.1 21) p0.toNatClampNeg (((u8.2.1 21) p0.toNatClampNeg) + 1)), u8.2.2)) := hD
      have g15 := hf.1
      replace hf := hf.2
      refine ar_zld (f := (u8.2.1 10)) (j := r13.toNatClampNeg) hx hb hK.1 hP 8 2 rfl rfl rfl g15 dX5_saw_89 ?_
      refine lv_if_eq (tgt := 98) hx hb dX5_saw_90 (by decide) (fun c16 => ?_) (fun c16 => ?_)
      · replace hf := hf.1 c16
        refine lv_bipush (v := 15) hx hb dX5_saw_98 (by decide) ?_
        exact j_X5_saw_100 C0 a K (u8.1, va_up u8.2.1 21 (upd (u8.2.1 21) p0.toNatClampNeg (((u8.2.1 21) p0.toNatClampNeg) + 1)), u8.2.2) p0 n3 n6 15 H locs ls hP hD hS (lv_sub hl [2, 3, 1, 0] rfl) hf
      · replace hf := hf.2 c16
        refine lv_bipush (v := 35) hx hb dX5_saw_93 (by decide) ?_
        refine lv_goto (tgt := 100) hx hb dX5_saw_95 (by decide) ?_
        exact j_X5_saw_100 C0 a K (u8.1, va_up u8.2.1 21 (upd (u8.2.1 21) p0.toNatClampNeg (((u8.2.1 21) p0.toNatClampNeg) + 1)), u8.2.2) p0 n3 n6 35 H locs ls hP hD hS (lv_sub hl [2, 3, 1, 0] rfl) hf
    · replace hf := hf.2 c12
      refine lv_iconst (v := 0) hx hb dX5_saw_78 (by decide) ?_
      exact W.iret (v := 0) hx hb hr (fun t ht hW => ⟨⟨0, (u8.1, va_up u8.2.1 21 (upd (u8.2.1 21) p0.toNatClampNeg (((u8.2.1 21) p0.toNatClampNeg) + 1)), u8.2.2), rfl, hf, by rw [ht]; exact hP, hD⟩, hS.F ht⟩) hS.2.2 dX5_saw_79
  · replace hf := hf.2 c11
    refine lv_iload_n hx hb dX5_saw_61 rfl (lv_at hl 4 rfl) ?_
    refine lv_iconst (v := 1) hx hb dX5_saw_62 (by decide) ?_
    refine lv_icmp_ne (tgt := 70) hx hb dX5_saw_63 (by decide) (fun c21 => ?_) (fun c21 => ?_)
    · replace hf := hf.1 c21
      refine lv_iconst (v := 0) hx hb dX5_saw_70 (by decide) ?_
      exact W.iret (v := 0) hx hb hr (fun t ht hW => ⟨⟨0, (u8.1, va_up u8.2.1 21 (upd (u8.2.1 21) p0.toNatClampNeg (((u8.2.1 21) p0.toNatClampNeg) + 1)), u8.2.2), rfl, hf, by rw [ht]; exact hP, hD⟩, hS.F ht⟩) hS.2.2 dX5_saw_71
    · replace hf := hf.2 c21
      refine lv_iconst (v := 5) hx hb dX5_saw_66 (by decide) ?_
      refine lv_goto (tgt := 71) hx hb dX5_saw_67 (by decide) ?_
      exact W.iret (v := 5) hx hb hr (fun t ht hW => ⟨⟨5, (u8.1, va_up u8.2.1 21 (upd (u8.2.1 21) p0.toNatClampNeg (((u8.2.1 21) p0.toNatClampNeg) + 1)), u8.2.2), rfl, hf, by rw [ht]; exact hP, hD⟩, hS.F ht⟩) hS.2.2 dX5_saw_71

def wp_X5_idle : ModelS → Int32 → Int32 → (Int32 → ModelS → Prop) → Prop := fun (mI, mA, mL) p0 p1 K => ((¬ p1 = 0 → K 0 (mI, mA, mL)) ∧ (p1 = 0 → (vp_in p0 4 ∧ wp_X5_begin (mI, va_up mA 3 (upd (mA 3) p0.toNatClampNeg 2), mL) p0 (fun u3 => wp_X5_take (u3.1, u3.2.1, u3.2.2) p0 0 (fun r4 u5 => K r4 (u5.1, u5.2.1, u5.2.2))))))
set_option maxHeartbeats 4000000 in
set_option maxRecDepth 100000 in
theorem c_X5_idle (l : Launch) (dC : Nat → ClassId) (dI : Nat → Nat → Nat) (y : Nat → ClassId) (a : Nat → Nat) (sz : Nat) (S : ModelS) (p0 : Int32) (p1 : Int32) (K : Int32 → ModelS → Prop) (hf : wp_X5_idle S p0 p1 K) : MI l yX5_idle wsX5_idle { frames := 4, cells := 0, slots := 0, locals := 93 } dC dI y [.ref (a 0), .int p0, .int p1] (mdW y a S) sz (fun u => mdW y a u) K := by
  refine Met.ofW (cc := cX5_idle) (maxL := 3) (ret := (some .int)) (by decide) rfl ?_
  intro p e s m args below meth c s₁ B hml hv
  obtain ⟨rfl, hsz, hP, hK, hD0⟩ := hv
  have hx := B.exec
  have hb := B.bytes
  have hr := B.returns
  have hts := atoms_spec (ws := wsX5_idle) B.pre
  have hown : s.vm.findClass RX5 = some m.cls := findClass_of_methodNamed B.named
  have hlocks := B.notSynchronized
  subst hsz
  have hD := hD0.self (sz := s.heap.size)
  generalize hAe : va_A (mdW y a S) s.heap.size = A at hD ⊢
  have hA : ∀ q : Nat, s.heap.size ≤ q → A q := fun q h => by rw [← hAe]; exact Or.inr h
  have hS : va_S A s.heap s.heap [] := va_S.rf
  have C0 : Cx p s m [.ref (a 0), .int p0, .int p1].toArray meth c cX5_idle 3 (some .int) wsX5_idle RX5 A dC dI y := ⟨hx, hb, hr, hml, hown, hts, hlocks, hA, hK⟩
  have w9 := hts (Cond.fieldLink RX5 9 "SharedWireModel" "state" "[I") (List.mem_of_getElem? (i := 1) rfl)
  have hinX5 : ∀ w ∈ wsX50, w ∈ wsX5_idle := fun w h => List.mem_cons_of_mem _ (List.mem_append_right _ (h))
  have hl := lv_entry ([.ref (a 0), .int p0, .int p1]) (n := 3) (Nat.le_of_ble_eq_true rfl)
  rw [lg_entry_eq]
  generalize (lg_sl ([.ref (a 0), .int p0, .int p1]) ++ List.replicate (3 - (lg_sl ([.ref (a 0), .int p0, .int p1])).length) Slot.unset).toArray = ls at hl ⊢
  have hl : lv_has ls 3 [(0, .ref (a 0)), (1, .int p0), (2, .int p1)] := hl
  obtain ⟨mI, mA, mL⟩ := S
  clear hAe hD0
  generalize hL0 : ([] : List Loc) = locs at hS ⊢
  unfold wp_X5_idle at hf
  refine lv_iload_n hx hb dX5_idle_0 rfl (lv_at hl 2 rfl) ?_
  refine lv_if_ne (tgt := 23) hx hb dX5_idle_1 (by decide) (fun c1 => ?_) (fun c1 => ?_)
  · replace hf := hf.1 c1
    refine lv_iconst (v := 0) hx hb dX5_idle_23 (by decide) ?_
    exact W.iret (v := 0) hx hb hr (fun t ht hW => ⟨⟨0, (mI, mA, mL), rfl, hf, by rw [ht]; exact hP, hD⟩, hS.F ht⟩) hS.2.2 dX5_idle_24
  · replace hf := hf.2 c1
    refine lv_aload_n hx hb dX5_idle_4 rfl (lv_at hl 0 rfl) ?_
    refine va_get (D := (dC, dI)) (ci := 5) (v := .ref (a 3)) (C := RX5) (T := TX5) (N := 35) hx hb hts hinX5 hown hK.1 hP 0 rfl rfl 3 (by decide) w9 (fun _ h9 => h9) rfl dX5_idle_5 ?_
    refine lv_iload_n hx hb dX5_idle_8 rfl (lv_at hl 1 rfl) ?_
    refine lv_iconst (v := 2) hx hb dX5_idle_9 (by decide) ?_
    have g2 := hf.1
    replace hf := hf.2
    refine mst_3 (f := (mA 3)) (x := 2) (j := p0.toNatClampNeg) hx hb hK.1 hP hD hS rfl rfl g2 dX5_idle_10 (fun H locs hP hD hS => ?_)
    refine lv_aload_n hx hb dX5_idle_11 rfl (lv_at hl 0 rfl) ?_
    refine lv_iload_n hx hb dX5_idle_12 rfl (lv_at hl 1 rfl) ?_
    refine k0v (As := [.int p0]) (rest := []) ⟨hx, hb, hml, hown, hts⟩ (c_X5_begin l dC dI y a H.size (mI, va_up mA 3 (upd (mA 3) p0.toNatClampNeg 2), mL) p0 _ hf) (cwV 1 hts gX5_idle_X5_begin rfl rfl rfl (by decide +kernel) ⟨Nat.le_of_ble_eq_true rfl, Nat.le_of_ble_eq_true rfl⟩) hK hP hD (va_recv hK.1 hP (ci := 5) (q0 := 0) rfl rfl) hS hA rfl hl.1 rfl (Nat.le_of_ble_eq_true rfl) dX5_idle_13 ⟨Nat.zero_le _, Nat.zero_le _⟩ (fun u3 H locs hf hP hD hS => ?_)
    have hP : va_P (dC, dI) vwCl (mdW y a (u3.1, u3.2.1, u3.2.2)) H := hP
    have hD : va_D A (mdW y a (u3.1, u3.2.1, u3.2.2)) := hD
    refine lv_aload_n hx hb dX5_idle_16 rfl (lv_at hl 0 rfl) ?_
    refine lv_iload_n hx hb dX5_idle_17 rfl (lv_at hl 1 rfl) ?_
    refine lv_iconst (v := 0) hx hb dX5_idle_18 (by decide) ?_
    refine k0i (As := [.int p0, .int 0]) (rest := []) ⟨hx, hb, hml, hown, hts⟩ (c_X5_take l dC dI y a H.size (u3.1, u3.2.1, u3.2.2) p0 0 _ hf) (cwV 2 hts gX5_idle_X5_take rfl rfl rfl (by decide +kernel) ⟨Nat.le_of_ble_eq_true rfl, Nat.le_of_ble_eq_true rfl⟩) hK hP hD (va_recv hK.1 hP (ci := 5) (q0 := 0) rfl rfl) hS hA rfl hl.1 rfl (Nat.le_of_ble_eq_true rfl) dX5_idle_19 ⟨Nat.zero_le _, Nat.zero_le _⟩ (fun r4 u5 H locs hf hP hD hS => ?_)
    have hP : va_P (dC, dI) vwCl (mdW y a (u5.1, u5.2.1, u5.2.2)) H := hP
    have hD : va_D A (mdW y a (u5.1, u5.2.1, u5.2.2)) := hD
    exact W.iret (v := r4) hx hb hr (fun t ht hW => ⟨⟨r4, (u5.1, u5.2.1, u5.2.2), rfl, hf, by rw [ht]; exact hP, hD⟩, hS.F ht⟩) hS.2.2 dX5_idle_22

def wp_X5_sees : ModelS → Int32 → Int32 → (Int32 → ModelS → Prop) → Prop := fun (mI, mA, mL) p0 p1 K => (vp_in p0 4 ∧ ((¬ (mA 3) p0.toNatClampNeg = 3 → (vp_in p0 4 ∧ ((¬ (mA 3) p0.toNatClampNeg = 2 → (vp_in p0 4 ∧ ((¬ (mA 3) p0.toNatClampNeg = 1 → K 0 (mI, mA, mL)) ∧ ((mA 3) p0.toNatClampNeg = 1 → wp_X5_idle (mI, mA, mL) p0 p1 (fun r7 u8 => K r7 (u8.1, u8.2.1, u8.2.2)))))) ∧ ((mA 3) p0.toNatClampNeg = 2 → wp_X5_take (mI, mA, mL) p0 p1 (fun r9 u10 => K r9 (u10.1, u10.2.1, u10.2.2)))))) ∧ ((mA 3) p0.toNatClampNeg = 3 → wp_X5_saw (mI, mA, mL) p0 p1 (fun r11 u12 => K r11 (u12.1, u12.2.1, u12.2.2)))))
set_option maxHeartbeats 4000000 in
set_option maxRecDepth 100000 in
theorem c_X5_sees (l : Launch) (dC : Nat → ClassId) (dI : Nat → Nat → Nat) (y : Nat → ClassId) (a : Nat → Nat) (sz : Nat) (S : ModelS) (p0 : Int32) (p1 : Int32) (K : Int32 → ModelS → Prop) (hf : wp_X5_sees S p0 p1 K) : MI l yX5_sees wsX5_sees { frames := 5, cells := 0, slots := 0, locals := 118 } dC dI y [.ref (a 0), .int p0, .int p1] (mdW y a S) sz (fun u => mdW y a u) K := by
  refine Met.ofW (cc := cX5_sees) (maxL := 3) (ret := (some .int)) (by decide) rfl ?_
  intro p e s m args below meth c s₁ B hml hv
  obtain ⟨rfl, hsz, hP, hK, hD0⟩ := hv
  have hx := B.exec
  have hb := B.bytes
  have hr := B.returns
  have hts := atoms_spec (ws := wsX5_sees) B.pre
  have hown : s.vm.findClass RX5 = some m.cls := findClass_of_methodNamed B.named
  have hlocks := B.notSynchronized
  subst hsz
  have hD := hD0.self (sz := s.heap.size)
  generalize hAe : va_A (mdW y a S) s.heap.size = A at hD ⊢
  have hA : ∀ q : Nat, s.heap.size ≤ q → A q := fun q h => by rw [← hAe]; exact Or.inr h
  have hS : va_S A s.heap s.heap [] := va_S.rf
  have C0 : Cx p s m [.ref (a 0), .int p0, .int p1].toArray meth c cX5_sees 3 (some .int) wsX5_sees RX5 A dC dI y := ⟨hx, hb, hr, hml, hown, hts, hlocks, hA, hK⟩
  have w9 := hts (Cond.fieldLink RX5 9 "SharedWireModel" "state" "[I") (List.mem_of_getElem? (i := 1) rfl)
  have hinX5 : ∀ w ∈ wsX50, w ∈ wsX5_sees := fun w h => List.mem_cons_of_mem _ (List.mem_append_right _ (h))
  have hl := lv_entry ([.ref (a 0), .int p0, .int p1]) (n := 3) (Nat.le_of_ble_eq_true rfl)
  rw [lg_entry_eq]
  generalize (lg_sl ([.ref (a 0), .int p0, .int p1]) ++ List.replicate (3 - (lg_sl ([.ref (a 0), .int p0, .int p1])).length) Slot.unset).toArray = ls at hl ⊢
  have hl : lv_has ls 3 [(0, .ref (a 0)), (1, .int p0), (2, .int p1)] := hl
  obtain ⟨mI, mA, mL⟩ := S
  clear hAe hD0
  generalize hL0 : ([] : List Loc) = locs at hS ⊢
  unfold wp_X5_sees at hf
  refine lv_aload_n hx hb dX5_sees_0 rfl (lv_at hl 0 rfl) ?_
  refine va_get (D := (dC, dI)) (ci := 5) (v := .ref (a 3)) (C := RX5) (T := TX5) (N := 35) hx hb hts hinX5 hown hK.1 hP 0 rfl rfl 3 (by decide) w9 (fun _ h9 => h9) rfl dX5_sees_1 ?_
  refine lv_iload_n hx hb dX5_sees_4 rfl (lv_at hl 1 rfl) ?_
  have g1 := hf.1
  replace hf := hf.2
  refine ar_ild (f := (mA 3)) (j := p0.toNatClampNeg) hx hb hK.1 hP 1 0 rfl rfl rfl g1 dX5_sees_5 ?_
  refine lv_iconst (v := 3) hx hb dX5_sees_6 (by decide) ?_
  refine lv_icmp_ne (tgt := 17) hx hb dX5_sees_7 (by decide) (fun c2 => ?_) (fun c2 => ?_)
  · replace hf := hf.1 c2
    refine lv_aload_n hx hb dX5_sees_17 rfl (lv_at hl 0 rfl) ?_
    refine va_get (D := (dC, dI)) (ci := 5) (v := .ref (a 3)) (C := RX5) (T := TX5) (N := 35) hx hb hts hinX5 hown hK.1 hP 0 rfl rfl 3 (by decide) w9 (fun _ h9 => h9) rfl dX5_sees_18 ?_
    refine lv_iload_n hx hb dX5_sees_21 rfl (lv_at hl 1 rfl) ?_
    have g3 := hf.1
    replace hf := hf.2
    refine ar_ild (f := (mA 3)) (j := p0.toNatClampNeg) hx hb hK.1 hP 1 0 rfl rfl rfl g3 dX5_sees_22 ?_
    refine lv_iconst (v := 2) hx hb dX5_sees_23 (by decide) ?_
    refine lv_icmp_ne (tgt := 36) hx hb dX5_sees_24 (by decide) (fun c4 => ?_) (fun c4 => ?_)
    · replace hf := hf.1 c4
      refine lv_aload_n hx hb dX5_sees_36 rfl (lv_at hl 0 rfl) ?_
      refine va_get (D := (dC, dI)) (ci := 5) (v := .ref (a 3)) (C := RX5) (T := TX5) (N := 35) hx hb hts hinX5 hown hK.1 hP 0 rfl rfl 3 (by decide) w9 (fun _ h9 => h9) rfl dX5_sees_37 ?_
      refine lv_iload_n hx hb dX5_sees_40 rfl (lv_at hl 1 rfl) ?_
      have g5 := hf.1
      replace hf := hf.2
      refine ar_ild (f := (mA 3)) (j := p0.toNatClampNeg) hx hb hK.1 hP 1 0 rfl rfl rfl g5 dX5_sees_41 ?_
      refine lv_iconst (v := 1) hx hb dX5_sees_42 (by decide) ?_
      refine lv_icmp_ne (tgt := 55) hx hb dX5_sees_43 (by decide) (fun c6 => ?_) (fun c6 => ?_)
      · replace hf := hf.1 c6
        refine lv_iconst (v := 0) hx hb dX5_sees_55 (by decide) ?_
        exact W.iret (v := 0) hx hb hr (fun t ht hW => ⟨⟨0, (mI, mA, mL), rfl, hf, by rw [ht]; exact hP, hD⟩, hS.F ht⟩) hS.2.2 dX5_sees_56
      · replace hf := hf.2 c6
        refine lv_aload_n hx hb dX5_sees_46 rfl (lv_at hl 0 rfl) ?_
        refine lv_iload_n hx hb dX5_sees_47 rfl (lv_at hl 1 rfl) ?_
        refine lv_iload_n hx hb dX5_sees_48 rfl (lv_at hl 2 rfl) ?_
        refine k0i (As := [.int p0, .int p1]) (rest := []) ⟨hx, hb, hml, hown, hts⟩ (c_X5_idle l dC dI y a s.heap.size (mI, mA, mL) p0 p1 _ hf) (cwV 2 hts gX5_sees_X5_idle rfl rfl rfl (by decide +kernel) ⟨Nat.le_of_ble_eq_true rfl, Nat.le_of_ble_eq_true rfl⟩) hK hP hD (va_recv hK.1 hP (ci := 5) (q0 := 0) rfl rfl) hS hA rfl hl.1 rfl (Nat.le_of_ble_eq_true rfl) dX5_sees_49 ⟨Nat.zero_le _, Nat.zero_le _⟩ (fun r7 u8 H locs hf hP hD hS => ?_)
        have hP : va_P (dC, dI) vwCl (mdW y a (u8.1, u8.2.1, u8.2.2)) H := hP
        have hD : va_D A (mdW y a (u8.1, u8.2.1, u8.2.2)) := hD
        refine lv_goto (tgt := 56) hx hb dX5_sees_52 (by decide) ?_
        exact W.iret (v := r7) hx hb hr (fun t ht hW => ⟨⟨r7, (u8.1, u8.2.1, u8.2.2), rfl, hf, by rw [ht]; exact hP, hD⟩, hS.F ht⟩) hS.2.2 dX5_sees_56
    · replace hf := hf.2 c4
      refine lv_aload_n hx hb dX5_sees_27 rfl (lv_at hl 0 rfl) ?_
      refine lv_iload_n hx hb dX5_sees_28 rfl (lv_at hl 1 rfl) ?_
      refine lv_iload_n hx hb dX5_sees_29 rfl (lv_at hl 2 rfl) ?_
      refine k0i (As := [.int p0, .int p1]) (rest := []) ⟨hx, hb, hml, hown, hts⟩ (c_X5_take l dC dI y a s.heap.size (mI, mA, mL) p0 p1 _ hf) (cwV 2 hts gX5_sees_X5_take rfl rfl rfl (by decide +kernel) ⟨Nat.le_of_ble_eq_true rfl, Nat.le_of_ble_eq_true rfl⟩) hK hP hD (va_recv hK.1 hP (ci := 5) (q0 := 0) rfl rfl) hS hA rfl hl.1 rfl (Nat.le_of_ble_eq_true rfl) dX5_sees_30 ⟨Nat.zero_le _, Nat.zero_le _⟩ (fun r9 u10 H locs hf hP hD hS => ?_)
      have hP : va_P (dC, dI) vwCl (mdW y a (u10.1, u10.2.1, u10.2.2)) H := hP
      have hD : va_D A (mdW y a (u10.1, u10.2.1, u10.2.2)) := hD
      refine lv_goto (tgt := 56) hx hb dX5_sees_33 (by decide) ?_
      exact W.iret (v := r9) hx hb hr (fun t ht hW => ⟨⟨r9, (u10.1, u10.2.1, u10.2.2), rfl, hf, by rw [ht]; exact hP, hD⟩, hS.F ht⟩) hS.2.2 dX5_sees_56
  · replace hf := hf.2 c2
    refine lv_aload_n hx hb dX5_sees_10 rfl (lv_at hl 0 rfl) ?_
    refine lv_iload_n hx hb dX5_sees_11 rfl (lv_at hl 1 rfl) ?_
    refine lv_iload_n hx hb dX5_sees_12 rfl (lv_at hl 2 rfl) ?_
    refine k0i (As := [.int p0, .int p1]) (rest := []) ⟨hx, hb, hml, hown, hts⟩ (c_X5_saw l dC dI y a s.heap.size (mI, mA, mL) p0 p1 _ hf) (cwV 2 hts gX5_sees_X5_saw rfl rfl rfl (by decide +kernel) ⟨Nat.le_of_ble_eq_true rfl, Nat.le_of_ble_eq_true rfl⟩) hK hP hD (va_recv hK.1 hP (ci := 5) (q0 := 0) rfl rfl) hS hA rfl hl.1 rfl (Nat.le_of_ble_eq_true rfl) dX5_sees_13 ⟨Nat.zero_le _, Nat.zero_le _⟩ (fun r11 u12 H locs hf hP hD hS => ?_)
    have hP : va_P (dC, dI) vwCl (mdW y a (u12.1, u12.2.1, u12.2.2)) H := hP
    have hD : va_D A (mdW y a (u12.1, u12.2.1, u12.2.2)) := hD
    exact W.iret (v := r11) hx hb hr (fun t ht hW => ⟨⟨r11, (u12.1, u12.2.1, u12.2.2), rfl, hf, by rw [ht]; exact hP, hD⟩, hS.F ht⟩) hS.2.2 dX5_sees_16

def wp_X5_breakOff_2_4 (K : ModelS → Prop) : ModelS → Int32 → Prop := fun (mI, mA, mL) v1 => K (va_up (va_up mI 1 2) 2 14, mA, mL)
def wp_X5_breakOff_85_3 (K : ModelS → Prop) : ModelS → Int32 → Int32 → Int32 → Prop := fun (mI, mA, mL) v1 k0 k1 => (vp_in k1 4 ∧ wp_X5_breakOff_2_4 K (mI, va_up mA 3 (upd (mA 3) k1.toNatClampNeg k0), mL) v1)
def wp_X5_breakOff_80_3 (K : ModelS → Prop) : ModelS → Int32 → Int32 → Prop := fun (mI, mA, mL) v1 k0 => wp_X5_breakOff_85_3 K (mI, mA, mL) v1 0 k0
def wp_X5_breakOff_54_3 (K : ModelS → Prop) : ModelS → Int32 → Prop := fun (mI, mA, mL) v1 => (((mA 3) 3 = 0 → wp_X5_breakOff_80_3 K (mI, mA, mL) v1 3) ∧ (¬ (mA 3) 3 = 0 → (((mA 4) 3 ≤ 255 → wp_X5_breakOff_85_3 K (mI, mA, mL) v1 1 3) ∧ (¬ (mA 4) 3 ≤ 255 → wp_X5_breakOff_80_3 K (mI, mA, mL) v1 3))))
def wp_X5_breakOff_2_3 (K : ModelS → Prop) : ModelS → Int32 → Prop := fun (mI, mA, mL) v1 => ((¬ (v1 >>> (3 &&& 31)) &&& 1 = 1 → wp_X5_breakOff_54_3 K (mI, mA, mL) v1) ∧ ((v1 >>> (3 &&& 31)) &&& 1 = 1 → ((¬ (mA 3) 3 = 3 → wp_X5_breakOff_54_3 K (mI, va_up mA 5 (upd (mA 5) 3 (((mA 5) 3) + 1)), mL) v1) ∧ ((mA 3) 3 = 3 → wp_X5_breakOff_54_3 K (mI, va_up mA 4 (upd (mA 4) 3 (((mA 4) 3) + 8)), mL) v1))))
def wp_X5_breakOff_85_2 (K : ModelS → Prop) : ModelS → Int32 → Int32 → Int32 → Prop := fun (mI, mA, mL) v1 k0 k1 => (vp_in k1 4 ∧ wp_X5_breakOff_2_3 K (mI, va_up mA 3 (upd (mA 3) k1.toNatClampNeg k0), mL) v1)
def wp_X5_breakOff_80_2 (K : ModelS → Prop) : ModelS → Int32 → Int32 → Prop := fun (mI, mA, mL) v1 k0 => wp_X5_breakOff_85_2 K (mI, mA, mL) v1 0 k0
def wp_X5_breakOff_54_2 (K : ModelS → Prop) : ModelS → Int32 → Prop := fun (mI, mA, mL) v1 => (((mA 3) 2 = 0 → wp_X5_breakOff_80_2 K (mI, mA, mL) v1 2) ∧ (¬ (mA 3) 2 = 0 → (((mA 4) 2 ≤ 255 → wp_X5_breakOff_85_2 K (mI, mA, mL) v1 1 2) ∧ (¬ (mA 4) 2 ≤ 255 → wp_X5_breakOff_80_2 K (mI, mA, mL) v1 2))))
def wp_X5_breakOff_2_2 (K : ModelS → Prop) : ModelS → Int32 → Prop := fun (mI, mA, mL) v1 => ((¬ (v1 >>> (2 &&& 31)) &&& 1 = 1 → wp_X5_breakOff_54_2 K (mI, mA, mL) v1) ∧ ((v1 >>> (2 &&& 31)) &&& 1 = 1 → ((¬ (mA 3) 2 = 3 → wp_X5_breakOff_54_2 K (mI, va_up mA 5 (upd (mA 5) 2 (((mA 5) 2) + 1)), mL) v1) ∧ ((mA 3) 2 = 3 → wp_X5_breakOff_54_2 K (mI, va_up mA 4 (upd (mA 4) 2 (((mA 4) 2) + 8)), mL) v1))))
def wp_X5_breakOff_85_1 (K : ModelS → Prop) : ModelS → Int32 → Int32 → Int32 → Prop := fun (mI, mA, mL) v1 k0 k1 => (vp_in k1 4 ∧ wp_X5_breakOff_2_2 K (mI, va_up mA 3 (upd (mA 3) k1.toNatClampNeg k0), mL) v1)
def wp_X5_breakOff_80_1 (K : ModelS → Prop) : ModelS → Int32 → Int32 → Prop := fun (mI, mA, mL) v1 k0 => wp_X5_breakOff_85_1 K (mI, mA, mL) v1 0 k0
def wp_X5_breakOff_54_1 (K : ModelS → Prop) : ModelS → Int32 → Prop := fun (mI, mA, mL) v1 => (((mA 3) 1 = 0 → wp_X5_breakOff_80_1 K (mI, mA, mL) v1 1) ∧ (¬ (mA 3) 1 = 0 → (((mA 4) 1 ≤ 255 → wp_X5_breakOff_85_1 K (mI, mA, mL) v1 1 1) ∧ (¬ (mA 4) 1 ≤ 255 → wp_X5_breakOff_80_1 K (mI, mA, mL) v1 1))))
def wp_X5_breakOff_2_1 (K : ModelS → Prop) : ModelS → Int32 → Prop := fun (mI, mA, mL) v1 => ((¬ (v1 >>> (1 &&& 31)) &&& 1 = 1 → wp_X5_breakOff_54_1 K (mI, mA, mL) v1) ∧ ((v1 >>> (1 &&& 31)) &&& 1 = 1 → ((¬ (mA 3) 1 = 3 → wp_X5_breakOff_54_1 K (mI, va_up mA 5 (upd (mA 5) 1 (((mA 5) 1) + 1)), mL) v1) ∧ ((mA 3) 1 = 3 → wp_X5_breakOff_54_1 K (mI, va_up mA 4 (upd (mA 4) 1 (((mA 4) 1) + 8)), mL) v1))))
def wp_X5_breakOff_85_0 (K : ModelS → Prop) : ModelS → Int32 → Int32 → Int32 → Prop := fun (mI, mA, mL) v1 k0 k1 => (vp_in k1 4 ∧ wp_X5_breakOff_2_1 K (mI, va_up mA 3 (upd (mA 3) k1.toNatClampNeg k0), mL) v1)
def wp_X5_breakOff_80_0 (K : ModelS → Prop) : ModelS → Int32 → Int32 → Prop := fun (mI, mA, mL) v1 k0 => wp_X5_breakOff_85_0 K (mI, mA, mL) v1 0 k0
def wp_X5_breakOff_54_0 (K : ModelS → Prop) : ModelS → Int32 → Prop := fun (mI, mA, mL) v1 => (((mA 3) 0 = 0 → wp_X5_breakOff_80_0 K (mI, mA, mL) v1 0) ∧ (¬ (mA 3) 0 = 0 → (((mA 4) 0 ≤ 255 → wp_X5_breakOff_85_0 K (mI, mA, mL) v1 1 0) ∧ (¬ (mA 4) 0 ≤ 255 → wp_X5_breakOff_80_0 K (mI, mA, mL) v1 0))))
def wp_X5_breakOff_2_0 (K : ModelS → Prop) : ModelS → Int32 → Prop := fun (mI, mA, mL) v1 => ((¬ (v1 >>> (0 &&& 31)) &&& 1 = 1 → wp_X5_breakOff_54_0 K (mI, mA, mL) v1) ∧ ((v1 >>> (0 &&& 31)) &&& 1 = 1 → ((¬ (mA 3) 0 = 3 → wp_X5_breakOff_54_0 K (mI, va_up mA 5 (upd (mA 5) 0 (((mA 5) 0) + 1)), mL) v1) ∧ ((mA 3) 0 = 3 → wp_X5_breakOff_54_0 K (mI, va_up mA 4 (upd (mA 4) 0 (((mA 4) 0) + 8)), mL) v1))))
def wp_X5_breakOff : ModelS → Int32 → (ModelS → Prop) → Prop := fun (mI, mA, mL) p0 K => wp_X5_breakOff_2_0 K (mI, mA, mL) p0
set_option maxHeartbeats 4000000 in
set_option maxRecDepth 100000 in
theorem j_X5_breakOff_2_4 {p : Program} {l : Launch} {e : Env} {s : State} {m : MethodId} {args : Array Value} {below : List Frame} {meth : Method} {c : Code} {dC : Nat → ClassId} {dI : Nat → Nat → Nat} {y : Nat → ClassId} {A : Nat → Prop} (C0 : Cx p s m args meth c cX5_breakOff 3 none wsX5_breakOff RX5 A dC dI y) (a : Nat → Nat) (K : ModelS → Prop) : ∀ (S : ModelS) (v1 : Int32) (H : Heap) (locs : List Loc) (ls : Array Slot), va_P (dC, dI) vwCl (mdW y a S) H → va_D A (mdW y a S) → va_S A s.heap H locs → lv_has ls 3 [(0, .ref (a 0)), (1, .int v1), (2, .int 4)] → wp_X5_breakOff_2_4 K S v1 → W p l e ({ frames := 0, cells := 0, slots := 0, locals := 0 } : Room) s m args below meth c H locs 0 0 (MQ below (va_Qv K (BW dC dI A (fun u => mdW y a u)) A) args s 0 0 A) (F0 m 2 ls []) := by
  obtain ⟨hx, hb, hr, hml, hown, hts, hlocks, hA, hK⟩ := id C0
  have w178 := hts (.fieldLink RX5 178 "SharedWireModel" "wire" "I") (List.mem_of_getElem? (i := 4) rfl)
  have w181 := hts (.fieldLink RX5 181 "SharedWireModel" "left" "I") (List.mem_of_getElem? (i := 5) rfl)
  have hinX5 : ∀ w ∈ wsX50, w ∈ wsX5_breakOff := fun w h => List.mem_cons_of_mem _ (List.mem_append_right _ (h))
  intro S v1 H locs ls hP hD hS hl hf
  obtain ⟨mI, mA, mL⟩ := S
  unfold wp_X5_breakOff_2_4 at hf
  refine lv_iload_n hx hb dX5_breakOff_2 rfl (lv_at hl 2 rfl) ?_
  refine lv_iconst (v := 4) hx hb dX5_breakOff_3 (by decide) ?_
  refine lv_icmp_ge (tgt := 92) hx hb dX5_breakOff_4 (by decide) (fun _ => ?_) (fun c9 => absurd (by decide) c9)
  refine lv_aload_n hx hb dX5_breakOff_92 rfl (lv_at hl 0 rfl) ?_
  refine lv_iconst (v := 2) hx hb dX5_breakOff_93 (by decide) ?_
  refine mput_1 (v := 2) hx hb hts hinX5 hown hK.1 hP hD hS w178 dX5_breakOff_94 (fun H locs hP hD hS => ?_)
  refine lv_aload_n hx hb dX5_breakOff_97 rfl (lv_at hl 0 rfl) ?_
  refine lv_bipush (v := 14) hx hb dX5_breakOff_98 (by decide) ?_
  refine mput_2 (v := 14) hx hb hts hinX5 hown hK.1 hP hD hS w181 dX5_breakOff_100 (fun H locs hP hD hS => ?_)
  exact W.vret hx hb hr (fun t ht hW => ⟨⟨(va_up (va_up mI 1 2) 2 14, mA, mL), rfl, hf, by rw [ht]; exact hP, hD⟩, hS.F ht⟩) hS.2.2 dX5_breakOff_103
set_option maxHeartbeats 4000000 in
set_option maxRecDepth 100000 in
theorem j_X5_breakOff_85_3 {p : Program} {l : Launch} {e : Env} {s : State} {m : MethodId} {args : Array Value} {below : List Frame} {meth : Method} {c : Code} {dC : Nat → ClassId} {dI : Nat → Nat → Nat} {y : Nat → ClassId} {A : Nat → Prop} (C0 : Cx p s m args meth c cX5_breakOff 3 none wsX5_breakOff RX5 A dC dI y) (a : Nat → Nat) (K : ModelS → Prop) : ∀ (S : ModelS) (v1 : Int32) (k0 : Int32) (k1 : Int32) (H : Heap) (locs : List Loc) (ls : Array Slot), va_P (dC, dI) vwCl (mdW y a S) H → va_D A (mdW y a S) → va_S A s.heap H locs → lv_has ls 3 [(0, .ref (a 0)), (1, .int v1), (2, .int 3)] → wp_X5_breakOff_85_3 K S v1 k0 k1 → W p l e ({ frames := 0, cells := 0, slots := 0, locals := 0 } : Room) s m args below meth c H locs 0 0 (MQ below (va_Qv K (BW dC dI A (fun u => mdW y a u)) A) args s 0 0 A) (F0 m 85 ls [.int k0, .int k1, .ref (a 3)]) := by
  obtain ⟨hx, hb, hr, hml, hown, hts, hlocks, hA, hK⟩ := id C0
  intro S v1 k0 k1 H locs ls hP hD hS hl hf
  obtain ⟨mI, mA, mL⟩ := S
  unfold wp_X5_breakOff_85_3 at hf
  have g12 := hf.1
  replace hf := hf.2
  refine mst_3 (f := (mA 3)) (x := k0) (j := k1.toNatClampNeg) hx hb hK.1 hP hD hS rfl rfl g12 dX5_breakOff_85 (fun H locs hP hD hS => ?_)
  refine lv_iinc (v := 4) (lv' := [(2, .int 4), (0, .ref (a 0)), (1, .int v1)]) hx hb dX5_breakOff_86 hl (k := 2) rfl (by decide) (by decide) rfl (fun ls hl => ?_)
  refine lv_goto (tgt := 2) hx hb dX5_breakOff_89 (by decide) ?_
  exact j_X5_breakOff_2_4 C0 a K (mI, va_up mA 3 (upd (mA 3) k1.toNatClampNeg k0), mL) v1 H locs ls hP hD hS (lv_sub hl [1, 2, 0] rfl) hf
set_option maxHeartbeats 4000000 in
set_option maxRecDepth 100000 in
theorem j_X5_breakOff_80_3 {p : Program} {l : Launch} {e : Env} {s : State} {m : MethodId} {args : Array Value} {below : List Frame} {meth : Method} {c : Code} {dC : Nat → ClassId} {dI : Nat → Nat → Nat} {y : Nat → ClassId} {A : Nat → Prop} (C0 : Cx p s m args meth c cX5_breakOff 3 none wsX5_breakOff RX5 A dC dI y) (a : Nat → Nat) (K : ModelS → Prop) : ∀ (S : ModelS) (v1 : Int32) (k0 : Int32) (H : Heap) (locs : List Loc) (ls : Array Slot), va_P (dC, dI) vwCl (mdW y a S) H → va_D A (mdW y a S) → va_S A s.heap H locs → lv_has ls 3 [(0, .ref (a 0)), (1, .int v1), (2, .int 3)] → wp_X5_breakOff_80_3 K S v1 k0 → W p l e ({ frames := 0, cells := 0, slots := 0, locals := 0 } : Room) s m args below meth c H locs 0 0 (MQ below (va_Qv K (BW dC dI A (fun u => mdW y a u)) A) args s 0 0 A) (F0 m 80 ls [.int k0, .ref (a 3)]) := by
  obtain ⟨hx, hb, hr, hml, hown, hts, hlocks, hA, hK⟩ := id C0
  intro S v1 k0 H locs ls hP hD hS hl hf
  obtain ⟨mI, mA, mL⟩ := S
  unfold wp_X5_breakOff_80_3 at hf
  refine lv_iconst (v := 0) hx hb dX5_breakOff_80 (by decide) ?_
  refine lv_goto (tgt := 85) hx hb dX5_breakOff_81 (by decide) ?_
  exact j_X5_breakOff_85_3 C0 a K (mI, mA, mL) v1 0 k0 H locs ls hP hD hS (lv_sub hl [0, 1, 2] rfl) hf
set_option maxHeartbeats 4000000 in
set_option maxRecDepth 100000 in
theorem j_X5_breakOff_54_3 {p : Program} {l : Launch} {e : Env} {s : State} {m : MethodId} {args : Array Value} {below : List Frame} {meth : Method} {c : Code} {dC : Nat → ClassId} {dI : Nat → Nat → Nat} {y : Nat → ClassId} {A : Nat → Prop} (C0 : Cx p s m args meth c cX5_breakOff 3 none wsX5_breakOff RX5 A dC dI y) (a : Nat → Nat) (K : ModelS → Prop) : ∀ (S : ModelS) (v1 : Int32) (H : Heap) (locs : List Loc) (ls : Array Slot), va_P (dC, dI) vwCl (mdW y a S) H → va_D A (mdW y a S) → va_S A s.heap H locs → lv_has ls 3 [(0, .ref (a 0)), (1, .int v1), (2, .int 3)] → wp_X5_breakOff_54_3 K S v1 → W p l e ({ frames := 0, cells := 0, slots := 0, locals := 0 } : Room) s m args below meth c H locs 0 0 (MQ below (va_Qv K (BW dC dI A (fun u => mdW y a u)) A) args s 0 0 A) (F0 m 54 ls []) := by
  obtain ⟨hx, hb, hr, hml, hown, hts, hlocks, hA, hK⟩ := id C0
  have w9 := hts (.fieldLink RX5 9 "SharedWireModel" "state" "[I") (List.mem_of_getElem? (i := 1) rfl)
  have w13 := hts (.fieldLink RX5 13 "SharedWireModel" "sending" "[I") (List.mem_of_getElem? (i := 2) rfl)
  have hinX5 : ∀ w ∈ wsX50, w ∈ wsX5_breakOff := fun w h => List.mem_cons_of_mem _ (List.mem_append_right _ (h))
  intro S v1 H locs ls hP hD hS hl hf
  obtain ⟨mI, mA, mL⟩ := S
  unfold wp_X5_breakOff_54_3 at hf
  refine lv_aload_n hx hb dX5_breakOff_54 rfl (lv_at hl 0 rfl) ?_
  refine va_get (D := (dC, dI)) (ci := 5) (v := .ref (a 3)) (C := RX5) (T := TX5) (N := 35) hx hb hts hinX5 hown hK.1 hP 0 rfl rfl 3 (by decide) w9 (fun _ h9 => h9) rfl dX5_breakOff_55 ?_
  refine lv_iload_n hx hb dX5_breakOff_58 rfl (lv_at hl 2 rfl) ?_
  refine lv_aload_n hx hb dX5_breakOff_59 rfl (lv_at hl 0 rfl) ?_
  refine va_get (D := (dC, dI)) (ci := 5) (v := .ref (a 3)) (C := RX5) (T := TX5) (N := 35) hx hb hts hinX5 hown hK.1 hP 0 rfl rfl 3 (by decide) w9 (fun _ h9 => h9) rfl dX5_breakOff_60 ?_
  refine lv_iload_n hx hb dX5_breakOff_63 rfl (lv_at hl 2 rfl) ?_
  refine ar_ild (f := (mA 3)) (j := 3) hx hb hK.1 hP 1 0 rfl rfl (clamp_lit 3 rfl) (vin_lit 3 4 rfl rfl) dX5_breakOff_64 ?_
  refine lv_if_eq (tgt := 80) hx hb dX5_breakOff_65 (by decide) (fun c11 => ?_) (fun c11 => ?_)
  · replace hf := hf.1 c11
    exact j_X5_breakOff_80_3 C0 a K (mI, mA, mL) v1 3 H locs ls hP hD hS (lv_sub hl [0, 1, 2] rfl) hf
  · replace hf := hf.2 c11
    refine lv_aload_n hx hb dX5_breakOff_68 rfl (lv_at hl 0 rfl) ?_
    refine va_get (D := (dC, dI)) (ci := 5) (v := .ref (a 4)) (C := RX5) (T := TX5) (N := 35) hx hb hts hinX5 hown hK.1 hP 0 rfl rfl 4 (by decide) w13 (fun _ h9 => h9) rfl dX5_breakOff_69 ?_
    refine lv_iload_n hx hb dX5_breakOff_72 rfl (lv_at hl 2 rfl) ?_
    refine ar_ild (f := (mA 4)) (j := 3) hx hb hK.1 hP 2 0 rfl rfl (clamp_lit 3 rfl) (vin_lit 3 4 rfl rfl) dX5_breakOff_73 ?_
    refine lv_sipush (v := 255) hx hb dX5_breakOff_74 (by decide) ?_
    refine lv_icmp_le (tgt := 84) hx hb dX5_breakOff_77 (by decide) (fun c13 => ?_) (fun c13 => ?_)
    · replace hf := hf.1 c13
      refine lv_iconst (v := 1) hx hb dX5_breakOff_84 (by decide) ?_
      exact j_X5_breakOff_85_3 C0 a K (mI, mA, mL) v1 1 3 H locs ls hP hD hS (lv_sub hl [0, 1, 2] rfl) hf
    · replace hf := hf.2 c13
      exact j_X5_breakOff_80_3 C0 a K (mI, mA, mL) v1 3 H locs ls hP hD hS (lv_sub hl [0, 1, 2] rfl) hf
set_option maxHeartbeats 4000000 in
set_option maxRecDepth 100000 in
theorem j_X5_breakOff_2_3 {p : Program} {l : Launch} {e : Env} {s : State} {m : MethodId} {args : Array Value} {below : List Frame} {meth : Method} {c : Code} {dC : Nat → ClassId} {dI : Nat → Nat → Nat} {y : Nat → ClassId} {A : Nat → Prop} (C0 : Cx p s m args meth c cX5_breakOff 3 none wsX5_breakOff RX5 A dC dI y) (a : Nat → Nat) (K : ModelS → Prop) : ∀ (S : ModelS) (v1 : Int32) (H : Heap) (locs : List Loc) (ls : Array Slot), va_P (dC, dI) vwCl (mdW y a S) H → va_D A (mdW y a S) → va_S A s.heap H locs → lv_has ls 3 [(0, .ref (a 0)), (1, .int v1), (2, .int 3)] → wp_X5_breakOff_2_3 K S v1 → W p l e ({ frames := 0, cells := 0, slots := 0, locals := 0 } : Room) s m args below meth c H locs 0 0 (MQ below (va_Qv K (BW dC dI A (fun u => mdW y a u)) A) args s 0 0 A) (F0 m 2 ls []) := by
  obtain ⟨hx, hb, hr, hml, hown, hts, hlocks, hA, hK⟩ := id C0
  have w9 := hts (.fieldLink RX5 9 "SharedWireModel" "state" "[I") (List.mem_of_getElem? (i := 1) rfl)
  have w13 := hts (.fieldLink RX5 13 "SharedWireModel" "sending" "[I") (List.mem_of_getElem? (i := 2) rfl)
  have w16 := hts (.fieldLink RX5 16 "SharedWireModel" "receiving" "[I") (List.mem_of_getElem? (i := 3) rfl)
  have hinX5 : ∀ w ∈ wsX50, w ∈ wsX5_breakOff := fun w h => List.mem_cons_of_mem _ (List.mem_append_right _ (h))
  intro S v1 H locs ls hP hD hS hl hf
  obtain ⟨mI, mA, mL⟩ := S
  unfold wp_X5_breakOff_2_3 at hf
  refine lv_iload_n hx hb dX5_breakOff_2 rfl (lv_at hl 2 rfl) ?_
  refine lv_iconst (v := 4) hx hb dX5_breakOff_3 (by decide) ?_
  refine lv_icmp_ge (tgt := 92) hx hb dX5_breakOff_4 (by decide) (fun c9 => absurd c9 (by decide)) (fun _ => ?_)
  refine lv_iload_n hx hb dX5_breakOff_7 rfl (lv_at hl 1 rfl) ?_
  refine lv_iload_n hx hb dX5_breakOff_8 rfl (lv_at hl 2 rfl) ?_
  refine lv_ishr hx hb dX5_breakOff_9 ?_
  refine lv_iconst (v := 1) hx hb dX5_breakOff_10 (by decide) ?_
  refine lv_iand hx hb dX5_breakOff_11 ?_
  refine lv_iconst (v := 1) hx hb dX5_breakOff_12 (by decide) ?_
  refine lv_icmp_ne (tgt := 54) hx hb dX5_breakOff_13 (by decide) (fun c10 => ?_) (fun c10 => ?_)
  · replace hf := hf.1 c10
    exact j_X5_breakOff_54_3 C0 a K (mI, mA, mL) v1 H locs ls hP hD hS (lv_sub hl [0, 1, 2] rfl) hf
  · replace hf := hf.2 c10
    refine lv_aload_n hx hb dX5_breakOff_16 rfl (lv_at hl 0 rfl) ?_
    refine va_get (D := (dC, dI)) (ci := 5) (v := .ref (a 3)) (C := RX5) (T := TX5) (N := 35) hx hb hts hinX5 hown hK.1 hP 0 rfl rfl 3 (by decide) w9 (fun _ h9 => h9) rfl dX5_breakOff_17 ?_
    refine lv_iload_n hx hb dX5_breakOff_20 rfl (lv_at hl 2 rfl) ?_
    refine ar_ild (f := (mA 3)) (j := 3) hx hb hK.1 hP 1 0 rfl rfl (clamp_lit 3 rfl) (vin_lit 3 4 rfl rfl) dX5_breakOff_21 ?_
    refine lv_iconst (v := 3) hx hb dX5_breakOff_22 (by decide) ?_
    refine lv_icmp_ne (tgt := 44) hx hb dX5_breakOff_23 (by decide) (fun c14 => ?_) (fun c14 => ?_)
    · replace hf := hf.1 c14
      refine lv_aload_n hx hb dX5_breakOff_44 rfl (lv_at hl 0 rfl) ?_
      refine va_get (D := (dC, dI)) (ci := 5) (v := .ref (a 5)) (C := RX5) (T := TX5) (N := 35) hx hb hts hinX5 hown hK.1 hP 0 rfl rfl 5 (by decide) w16 (fun _ h9 => h9) rfl dX5_breakOff_45 ?_
      refine lv_iload_n hx hb dX5_breakOff_48 rfl (lv_at hl 2 rfl) ?_
      refine lv_dup2_11 hx hb dX5_breakOff_49 rfl rfl ?_
      refine ar_ild (f := (mA 5)) (j := 3) hx hb hK.1 hP 3 0 rfl rfl (clamp_lit 3 rfl) (vin_lit 3 4 rfl rfl) dX5_breakOff_50 ?_
      refine lv_iconst (v := 1) hx hb dX5_breakOff_51 (by decide) ?_
      refine lv_iadd hx hb dX5_breakOff_52 ?_
      refine mst_5 (f := (mA 5)) (x := ((mA 5) 3) + 1) (j := 3) hx hb hK.1 hP hD hS rfl (clamp_lit 3 rfl) (vin_lit 3 4 rfl rfl) dX5_breakOff_53 (fun H locs hP hD hS => ?_)
      exact j_X5_breakOff_54_3 C0 a K (mI, va_up mA 5 (upd (mA 5) 3 (((mA 5) 3) + 1)), mL) v1 H locs ls hP hD hS (lv_sub hl [0, 1, 2] rfl) hf
    · replace hf := hf.2 c14
      refine lv_aload_n hx hb dX5_breakOff_26 rfl (lv_at hl 0 rfl) ?_
      refine va_get (D := (dC, dI)) (ci := 5) (v := .ref (a 4)) (C := RX5) (T := TX5) (N := 35) hx hb hts hinX5 hown hK.1 hP 0 rfl rfl 4 (by decide) w13 (fun _ h9 => h9) rfl dX5_breakOff_27 ?_
      refine lv_iload_n hx hb dX5_breakOff_30 rfl (lv_at hl 2 rfl) ?_
      refine lv_aload_n hx hb dX5_breakOff_31 rfl (lv_at hl 0 rfl) ?_
      refine va_get (D := (dC, dI)) (ci := 5) (v := .ref (a 4)) (C := RX5) (T := TX5) (N := 35) hx hb hts hinX5 hown hK.1 hP 0 rfl rfl 4 (by decide) w13 (fun _ h9 => h9) rfl dX5_breakOff_32 ?_
      refine lv_iload_n hx hb dX5_breakOff_35 rfl (lv_at hl 2 rfl) ?_
      refine ar_ild (f := (mA 4)) (j := 3) hx hb hK.1 hP 2 0 rfl rfl (clamp_lit 3 rfl) (vin_lit 3 4 rfl rfl) dX5_breakOff_36 ?_
      refine lv_bipush (v := 8) hx hb dX5_breakOff_37 (by decide) ?_
      refine lv_iadd hx hb dX5_breakOff_39 ?_
      refine mst_4 (f := (mA 4)) (x := ((mA 4) 3) + 8) (j := 3) hx hb hK.1 hP hD hS rfl (clamp_lit 3 rfl) (vin_lit 3 4 rfl rfl) dX5_breakOff_40 (fun H locs hP hD hS => ?_)
      refine lv_goto (tgt := 54) hx hb dX5_breakOff_41 (by decide) ?_
      exact j_X5_breakOff_54_3 C0 a K (mI, va_up mA 4 (upd (mA 4) 3 (((mA 4) 3) + 8)), mL) v1 H locs ls hP hD hS (lv_sub hl [0, 1, 2] rfl) hf
set_option maxHeartbeats 4000000 in
set_option maxRecDepth 100000 in
theorem j_X5_breakOff_85_2 {p : Program} {l : Launch} {e : Env} {s : State} {m : MethodId} {args : Array Value} {below : List Frame} {meth : Method} {c : Code} {dC : Nat → ClassId} {dI : Nat → Nat → Nat} {y : Nat → ClassId} {A : Nat → Prop} (C0 : Cx p s m args meth c cX5_breakOff 3 none wsX5_breakOff RX5 A dC dI y) (a : Nat → Nat) (K : ModelS → Prop) : ∀ (S : ModelS) (v1 : Int32) (k0 : Int32) (k1 : Int32) (H : Heap) (locs : List Loc) (ls : Array Slot), va_P (dC, dI) vwCl (mdW y a S) H → va_D A (mdW y a S) → va_S A s.heap H locs → lv_has ls 3 [(0, .ref (a 0)), (1, .int v1), (2, .int 2)] → wp_X5_breakOff_85_2 K S v1 k0 k1 → W p l e ({ frames := 0, cells := 0, slots := 0, locals := 0 } : Room) s m args below meth c H locs 0 0 (MQ below (va_Qv K (BW dC dI A (fun u => mdW y a u)) A) args s 0 0 A) (F0 m 85 ls [.int k0, .int k1, .ref (a 3)]) := by
  obtain ⟨hx, hb, hr, hml, hown, hts, hlocks, hA, hK⟩ := id C0
  intro S v1 k0 k1 H locs ls hP hD hS hl hf
  obtain ⟨mI, mA, mL⟩ := S
  unfold wp_X5_breakOff_85_2 at hf
  have g9 := hf.1
  replace hf := hf.2
  refine mst_3 (f := (mA 3)) (x := k0) (j := k1.toNatClampNeg) hx hb hK.1 hP hD hS rfl rfl g9 dX5_breakOff_85 (fun H locs hP hD hS => ?_)
  refine lv_iinc (v := 3) (lv' := [(2, .int 3), (0, .ref (a 0)), (1, .int v1)]) hx hb dX5_breakOff_86 hl (k := 2) rfl (by decide) (by decide) rfl (fun ls hl => ?_)
  refine lv_goto (tgt := 2) hx hb dX5_breakOff_89 (by decide) ?_
  exact j_X5_breakOff_2_3 C0 a K (mI, va_up mA 3 (upd (mA 3) k1.toNatClampNeg k0), mL) v1 H locs ls hP hD hS (lv_sub hl [1, 2, 0] rfl) hf
set_option maxHeartbeats 4000000 in
set_option maxRecDepth 100000 in
theorem j_X5_breakOff_80_2 {p : Program} {l : Launch} {e : Env} {s : State} {m : MethodId} {args : Array Value} {below : List Frame} {meth : Method} {c : Code} {dC : Nat → ClassId} {dI : Nat → Nat → Nat} {y : Nat → ClassId} {A : Nat → Prop} (C0 : Cx p s m args meth c cX5_breakOff 3 none wsX5_breakOff RX5 A dC dI y) (a : Nat → Nat) (K : ModelS → Prop) : ∀ (S : ModelS) (v1 : Int32) (k0 : Int32) (H : Heap) (locs : List Loc) (ls : Array Slot), va_P (dC, dI) vwCl (mdW y a S) H → va_D A (mdW y a S) → va_S A s.heap H locs → lv_has ls 3 [(0, .ref (a 0)), (1, .int v1), (2, .int 2)] → wp_X5_breakOff_80_2 K S v1 k0 → W p l e ({ frames := 0, cells := 0, slots := 0, locals := 0 } : Room) s m args below meth c H locs 0 0 (MQ below (va_Qv K (BW dC dI A (fun u => mdW y a u)) A) args s 0 0 A) (F0 m 80 ls [.int k0, .ref (a 3)]) := by
  obtain ⟨hx, hb, hr, hml, hown, hts, hlocks, hA, hK⟩ := id C0
  intro S v1 k0 H locs ls hP hD hS hl hf
  obtain ⟨mI, mA, mL⟩ := S
  unfold wp_X5_breakOff_80_2 at hf
  refine lv_iconst (v := 0) hx hb dX5_breakOff_80 (by decide) ?_
  refine lv_goto (tgt := 85) hx hb dX5_breakOff_81 (by decide) ?_
  exact j_X5_breakOff_85_2 C0 a K (mI, mA, mL) v1 0 k0 H locs ls hP hD hS (lv_sub hl [0, 1, 2] rfl) hf
set_option maxHeartbeats 4000000 in
set_option maxRecDepth 100000 in
theorem j_X5_breakOff_54_2 {p : Program} {l : Launch} {e : Env} {s : State} {m : MethodId} {args : Array Value} {below : List Frame} {meth : Method} {c : Code} {dC : Nat → ClassId} {dI : Nat → Nat → Nat} {y : Nat → ClassId} {A : Nat → Prop} (C0 : Cx p s m args meth c cX5_breakOff 3 none wsX5_breakOff RX5 A dC dI y) (a : Nat → Nat) (K : ModelS → Prop) : ∀ (S : ModelS) (v1 : Int32) (H : Heap) (locs : List Loc) (ls : Array Slot), va_P (dC, dI) vwCl (mdW y a S) H → va_D A (mdW y a S) → va_S A s.heap H locs → lv_has ls 3 [(0, .ref (a 0)), (1, .int v1), (2, .int 2)] → wp_X5_breakOff_54_2 K S v1 → W p l e ({ frames := 0, cells := 0, slots := 0, locals := 0 } : Room) s m args below meth c H locs 0 0 (MQ below (va_Qv K (BW dC dI A (fun u => mdW y a u)) A) args s 0 0 A) (F0 m 54 ls []) := by
  obtain ⟨hx, hb, hr, hml, hown, hts, hlocks, hA, hK⟩ := id C0
  have w9 := hts (.fieldLink RX5 9 "SharedWireModel" "state" "[I") (List.mem_of_getElem? (i := 1) rfl)
  have w13 := hts (.fieldLink RX5 13 "SharedWireModel" "sending" "[I") (List.mem_of_getElem? (i := 2) rfl)
  have hinX5 : ∀ w ∈ wsX50, w ∈ wsX5_breakOff := fun w h => List.mem_cons_of_mem _ (List.mem_append_right _ (h))
  intro S v1 H locs ls hP hD hS hl hf
  obtain ⟨mI, mA, mL⟩ := S
  unfold wp_X5_breakOff_54_2 at hf
  refine lv_aload_n hx hb dX5_breakOff_54 rfl (lv_at hl 0 rfl) ?_
  refine va_get (D := (dC, dI)) (ci := 5) (v := .ref (a 3)) (C := RX5) (T := TX5) (N := 35) hx hb hts hinX5 hown hK.1 hP 0 rfl rfl 3 (by decide) w9 (fun _ h9 => h9) rfl dX5_breakOff_55 ?_
  refine lv_iload_n hx hb dX5_breakOff_58 rfl (lv_at hl 2 rfl) ?_
  refine lv_aload_n hx hb dX5_breakOff_59 rfl (lv_at hl 0 rfl) ?_
  refine va_get (D := (dC, dI)) (ci := 5) (v := .ref (a 3)) (C := RX5) (T := TX5) (N := 35) hx hb hts hinX5 hown hK.1 hP 0 rfl rfl 3 (by decide) w9 (fun _ h9 => h9) rfl dX5_breakOff_60 ?_
  refine lv_iload_n hx hb dX5_breakOff_63 rfl (lv_at hl 2 rfl) ?_
  refine ar_ild (f := (mA 3)) (j := 2) hx hb hK.1 hP 1 0 rfl rfl (clamp_lit 2 rfl) (vin_lit 2 4 rfl rfl) dX5_breakOff_64 ?_
  refine lv_if_eq (tgt := 80) hx hb dX5_breakOff_65 (by decide) (fun c8 => ?_) (fun c8 => ?_)
  · replace hf := hf.1 c8
    exact j_X5_breakOff_80_2 C0 a K (mI, mA, mL) v1 2 H locs ls hP hD hS (lv_sub hl [0, 1, 2] rfl) hf
  · replace hf := hf.2 c8
    refine lv_aload_n hx hb dX5_breakOff_68 rfl (lv_at hl 0 rfl) ?_
    refine va_get (D := (dC, dI)) (ci := 5) (v := .ref (a 4)) (C := RX5) (T := TX5) (N := 35) hx hb hts hinX5 hown hK.1 hP 0 rfl rfl 4 (by decide) w13 (fun _ h9 => h9) rfl dX5_breakOff_69 ?_
    refine lv_iload_n hx hb dX5_breakOff_72 rfl (lv_at hl 2 rfl) ?_
    refine ar_ild (f := (mA 4)) (j := 2) hx hb hK.1 hP 2 0 rfl rfl (clamp_lit 2 rfl) (vin_lit 2 4 rfl rfl) dX5_breakOff_73 ?_
    refine lv_sipush (v := 255) hx hb dX5_breakOff_74 (by decide) ?_
    refine lv_icmp_le (tgt := 84) hx hb dX5_breakOff_77 (by decide) (fun c15 => ?_) (fun c15 => ?_)
    · replace hf := hf.1 c15
      refine lv_iconst (v := 1) hx hb dX5_breakOff_84 (by decide) ?_
      exact j_X5_breakOff_85_2 C0 a K (mI, mA, mL) v1 1 2 H locs ls hP hD hS (lv_sub hl [0, 1, 2] rfl) hf
    · replace hf := hf.2 c15
      exact j_X5_breakOff_80_2 C0 a K (mI, mA, mL) v1 2 H locs ls hP hD hS (lv_sub hl [0, 1, 2] rfl) hf
set_option maxHeartbeats 4000000 in
set_option maxRecDepth 100000 in
theorem j_X5_breakOff_2_2 {p : Program} {l : Launch} {e : Env} {s : State} {m : MethodId} {args : Array Value} {below : List Frame} {meth : Method} {c : Code} {dC : Nat → ClassId} {dI : Nat → Nat → Nat} {y : Nat → ClassId} {A : Nat → Prop} (C0 : Cx p s m args meth c cX5_breakOff 3 none wsX5_breakOff RX5 A dC dI y) (a : Nat → Nat) (K : ModelS → Prop) : ∀ (S : ModelS) (v1 : Int32) (H : Heap) (locs : List Loc) (ls : Array Slot), va_P (dC, dI) vwCl (mdW y a S) H → va_D A (mdW y a S) → va_S A s.heap H locs → lv_has ls 3 [(0, .ref (a 0)), (1, .int v1), (2, .int 2)] → wp_X5_breakOff_2_2 K S v1 → W p l e ({ frames := 0, cells := 0, slots := 0, locals := 0 } : Room) s m args below meth c H locs 0 0 (MQ below (va_Qv K (BW dC dI A (fun u => mdW y a u)) A) args s 0 0 A) (F0 m 2 ls []) := by
  obtain ⟨hx, hb, hr, hml, hown, hts, hlocks, hA, hK⟩ := id C0
  have w9 := hts (.fieldLink RX5 9 "SharedWireModel" "state" "[I") (List.mem_of_getElem? (i := 1) rfl)
  have w13 := hts (.fieldLink RX5 13 "SharedWireModel" "sending" "[I") (List.mem_of_getElem? (i := 2) rfl)
  have w16 := hts (.fieldLink RX5 16 "SharedWireModel" "receiving" "[I") (List.mem_of_getElem? (i := 3) rfl)
  have hinX5 : ∀ w ∈ wsX50, w ∈ wsX5_breakOff := fun w h => List.mem_cons_of_mem _ (List.mem_append_right _ (h))
  intro S v1 H locs ls hP hD hS hl hf
  obtain ⟨mI, mA, mL⟩ := S
  unfold wp_X5_breakOff_2_2 at hf
  refine lv_iload_n hx hb dX5_breakOff_2 rfl (lv_at hl 2 rfl) ?_
  refine lv_iconst (v := 4) hx hb dX5_breakOff_3 (by decide) ?_
  refine lv_icmp_ge (tgt := 92) hx hb dX5_breakOff_4 (by decide) (fun c9 => absurd c9 (by decide)) (fun _ => ?_)
  refine lv_iload_n hx hb dX5_breakOff_7 rfl (lv_at hl 1 rfl) ?_
  refine lv_iload_n hx hb dX5_breakOff_8 rfl (lv_at hl 2 rfl) ?_
  refine lv_ishr hx hb dX5_breakOff_9 ?_
  refine lv_iconst (v := 1) hx hb dX5_breakOff_10 (by decide) ?_
  refine lv_iand hx hb dX5_breakOff_11 ?_
  refine lv_iconst (v := 1) hx hb dX5_breakOff_12 (by decide) ?_
  refine lv_icmp_ne (tgt := 54) hx hb dX5_breakOff_13 (by decide) (fun c7 => ?_) (fun c7 => ?_)
  · replace hf := hf.1 c7
    exact j_X5_breakOff_54_2 C0 a K (mI, mA, mL) v1 H locs ls hP hD hS (lv_sub hl [0, 1, 2] rfl) hf
  · replace hf := hf.2 c7
    refine lv_aload_n hx hb dX5_breakOff_16 rfl (lv_at hl 0 rfl) ?_
    refine va_get (D := (dC, dI)) (ci := 5) (v := .ref (a 3)) (C := RX5) (T := TX5) (N := 35) hx hb hts hinX5 hown hK.1 hP 0 rfl rfl 3 (by decide) w9 (fun _ h9 => h9) rfl dX5_breakOff_17 ?_
    refine lv_iload_n hx hb dX5_breakOff_20 rfl (lv_at hl 2 rfl) ?_
    refine ar_ild (f := (mA 3)) (j := 2) hx hb hK.1 hP 1 0 rfl rfl (clamp_lit 2 rfl) (vin_lit 2 4 rfl rfl) dX5_breakOff_21 ?_
    refine lv_iconst (v := 3) hx hb dX5_breakOff_22 (by decide) ?_
    refine lv_icmp_ne (tgt := 44) hx hb dX5_breakOff_23 (by decide) (fun c16 => ?_) (fun c16 => ?_)
    · replace hf := hf.1 c16
      refine lv_aload_n hx hb dX5_breakOff_44 rfl (lv_at hl 0 rfl) ?_
      refine va_get (D := (dC, dI)) (ci := 5) (v := .ref (a 5)) (C := RX5) (T := TX5) (N := 35) hx hb hts hinX5 hown hK.1 hP 0 rfl rfl 5 (by decide) w16 (fun _ h9 => h9) rfl dX5_breakOff_45 ?_
      refine lv_iload_n hx hb dX5_breakOff_48 rfl (lv_at hl 2 rfl) ?_
      refine lv_dup2_11 hx hb dX5_breakOff_49 rfl rfl ?_
      refine ar_ild (f := (mA 5)) (j := 2) hx hb hK.1 hP 3 0 rfl rfl (clamp_lit 2 rfl) (vin_lit 2 4 rfl rfl) dX5_breakOff_50 ?_
      refine lv_iconst (v := 1) hx hb dX5_breakOff_51 (by decide) ?_
      refine lv_iadd hx hb dX5_breakOff_52 ?_
      refine mst_5 (f := (mA 5)) (x := ((mA 5) 2) + 1) (j := 2) hx hb hK.1 hP hD hS rfl (clamp_lit 2 rfl) (vin_lit 2 4 rfl rfl) dX5_breakOff_53 (fun H locs hP hD hS => ?_)
      exact j_X5_breakOff_54_2 C0 a K (mI, va_up mA 5 (upd (mA 5) 2 (((mA 5) 2) + 1)), mL) v1 H locs ls hP hD hS (lv_sub hl [0, 1, 2] rfl) hf
    · replace hf := hf.2 c16
      refine lv_aload_n hx hb dX5_breakOff_26 rfl (lv_at hl 0 rfl) ?_
      refine va_get (D := (dC, dI)) (ci := 5) (v := .ref (a 4)) (C := RX5) (T := TX5) (N := 35) hx hb hts hinX5 hown hK.1 hP 0 rfl rfl 4 (by decide) w13 (fun _ h9 => h9) rfl dX5_breakOff_27 ?_
      refine lv_iload_n hx hb dX5_breakOff_30 rfl (lv_at hl 2 rfl) ?_
      refine lv_aload_n hx hb dX5_breakOff_31 rfl (lv_at hl 0 rfl) ?_
      refine va_get (D := (dC, dI)) (ci := 5) (v := .ref (a 4)) (C := RX5) (T := TX5) (N := 35) hx hb hts hinX5 hown hK.1 hP 0 rfl rfl 4 (by decide) w13 (fun _ h9 => h9) rfl dX5_breakOff_32 ?_
      refine lv_iload_n hx hb dX5_breakOff_35 rfl (lv_at hl 2 rfl) ?_
      refine ar_ild (f := (mA 4)) (j := 2) hx hb hK.1 hP 2 0 rfl rfl (clamp_lit 2 rfl) (vin_lit 2 4 rfl rfl) dX5_breakOff_36 ?_
      refine lv_bipush (v := 8) hx hb dX5_breakOff_37 (by decide) ?_
      refine lv_iadd hx hb dX5_breakOff_39 ?_
      refine mst_4 (f := (mA 4)) (x := ((mA 4) 2) + 8) (j := 2) hx hb hK.1 hP hD hS rfl (clamp_lit 2 rfl) (vin_lit 2 4 rfl rfl) dX5_breakOff_40 (fun H locs hP hD hS => ?_)
      refine lv_goto (tgt := 54) hx hb dX5_breakOff_41 (by decide) ?_
      exact j_X5_breakOff_54_2 C0 a K (mI, va_up mA 4 (upd (mA 4) 2 (((mA 4) 2) + 8)), mL) v1 H locs ls hP hD hS (lv_sub hl [0, 1, 2] rfl) hf
set_option maxHeartbeats 4000000 in
set_option maxRecDepth 100000 in
theorem j_X5_breakOff_85_1 {p : Program} {l : Launch} {e : Env} {s : State} {m : MethodId} {args : Array Value} {below : List Frame} {meth : Method} {c : Code} {dC : Nat → ClassId} {dI : Nat → Nat → Nat} {y : Nat → ClassId} {A : Nat → Prop} (C0 : Cx p s m args meth c cX5_breakOff 3 none wsX5_breakOff RX5 A dC dI y) (a : Nat → Nat) (K : ModelS → Prop) : ∀ (S : ModelS) (v1 : Int32) (k0 : Int32) (k1 : Int32) (H : Heap) (locs : List Loc) (ls : Array Slot), va_P (dC, dI) vwCl (mdW y a S) H → va_D A (mdW y a S) → va_S A s.heap H locs → lv_has ls 3 [(0, .ref (a 0)), (1, .int v1), (2, .int 1)] → wp_X5_breakOff_85_1 K S v1 k0 k1 → W p l e ({ frames := 0, cells := 0, slots := 0, locals := 0 } : Room) s m args below meth c H locs 0 0 (MQ below (va_Qv K (BW dC dI A (fun u => mdW y a u)) A) args s 0 0 A) (F0 m 85 ls [.int k0, .int k1, .ref (a 3)]) := by
  obtain ⟨hx, hb, hr, hml, hown, hts, hlocks, hA, hK⟩ := id C0
  intro S v1 k0 k1 H locs ls hP hD hS hl hf
  obtain ⟨mI, mA, mL⟩ := S
  unfold wp_X5_breakOff_85_1 at hf
  have g6 := hf.1
  replace hf := hf.2
  refine mst_3 (f := (mA 3)) (x := k0) (j := k1.toNatClampNeg) hx hb hK.1 hP hD hS rfl rfl g6 dX5_breakOff_85 (fun H locs hP hD hS => ?_)
  refine lv_iinc (v := 2) (lv' := [(2, .int 2), (0, .ref (a 0)), (1, .int v1)]) hx hb dX5_breakOff_86 hl (k := 2) rfl (by decide) (by decide) rfl (fun ls hl => ?_)
  refine lv_goto (tgt := 2) hx hb dX5_breakOff_89 (by decide) ?_
  exact j_X5_breakOff_2_2 C0 a K (mI, va_up mA 3 (upd (mA 3) k1.toNatClampNeg k0), mL) v1 H locs ls hP hD hS (lv_sub hl [1, 2, 0] rfl) hf
set_option maxHeartbeats 4000000 in
set_option maxRecDepth 100000 in
theorem j_X5_breakOff_80_1 {p : Program} {l : Launch} {e : Env} {s : State} {m : MethodId} {args : Array Value} {below : List Frame} {meth : Method} {c : Code} {dC : Nat → ClassId} {dI : Nat → Nat → Nat} {y : Nat → ClassId} {A : Nat → Prop} (C0 : Cx p s m args meth c cX5_breakOff 3 none wsX5_breakOff RX5 A dC dI y) (a : Nat → Nat) (K : ModelS → Prop) : ∀ (S : ModelS) (v1 : Int32) (k0 : Int32) (H : Heap) (locs : List Loc) (ls : Array Slot), va_P (dC, dI) vwCl (mdW y a S) H → va_D A (mdW y a S) → va_S A s.heap H locs → lv_has ls 3 [(0, .ref (a 0)), (1, .int v1), (2, .int 1)] → wp_X5_breakOff_80_1 K S v1 k0 → W p l e ({ frames := 0, cells := 0, slots := 0, locals := 0 } : Room) s m args below meth c H locs 0 0 (MQ below (va_Qv K (BW dC dI A (fun u => mdW y a u)) A) args s 0 0 A) (F0 m 80 ls [.int k0, .ref (a 3)]) := by
  obtain ⟨hx, hb, hr, hml, hown, hts, hlocks, hA, hK⟩ := id C0
  intro S v1 k0 H locs ls hP hD hS hl hf
  obtain ⟨mI, mA, mL⟩ := S
  unfold wp_X5_breakOff_80_1 at hf
  refine lv_iconst (v := 0) hx hb dX5_breakOff_80 (by decide) ?_
  refine lv_goto (tgt := 85) hx hb dX5_breakOff_81 (by decide) ?_
  exact j_X5_breakOff_85_1 C0 a K (mI, mA, mL) v1 0 k0 H locs ls hP hD hS (lv_sub hl [0, 1, 2] rfl) hf
set_option maxHeartbeats 4000000 in
set_option maxRecDepth 100000 in
theorem j_X5_breakOff_54_1 {p : Program} {l : Launch} {e : Env} {s : State} {m : MethodId} {args : Array Value} {below : List Frame} {meth : Method} {c : Code} {dC : Nat → ClassId} {dI : Nat → Nat → Nat} {y : Nat → ClassId} {A : Nat → Prop} (C0 : Cx p s m args meth c cX5_breakOff 3 none wsX5_breakOff RX5 A dC dI y) (a : Nat → Nat) (K : ModelS → Prop) : ∀ (S : ModelS) (v1 : Int32) (H : Heap) (locs : List Loc) (ls : Array Slot), va_P (dC, dI) vwCl (mdW y a S) H → va_D A (mdW y a S) → va_S A s.heap H locs → lv_has ls 3 [(0, .ref (a 0)), (1, .int v1), (2, .int 1)] → wp_X5_breakOff_54_1 K S v1 → W p l e ({ frames := 0, cells := 0, slots := 0, locals := 0 } : Room) s m args below meth c H locs 0 0 (MQ below (va_Qv K (BW dC dI A (fun u => mdW y a u)) A) args s 0 0 A) (F0 m 54 ls []) := by
  obtain ⟨hx, hb, hr, hml, hown, hts, hlocks, hA, hK⟩ := id C0
  have w9 := hts (.fieldLink RX5 9 "SharedWireModel" "state" "[I") (List.mem_of_getElem? (i := 1) rfl)
  have w13 := hts (.fieldLink RX5 13 "SharedWireModel" "sending" "[I") (List.mem_of_getElem? (i := 2) rfl)
  have hinX5 : ∀ w ∈ wsX50, w ∈ wsX5_breakOff := fun w h => List.mem_cons_of_mem _ (List.mem_append_right _ (h))
  intro S v1 H locs ls hP hD hS hl hf
  obtain ⟨mI, mA, mL⟩ := S
  unfold wp_X5_breakOff_54_1 at hf
  refine lv_aload_n hx hb dX5_breakOff_54 rfl (lv_at hl 0 rfl) ?_
  refine va_get (D := (dC, dI)) (ci := 5) (v := .ref (a 3)) (C := RX5) (T := TX5) (N := 35) hx hb hts hinX5 hown hK.1 hP 0 rfl rfl 3 (by decide) w9 (fun _ h9 => h9) rfl dX5_breakOff_55 ?_
  refine lv_iload_n hx hb dX5_breakOff_58 rfl (lv_at hl 2 rfl) ?_
  refine lv_aload_n hx hb dX5_breakOff_59 rfl (lv_at hl 0 rfl) ?_
  refine va_get (D := (dC, dI)) (ci := 5) (v := .ref (a 3)) (C := RX5) (T := TX5) (N := 35) hx hb hts hinX5 hown hK.1 hP 0 rfl rfl 3 (by decide) w9 (fun _ h9 => h9) rfl dX5_breakOff_60 ?_
  refine lv_iload_n hx hb dX5_breakOff_63 rfl (lv_at hl 2 rfl) ?_
  refine ar_ild (f := (mA 3)) (j := 1) hx hb hK.1 hP 1 0 rfl rfl (clamp_lit 1 rfl) (vin_lit 1 4 rfl rfl) dX5_breakOff_64 ?_
  refine lv_if_eq (tgt := 80) hx hb dX5_breakOff_65 (by decide) (fun c5 => ?_) (fun c5 => ?_)
  · replace hf := hf.1 c5
    exact j_X5_breakOff_80_1 C0 a K (mI, mA, mL) v1 1 H locs ls hP hD hS (lv_sub hl [0, 1, 2] rfl) hf
  · replace hf := hf.2 c5
    refine lv_aload_n hx hb dX5_breakOff_68 rfl (lv_at hl 0 rfl) ?_
    refine va_get (D := (dC, dI)) (ci := 5) (v := .ref (a 4)) (C := RX5) (T := TX5) (N := 35) hx hb hts hinX5 hown hK.1 hP 0 rfl rfl 4 (by decide) w13 (fun _ h9 => h9) rfl dX5_breakOff_69 ?_
    refine lv_iload_n hx hb dX5_breakOff_72 rfl (lv_at hl 2 rfl) ?_
    refine ar_ild (f := (mA 4)) (j := 1) hx hb hK.1 hP 2 0 rfl rfl (clamp_lit 1 rfl) (vin_lit 1 4 rfl rfl) dX5_breakOff_73 ?_
    refine lv_sipush (v := 255) hx hb dX5_breakOff_74 (by decide) ?_
    refine lv_icmp_le (tgt := 84) hx hb dX5_breakOff_77 (by decide) (fun c17 => ?_) (fun c17 => ?_)
    · replace hf := hf.1 c17
      refine lv_iconst (v := 1) hx hb dX5_breakOff_84 (by decide) ?_
      exact j_X5_breakOff_85_1 C0 a K (mI, mA, mL) v1 1 1 H locs ls hP hD hS (lv_sub hl [0, 1, 2] rfl) hf
    · replace hf := hf.2 c17
      exact j_X5_breakOff_80_1 C0 a K (mI, mA, mL) v1 1 H locs ls hP hD hS (lv_sub hl [0, 1, 2] rfl) hf
set_option maxHeartbeats 4000000 in
set_option maxRecDepth 100000 in
theorem j_X5_breakOff_2_1 {p : Program} {l : Launch} {e : Env} {s : State} {m : MethodId} {args : Array Value} {below : List Frame} {meth : Method} {c : Code} {dC : Nat → ClassId} {dI : Nat → Nat → Nat} {y : Nat → ClassId} {A : Nat → Prop} (C0 : Cx p s m args meth c cX5_breakOff 3 none wsX5_breakOff RX5 A dC dI y) (a : Nat → Nat) (K : ModelS → Prop) : ∀ (S : ModelS) (v1 : Int32) (H : Heap) (locs : List Loc) (ls : Array Slot), va_P (dC, dI) vwCl (mdW y a S) H → va_D A (mdW y a S) → va_S A s.heap H locs → lv_has ls 3 [(0, .ref (a 0)), (1, .int v1), (2, .int 1)] → wp_X5_breakOff_2_1 K S v1 → W p l e ({ frames := 0, cells := 0, slots := 0, locals := 0 } : Room) s m args below meth c H locs 0 0 (MQ below (va_Qv K (BW dC dI A (fun u => mdW y a u)) A) args s 0 0 A) (F0 m 2 ls []) := by
  obtain ⟨hx, hb, hr, hml, hown, hts, hlocks, hA, hK⟩ := id C0
  have w9 := hts (.fieldLink RX5 9 "SharedWireModel" "state" "[I") (List.mem_of_getElem? (i := 1) rfl)
  have w13 := hts (.fieldLink RX5 13 "SharedWireModel" "sending" "[I") (List.mem_of_getElem? (i := 2) rfl)
  have w16 := hts (.fieldLink RX5 16 "SharedWireModel" "receiving" "[I") (List.mem_of_getElem? (i := 3) rfl)
  have hinX5 : ∀ w ∈ wsX50, w ∈ wsX5_breakOff := fun w h => List.mem_cons_of_mem _ (List.mem_append_right _ (h))
  intro S v1 H locs ls hP hD hS hl hf
  obtain ⟨mI, mA, mL⟩ := S
  unfold wp_X5_breakOff_2_1 at hf
  refine lv_iload_n hx hb dX5_breakOff_2 rfl (lv_at hl 2 rfl) ?_
  refine lv_iconst (v := 4) hx hb dX5_breakOff_3 (by decide) ?_
  refine lv_icmp_ge (tgt := 92) hx hb dX5_breakOff_4 (by decide) (fun c9 => absurd c9 (by decide)) (fun _ => ?_)
  refine lv_iload_n hx hb dX5_breakOff_7 rfl (lv_at hl 1 rfl) ?_
  refine lv_iload_n hx hb dX5_breakOff_8 rfl (lv_at hl 2 rfl) ?_
  refine lv_ishr hx hb dX5_breakOff_9 ?_
  refine lv_iconst (v := 1) hx hb dX5_breakOff_10 (by decide) ?_
  refine lv_iand hx hb dX5_breakOff_11 ?_
  refine lv_iconst (v := 1) hx hb dX5_breakOff_12 (by decide) ?_
  refine lv_icmp_ne (tgt := 54) hx hb dX5_breakOff_13 (by decide) (fun c4 => ?_) (fun c4 => ?_)
  · replace hf := hf.1 c4
    exact j_X5_breakOff_54_1 C0 a K (mI, mA, mL) v1 H locs ls hP hD hS (lv_sub hl [0, 1, 2] rfl) hf
  · replace hf := hf.2 c4
    refine lv_aload_n hx hb dX5_breakOff_16 rfl (lv_at hl 0 rfl) ?_
    refine va_get (D := (dC, dI)) (ci := 5) (v := .ref (a 3)) (C := RX5) (T := TX5) (N := 35) hx hb hts hinX5 hown hK.1 hP 0 rfl rfl 3 (by decide) w9 (fun _ h9 => h9) rfl dX5_breakOff_17 ?_
    refine lv_iload_n hx hb dX5_breakOff_20 rfl (lv_at hl 2 rfl) ?_
    refine ar_ild (f := (mA 3)) (j := 1) hx hb hK.1 hP 1 0 rfl rfl (clamp_lit 1 rfl) (vin_lit 1 4 rfl rfl) dX5_breakOff_21 ?_
    refine lv_iconst (v := 3) hx hb dX5_breakOff_22 (by decide) ?_
    refine lv_icmp_ne (tgt := 44) hx hb dX5_breakOff_23 (by decide) (fun c18 => ?_) (fun c18 => ?_)
    · replace hf := hf.1 c18
      refine lv_aload_n hx hb dX5_breakOff_44 rfl (lv_at hl 0 rfl) ?_
      refine va_get (D := (dC, dI)) (ci := 5) (v := .ref (a 5)) (C := RX5) (T := TX5) (N := 35) hx hb hts hinX5 hown hK.1 hP 0 rfl rfl 5 (by decide) w16 (fun _ h9 => h9) rfl dX5_breakOff_45 ?_
      refine lv_iload_n hx hb dX5_breakOff_48 rfl (lv_at hl 2 rfl) ?_
      refine lv_dup2_11 hx hb dX5_breakOff_49 rfl rfl ?_
      refine ar_ild (f := (mA 5)) (j := 1) hx hb hK.1 hP 3 0 rfl rfl (clamp_lit 1 rfl) (vin_lit 1 4 rfl rfl) dX5_breakOff_50 ?_
      refine lv_iconst (v := 1) hx hb dX5_breakOff_51 (by decide) ?_
      refine lv_iadd hx hb dX5_breakOff_52 ?_
      refine mst_5 (f := (mA 5)) (x := ((mA 5) 1) + 1) (j := 1) hx hb hK.1 hP hD hS rfl (clamp_lit 1 rfl) (vin_lit 1 4 rfl rfl) dX5_breakOff_53 (fun H locs hP hD hS => ?_)
      exact j_X5_breakOff_54_1 C0 a K (mI, va_up mA 5 (upd (mA 5) 1 (((mA 5) 1) + 1)), mL) v1 H locs ls hP hD hS (lv_sub hl [0, 1, 2] rfl) hf
    · replace hf := hf.2 c18
      refine lv_aload_n hx hb dX5_breakOff_26 rfl (lv_at hl 0 rfl) ?_
      refine va_get (D := (dC, dI)) (ci := 5) (v := .ref (a 4)) (C := RX5) (T := TX5) (N := 35) hx hb hts hinX5 hown hK.1 hP 0 rfl rfl 4 (by decide) w13 (fun _ h9 => h9) rfl dX5_breakOff_27 ?_
      refine lv_iload_n hx hb dX5_breakOff_30 rfl (lv_at hl 2 rfl) ?_
      refine lv_aload_n hx hb dX5_breakOff_31 rfl (lv_at hl 0 rfl) ?_
      refine va_get (D := (dC, dI)) (ci := 5) (v := .ref (a 4)) (C := RX5) (T := TX5) (N := 35) hx hb hts hinX5 hown hK.1 hP 0 rfl rfl 4 (by decide) w13 (fun _ h9 => h9) rfl dX5_breakOff_32 ?_
      refine lv_iload_n hx hb dX5_breakOff_35 rfl (lv_at hl 2 rfl) ?_
      refine ar_ild (f := (mA 4)) (j := 1) hx hb hK.1 hP 2 0 rfl rfl (clamp_lit 1 rfl) (vin_lit 1 4 rfl rfl) dX5_breakOff_36 ?_
      refine lv_bipush (v := 8) hx hb dX5_breakOff_37 (by decide) ?_
      refine lv_iadd hx hb dX5_breakOff_39 ?_
      refine mst_4 (f := (mA 4)) (x := ((mA 4) 1) + 8) (j := 1) hx hb hK.1 hP hD hS rfl (clamp_lit 1 rfl) (vin_lit 1 4 rfl rfl) dX5_breakOff_40 (fun H locs hP hD hS => ?_)
      refine lv_goto (tgt := 54) hx hb dX5_breakOff_41 (by decide) ?_
      exact j_X5_breakOff_54_1 C0 a K (mI, va_up mA 4 (upd (mA 4) 1 (((mA 4) 1) + 8)), mL) v1 H locs ls hP hD hS (lv_sub hl [0, 1, 2] rfl) hf
set_option maxHeartbeats 4000000 in
set_option maxRecDepth 100000 in
theorem j_X5_breakOff_85_0 {p : Program} {l : Launch} {e : Env} {s : State} {m : MethodId} {args : Array Value} {below : List Frame} {meth : Method} {c : Code} {dC : Nat → ClassId} {dI : Nat → Nat → Nat} {y : Nat → ClassId} {A : Nat → Prop} (C0 : Cx p s m args meth c cX5_breakOff 3 none wsX5_breakOff RX5 A dC dI y) (a : Nat → Nat) (K : ModelS → Prop) : ∀ (S : ModelS) (v1 : Int32) (k0 : Int32) (k1 : Int32) (H : Heap) (locs : List Loc) (ls : Array Slot), va_P (dC, dI) vwCl (mdW y a S) H → va_D A (mdW y a S) → va_S A s.heap H locs → lv_has ls 3 [(0, .ref (a 0)), (1, .int v1), (2, .int 0)] → wp_X5_breakOff_85_0 K S v1 k0 k1 → W p l e ({ frames := 0, cells := 0, slots := 0, locals := 0 } : Room) s m args below meth c H locs 0 0 (MQ below (va_Qv K (BW dC dI A (fun u => mdW y a u)) A) args s 0 0 A) (F0 m 85 ls [.int k0, .int k1, .ref (a 3)]) := by
  obtain ⟨hx, hb, hr, hml, hown, hts, hlocks, hA, hK⟩ := id C0
  intro S v1 k0 k1 H locs ls hP hD hS hl hf
  obtain ⟨mI, mA, mL⟩ := S
  unfold wp_X5_breakOff_85_0 at hf
  have g3 := hf.1
  replace hf := hf.2
  refine mst_3 (f := (mA 3)) (x := k0) (j := k1.toNatClampNeg) hx hb hK.1 hP hD hS rfl rfl g3 dX5_breakOff_85 (fun H locs hP hD hS => ?_)
  refine lv_iinc (v := 1) (lv' := [(2, .int 1), (0, .ref (a 0)), (1, .int v1)]) hx hb dX5_breakOff_86 hl (k := 2) rfl (by decide) (by decide) rfl (fun ls hl => ?_)
  refine lv_goto (tgt := 2) hx hb dX5_breakOff_89 (by decide) ?_
  exact j_X5_breakOff_2_1 C0 a K (mI, va_up mA 3 (upd (mA 3) k1.toNatClampNeg k0), mL) v1 H locs ls hP hD hS (lv_sub hl [1, 2, 0] rfl) hf
set_option maxHeartbeats 4000000 in
set_option maxRecDepth 100000 in
theorem j_X5_breakOff_80_0 {p : Program} {l : Launch} {e : Env} {s : State} {m : MethodId} {args : Array Value} {below : List Frame} {meth : Method} {c : Code} {dC : Nat → ClassId} {dI : Nat → Nat → Nat} {y : Nat → ClassId} {A : Nat → Prop} (C0 : Cx p s m args meth c cX5_breakOff 3 none wsX5_breakOff RX5 A dC dI y) (a : Nat → Nat) (K : ModelS → Prop) : ∀ (S : ModelS) (v1 : Int32) (k0 : Int32) (H : Heap) (locs : List Loc) (ls : Array Slot), va_P (dC, dI) vwCl (mdW y a S) H → va_D A (mdW y a S) → va_S A s.heap H locs → lv_has ls 3 [(0, .ref (a 0)), (1, .int v1), (2, .int 0)] → wp_X5_breakOff_80_0 K S v1 k0 → W p l e ({ frames := 0, cells := 0, slots := 0, locals := 0 } : Room) s m args below meth c H locs 0 0 (MQ below (va_Qv K (BW dC dI A (fun u => mdW y a u)) A) args s 0 0 A) (F0 m 80 ls [.int k0, .ref (a 3)]) := by
  obtain ⟨hx, hb, hr, hml, hown, hts, hlocks, hA, hK⟩ := id C0
  intro S v1 k0 H locs ls hP hD hS hl hf
  obtain ⟨mI, mA, mL⟩ := S
  unfold wp_X5_breakOff_80_0 at hf
  refine lv_iconst (v := 0) hx hb dX5_breakOff_80 (by decide) ?_
  refine lv_goto (tgt := 85) hx hb dX5_breakOff_81 (by decide) ?_
  exact j_X5_breakOff_85_0 C0 a K (mI, mA, mL) v1 0 k0 H locs ls hP hD hS (lv_sub hl [0, 1, 2] rfl) hf
set_option maxHeartbeats 4000000 in
set_option maxRecDepth 100000 in
theorem j_X5_breakOff_54_0 {p : Program} {l : Launch} {e : Env} {s : State} {m : MethodId} {args : Array Value} {below : List Frame} {meth : Method} {c : Code} {dC : Nat → ClassId} {dI : Nat → Nat → Nat} {y : Nat → ClassId} {A : Nat → Prop} (C0 : Cx p s m args meth c cX5_breakOff 3 none wsX5_breakOff RX5 A dC dI y) (a : Nat → Nat) (K : ModelS → Prop) : ∀ (S : ModelS) (v1 : Int32) (H : Heap) (locs : List Loc) (ls : Array Slot), va_P (dC, dI) vwCl (mdW y a S) H → va_D A (mdW y a S) → va_S A s.heap H locs → lv_has ls 3 [(0, .ref (a 0)), (1, .int v1), (2, .int 0)] → wp_X5_breakOff_54_0 K S v1 → W p l e ({ frames := 0, cells := 0, slots := 0, locals := 0 } : Room) s m args below meth c H locs 0 0 (MQ below (va_Qv K (BW dC dI A (fun u => mdW y a u)) A) args s 0 0 A) (F0 m 54 ls []) := by
  obtain ⟨hx, hb, hr, hml, hown, hts, hlocks, hA, hK⟩ := id C0
  have w9 := hts (.fieldLink RX5 9 "SharedWireModel" "state" "[I") (List.mem_of_getElem? (i := 1) rfl)
  have w13 := hts (.fieldLink RX5 13 "SharedWireModel" "sending" "[I") (List.mem_of_getElem? (i := 2) rfl)
  have hinX5 : ∀ w ∈ wsX50, w ∈ wsX5_breakOff := fun w h => List.mem_cons_of_mem _ (List.mem_append_right _ (h))
  intro S v1 H locs ls hP hD hS hl hf
  obtain ⟨mI, mA, mL⟩ := S
  unfold wp_X5_breakOff_54_0 at hf
  refine lv_aload_n hx hb dX5_breakOff_54 rfl (lv_at hl 0 rfl) ?_
  refine va_get (D := (dC, dI)) (ci := 5) (v := .ref (a 3)) (C := RX5) (T := TX5) (N := 35) hx hb hts hinX5 hown hK.1 hP 0 rfl rfl 3 (by decide) w9 (fun _ h9 => h9) rfl dX5_breakOff_55 ?_
  refine lv_iload_n hx hb dX5_breakOff_58 rfl (lv_at hl 2 rfl) ?_
  refine lv_aload_n hx hb dX5_breakOff_59 rfl (lv_at hl 0 rfl) ?_
  refine va_get (D := (dC, dI)) (ci := 5) (v := .ref (a 3)) (C := RX5) (T := TX5) (N := 35) hx hb hts hinX5 hown hK.1 hP 0 rfl rfl 3 (by decide) w9 (fun _ h9 => h9) rfl dX5_breakOff_60 ?_
  refine lv_iload_n hx hb dX5_breakOff_63 rfl (lv_at hl 2 rfl) ?_
  refine ar_ild (f := (mA 3)) (j := 0) hx hb hK.1 hP 1 0 rfl rfl (clamp_lit 0 rfl) (vin_lit 0 4 rfl rfl) dX5_breakOff_64 ?_
  refine lv_if_eq (tgt := 80) hx hb dX5_breakOff_65 (by decide) (fun c2 => ?_) (fun c2 => ?_)
  · replace hf := hf.1 c2
    exact j_X5_breakOff_80_0 C0 a K (mI, mA, mL) v1 0 H locs ls hP hD hS (lv_sub hl [0, 1, 2] rfl) hf
  · replace hf := hf.2 c2
    refine lv_aload_n hx hb dX5_breakOff_68 rfl (lv_at hl 0 rfl) ?_
    refine va_get (D := (dC, dI)) (ci := 5) (v := .ref (a 4)) (C := RX5) (T := TX5) (N := 35) hx hb hts hinX5 hown hK.1 hP 0 rfl rfl 4 (by decide) w13 (fun _ h9 => h9) rfl dX5_breakOff_69 ?_
    refine lv_iload_n hx hb dX5_breakOff_72 rfl (lv_at hl 2 rfl) ?_
    refine ar_ild (f := (mA 4)) (j := 0) hx hb hK.1 hP 2 0 rfl rfl (clamp_lit 0 rfl) (vin_lit 0 4 rfl rfl) dX5_breakOff_73 ?_
    refine lv_sipush (v := 255) hx hb dX5_breakOff_74 (by decide) ?_
    refine lv_icmp_le (tgt := 84) hx hb dX5_breakOff_77 (by decide) (fun c19 => ?_) (fun c19 => ?_)
    · replace hf := hf.1 c19
      refine lv_iconst (v := 1) hx hb dX5_breakOff_84 (by decide) ?_
      exact j_X5_breakOff_85_0 C0 a K (mI, mA, mL) v1 1 0 H locs ls hP hD hS (lv_sub hl [0, 1, 2] rfl) hf
    · replace hf := hf.2 c19
      exact j_X5_breakOff_80_0 C0 a K (mI, mA, mL) v1 0 H locs ls hP hD hS (lv_sub hl [0, 1, 2] rfl) hf
set_option maxHeartbeats 4000000 in
set_option maxRecDepth 100000 in
theorem j_X5_breakOff_2_0 {p : Program} {l : Launch} {e : Env} {s : State} {m : MethodId} {args : Array Value} {below : List Frame} {meth : Method} {c : Code} {dC : Nat → ClassId} {dI : Nat → Nat → Nat} {y : Nat → ClassId} {A : Nat → Prop} (C0 : Cx p s m args meth c cX5_breakOff 3 none wsX5_breakOff RX5 A dC dI y) (a : Nat → Nat) (K : ModelS → Prop) : ∀ (S : ModelS) (v1 : Int32) (H : Heap) (locs : List Loc) (ls : Array Slot), va_P (dC, dI) vwCl (mdW y a S) H → va_D A (mdW y a S) → va_S A s.heap H locs → lv_has ls 3 [(0, .ref (a 0)), (1, .int v1), (2, .int 0)] → wp_X5_breakOff_2_0 K S v1 → W p l e ({ frames := 0, cells := 0, slots := 0, locals := 0 } : Room) s m args below meth c H locs 0 0 (MQ below (va_Qv K (BW dC dI A (fun u => mdW y a u)) A) args s 0 0 A) (F0 m 2 ls []) := by
  obtain ⟨hx, hb, hr, hml, hown, hts, hlocks, hA, hK⟩ := id C0
  have w9 := hts (.fieldLink RX5 9 "SharedWireModel" "state" "[I") (List.mem_of_getElem? (i := 1) rfl)
  have w13 := hts (.fieldLink RX5 13 "SharedWireModel" "sending" "[I") (List.mem_of_getElem? (i := 2) rfl)
  have w16 := hts (.fieldLink RX5 16 "SharedWireModel" "receiving" "[I") (List.mem_of_getElem? (i := 3) rfl)
  have hinX5 : ∀ w ∈ wsX50, w ∈ wsX5_breakOff := fun w h => List.mem_cons_of_mem _ (List.mem_append_right _ (h))
  intro S v1 H locs ls hP hD hS hl hf
  obtain ⟨mI, mA, mL⟩ := S
  unfold wp_X5_breakOff_2_0 at hf
  refine lv_iload_n hx hb dX5_breakOff_2 rfl (lv_at hl 2 rfl) ?_
  refine lv_iconst (v := 4) hx hb dX5_breakOff_3 (by decide) ?_
  refine lv_icmp_ge (tgt := 92) hx hb dX5_breakOff_4 (by decide) (fun c9 => absurd c9 (by decide)) (fun _ => ?_)
  refine lv_iload_n hx hb dX5_breakOff_7 rfl (lv_at hl 1 rfl) ?_
  refine lv_iload_n hx hb dX5_breakOff_8 rfl (lv_at hl 2 rfl) ?_
  refine lv_ishr hx hb dX5_breakOff_9 ?_
  refine lv_iconst (v := 1) hx hb dX5_breakOff_10 (by decide) ?_
  refine lv_iand hx hb dX5_breakOff_11 ?_
  refine lv_iconst (v := 1) hx hb dX5_breakOff_12 (by decide) ?_
  refine lv_icmp_ne (tgt := 54) hx hb dX5_breakOff_13 (by decide) (fun c1 => ?_) (fun c1 => ?_)
  · replace hf := hf.1 c1
    exact j_X5_breakOff_54_0 C0 a K (mI, mA, mL) v1 H locs ls hP hD hS (lv_sub hl [0, 1, 2] rfl) hf
  · replace hf := hf.2 c1
    refine lv_aload_n hx hb dX5_breakOff_16 rfl (lv_at hl 0 rfl) ?_
    refine va_get (D := (dC, dI)) (ci := 5) (v := .ref (a 3)) (C := RX5) (T := TX5) (N := 35) hx hb hts hinX5 hown hK.1 hP 0 rfl rfl 3 (by decide) w9 (fun _ h9 => h9) rfl dX5_breakOff_17 ?_
    refine lv_iload_n hx hb dX5_breakOff_20 rfl (lv_at hl 2 rfl) ?_
    refine ar_ild (f := (mA 3)) (j := 0) hx hb hK.1 hP 1 0 rfl rfl (clamp_lit 0 rfl) (vin_lit 0 4 rfl rfl) dX5_breakOff_21 ?_
    refine lv_iconst (v := 3) hx hb dX5_breakOff_22 (by decide) ?_
    refine lv_icmp_ne (tgt := 44) hx hb dX5_breakOff_23 (by decide) (fun c20 => ?_) (fun c20 => ?_)
    · replace hf := hf.1 c20
      refine lv_aload_n hx hb dX5_breakOff_44 rfl (lv_at hl 0 rfl) ?_
      refine va_get (D := (dC, dI)) (ci := 5) (v := .ref (a 5)) (C := RX5) (T := TX5) (N := 35) hx hb hts hinX5 hown hK.1 hP 0 rfl rfl 5 (by decide) w16 (fun _ h9 => h9) rfl dX5_breakOff_45 ?_
      refine lv_iload_n hx hb dX5_breakOff_48 rfl (lv_at hl 2 rfl) ?_
      refine lv_dup2_11 hx hb dX5_breakOff_49 rfl rfl ?_
      refine ar_ild (f := (mA 5)) (j := 0) hx hb hK.1 hP 3 0 rfl rfl (clamp_lit 0 rfl) (vin_lit 0 4 rfl rfl) dX5_breakOff_50 ?_
      refine lv_iconst (v := 1) hx hb dX5_breakOff_51 (by decide) ?_
      refine lv_iadd hx hb dX5_breakOff_52 ?_
      refine mst_5 (f := (mA 5)) (x := ((mA 5) 0) + 1) (j := 0) hx hb hK.1 hP hD hS rfl (clamp_lit 0 rfl) (vin_lit 0 4 rfl rfl) dX5_breakOff_53 (fun H locs hP hD hS => ?_)
      exact j_X5_breakOff_54_0 C0 a K (mI, va_up mA 5 (upd (mA 5) 0 (((mA 5) 0) + 1)), mL) v1 H locs ls hP hD hS (lv_sub hl [0, 1, 2] rfl) hf
    · replace hf := hf.2 c20
      refine lv_aload_n hx hb dX5_breakOff_26 rfl (lv_at hl 0 rfl) ?_
      refine va_get (D := (dC, dI)) (ci := 5) (v := .ref (a 4)) (C := RX5) (T := TX5) (N := 35) hx hb hts hinX5 hown hK.1 hP 0 rfl rfl 4 (by decide) w13 (fun _ h9 => h9) rfl dX5_breakOff_27 ?_
      refine lv_iload_n hx hb dX5_breakOff_30 rfl (lv_at hl 2 rfl) ?_
      refine lv_aload_n hx hb dX5_breakOff_31 rfl (lv_at hl 0 rfl) ?_
      refine va_get (D := (dC, dI)) (ci := 5) (v := .ref (a 4)) (C := RX5) (T := TX5) (N := 35) hx hb hts hinX5 hown hK.1 hP 0 rfl rfl 4 (by decide) w13 (fun _ h9 => h9) rfl dX5_breakOff_32 ?_
      refine lv_iload_n hx hb dX5_breakOff_35 rfl (lv_at hl 2 rfl) ?_
      refine ar_ild (f := (mA 4)) (j := 0) hx hb hK.1 hP 2 0 rfl rfl (clamp_lit 0 rfl) (vin_lit 0 4 rfl rfl) dX5_breakOff_36 ?_
      refine lv_bipush (v := 8) hx hb dX5_breakOff_37 (by decide) ?_
      refine lv_iadd hx hb dX5_breakOff_39 ?_
      refine mst_4 (f := (mA 4)) (x := ((mA 4) 0) + 8) (j := 0) hx hb hK.1 hP hD hS rfl (clamp_lit 0 rfl) (vin_lit 0 4 rfl rfl) dX5_breakOff_40 (fun H locs hP hD hS => ?_)
      refine lv_goto (tgt := 54) hx hb dX5_breakOff_41 (by decide) ?_
      exact j_X5_breakOff_54_0 C0 a K (mI, va_up mA 4 (upd (mA 4) 0 (((mA 4) 0) + 8)), mL) v1 H locs ls hP hD hS (lv_sub hl [0, 1, 2] rfl) hf
set_option maxHeartbeats 4000000 in
set_option maxRecDepth 100000 in
theorem c_X5_breakOff (l : Launch) (dC : Nat → ClassId) (dI : Nat → Nat → Nat) (y : Nat → ClassId) (a : Nat → Nat) (sz : Nat) (S : ModelS) (p0 : Int32) (K : ModelS → Prop) (hf : wp_X5_breakOff S p0 K) : MV l yX5_breakOff wsX5_breakOff { frames := 0, cells := 0, slots := 0, locals := 0 } dC dI y [.ref (a 0), .int p0] (mdW y a S) sz (fun u => mdW y a u) K := by
  refine Met.ofW (cc := cX5_breakOff) (maxL := 3) (ret := none) (by decide) rfl ?_
  intro p e s m args below meth c s₁ B hml hv
  obtain ⟨rfl, hsz, hP, hK, hD0⟩ := hv
  have hx := B.exec
  have hb := B.bytes
  have hr := B.returns
  have hts := atoms_spec (ws := wsX5_breakOff) B.pre
  have hown : s.vm.findClass RX5 = some m.cls := findClass_of_methodNamed B.named
  have hlocks := B.notSynchronized
  subst hsz
  have hD := hD0.self (sz := s.heap.size)
  generalize hAe : va_A (mdW y a S) s.heap.size = A at hD ⊢
  have hA : ∀ q : Nat, s.heap.size ≤ q → A q := fun q h => by rw [← hAe]; exact Or.inr h
  have hS : va_S A s.heap s.heap [] := va_S.rf
  have C0 : Cx p s m [.ref (a 0), .int p0].toArray meth c cX5_breakOff 3 none wsX5_breakOff RX5 A dC dI y := ⟨hx, hb, hr, hml, hown, hts, hlocks, hA, hK⟩
  have hl := lv_entry ([.ref (a 0), .int p0]) (n := 3) (Nat.le_of_ble_eq_true rfl)
  rw [lg_entry_eq]
  generalize (lg_sl ([.ref (a 0), .int p0]) ++ List.replicate (3 - (lg_sl ([.ref (a 0), .int p0])).length) Slot.unset).toArray = ls at hl ⊢
  have hl : lv_has ls 3 [(0, .ref (a 0)), (1, .int p0)] := hl
  obtain ⟨mI, mA, mL⟩ := S
  clear hAe hD0
  generalize hL0 : ([] : List Loc) = locs at hS ⊢
  unfold wp_X5_breakOff at hf
  refine lv_iconst (v := 0) hx hb dX5_breakOff_0 (by decide) ?_
  refine lv_istore_n (lv' := [(2, .int 0), (0, .ref (a 0)), (1, .int p0)]) hx hb dX5_breakOff_1 rfl hl (by decide) rfl (fun ls hl => ?_)
  exact j_X5_breakOff_2_0 C0 a K (mI, mA, mL) p0 s.heap locs ls hP hD hS (lv_sub hl [1, 2, 0] rfl) hf

def wp_X5_keep_165 (K : ModelS → Prop) : ModelS → Int32 → Int32 → Int32 → Prop := fun (mI, mA, mL) v1 k0 k1 => (vp_in k1 4 ∧ (vp_in v1 4 ∧ K (mI, va_up (va_up mA 5 (upd (mA 5) k1.toNatClampNeg k0)) 3 (upd (mA 3) v1.toNatClampNeg 1), mL)))
def wp_X5_keep_96 (K : ModelS → Prop) (C : ModelS → Int32 → Int32 → Int64 → Int32 → Prop) : ModelS → Int32 → Int32 → Int32 → Int32 → Int32 → Int64 → Prop := fun (mI, mA, mL) v1 v2 v5 k0 k1 k3 => wp_X5_number (mI, mA, mL) k1 (k0 + (8 * v5)) 8 (fun r22 => (∀ n24 : Int64, n24 = k3 ||| (r22.toInt64 <<< ((8 * v5).toInt64 &&& 63)) → (∀ n25 : Int32, n25 = v5 + 1 → C (mI, mA, mL) v1 v2 n24 n25)))
def wp_X5_keep_71 (K : ModelS → Prop) : Nat → ModelS → Int32 → Int32 → Int64 → Int32 → Prop
  | 0, _, _, _, _, _ => False
  | n + 1, (mI, mA, mL), v1, v2, v3, v5 => (vp_in v1 4 ∧ (((mA 17) v1.toNatClampNeg ≤ v5 → (vp_in v1 4 ∧ (vp_in v1 4 ∧ (vp_in v1 4 ∧ (vp_in v1 4 ∧ (((mA 5) v1.toNatClampNeg ≤ 0 → wp_X5_keep_165 K (mI, va_up mA 7 (upd (mA 7) v1.toNatClampNeg (((mA 7) v1.toNatClampNeg) + 1)), va_up mL 16 (vp_updL (mL 16) v1.toNatClampNeg v3)) v1 0 v1) ∧ (¬ (mA 5) v1.toNatClampNeg ≤ 0 → (vp_in v1 4 ∧ wp_X5_keep_165 K (mI, va_up mA 7 (upd (mA 7) v1.toNatClampNeg (((mA 7) v1.toNatClampNeg) + 1)), va_up mL 16 (vp_updL (mL 16) v1.toNatClampNeg v3)) v1 (((mA 5) v1.toNatClampNeg) - 1) v1)))))))) ∧ (¬ (mA 17) v1.toNatClampNeg ≤ v5 → ((v2 = 0 → wp_X5_keep_96 K (wp_X5_keep_71 K n) (mI, mA, mL) v1 v2 v5 19 v1 v3) ∧ (¬ v2 = 0 → wp_X5_keep_96 K (wp_X5_keep_71 K n) (mI, mA, mL) v1 v2 v5 39 v1 v3)))))
def wp_X5_keep_54 (K : ModelS → Prop) : ModelS → Int32 → Int32 → Int32 → Int32 → Prop := fun (mI, mA, mL) v1 v2 k0 k1 => (vp_in k1 4 ∧ wp_X5_bytesOf (mI, va_up mA 15 (upd (mA 15) k1.toNatClampNeg k0), mL) v1 (fun r8 => (vp_in v1 4 ∧ wp_X5_keep_71 K 1000 (mI, va_up (va_up mA 15 (upd (mA 15) k1.toNatClampNeg k0)) 17 (upd (mA 17) v1.toNatClampNeg r8), mL) v1 v2 0 0)))
def wp_X5_keep : ModelS → Int32 → (ModelS → Prop) → Prop := fun (mI, mA, mL) p0 K => wp_X5_isLong (mI, mA, mL) p0 (fun r1 => (vp_in p0 4 ∧ (bz r1 ∧ ((r1 = 0 → wp_X5_number (mI, va_up mA 14 (upd (mA 14) p0.toNatClampNeg r1), mL) p0 1 11 (fun r5 => wp_X5_keep_54 K (mI, va_up mA 14 (upd (mA 14) p0.toNatClampNeg r1), mL) p0 r1 r5 p0)) ∧ (¬ r1 = 0 → wp_X5_number (mI, va_up mA 14 (upd (mA 14) p0.toNatClampNeg r1), mL) p0 1 11 (fun r26 => wp_X5_number (mI, va_up mA 14 (upd (mA 14) p0.toNatClampNeg r1), mL) p0 14 18 (fun r28 => wp_X5_keep_54 K (mI, va_up mA 14 (upd (mA 14) p0.toNatClampNeg r1), mL) p0 r1 ((r26 <<< (18 &&& 31)) ||| r28) p0)))))))
set_option maxHeartbeats 4000000 in
set_option maxRecDepth 100000 in
theorem j_X5_keep_165 {p : Program} {l : Launch} {e : Env} {s : State} {m : MethodId} {args : Array Value} {below : List Frame} {meth : Method} {c : Code} {dC : Nat → ClassId} {dI : Nat → Nat → Nat} {y : Nat → ClassId} {A : Nat → Prop} (C0 : Cx p s m args meth c cX5_keep 6 none wsX5_keep RX5 A dC dI y) (a : Nat → Nat) (K : ModelS → Prop) : ∀ (S : ModelS) (v1 : Int32) (k0 : Int32) (k1 : Int32) (H : Heap) (locs : List Loc) (ls : Array Slot), va_P (dC, dI) vwCl (mdW y a S) H → va_D A (mdW y a S) → va_S A s.heap H locs → lv_has ls 6 [(0, .ref (a 0)), (1, .int v1)] → wp_X5_keep_165 K S v1 k0 k1 → W p l e ({ frames := 2, cells := 0, slots := 0, locals := 47 } : Room) s m args below meth c H locs 0 0 (MQ below (va_Qv K (BW dC dI A (fun u => mdW y a u)) A) args s 0 0 A) (F0 m 165 ls [.int k0, .int k1, .ref (a 5)]) := by
  obtain ⟨hx, hb, hr, hml, hown, hts, hlocks, hA, hK⟩ := id C0
  have w9 := hts (.fieldLink RX5 9 "SharedWireModel" "state" "[I") (List.mem_of_getElem? (i := 7) rfl)
  have hinX5 : ∀ w ∈ wsX50, w ∈ wsX5_keep := fun w h => List.mem_cons_of_mem _ (List.mem_append_right _ (h))
  intro S v1 k0 k1 H locs ls hP hD hS hl hf
  obtain ⟨mI, mA, mL⟩ := S
  unfold wp_X5_keep_165 at hf
  have g18 := hf.1
  replace hf := hf.2
  refine mst_5 (f := (mA 5)) (x := k0) (j := k1.toNatClampNeg) hx hb hK.1 hP hD hS rfl rfl g18 dX5_keep_165 (fun H locs hP hD hS => ?_)
  refine lv_aload_n hx hb dX5_keep_166 rfl (lv_at hl 0 rfl) ?_
  refine va_get (D := (dC, dI)) (ci := 5) (v := .ref (a 3)) (C := RX5) (T := TX5) (N := 35) hx hb hts hinX5 hown hK.1 hP 0 rfl rfl 3 (by decide) w9 (fun _ h9 => h9) rfl dX5_keep_167 ?_
  refine lv_iload_n hx hb dX5_keep_170 rfl (lv_at hl 1 rfl) ?_
  refine lv_iconst (v := 1) hx hb dX5_keep_171 (by decide) ?_
  have g19 := hf.1
  replace hf := hf.2
  refine mst_3 (f := (mA 3)) (x := 1) (j := v1.toNatClampNeg) hx hb hK.1 hP hD hS rfl rfl g19 dX5_keep_172 (fun H locs hP hD hS => ?_)
  exact W.vret hx hb hr (fun t ht hW => ⟨⟨(mI, va_up (va_up mA 5 (upd (mA 5) k1.toNatClampNeg k0)) 3 (upd (mA 3) v1.toNatClampNeg 1), mL), rfl, hf, by rw [ht]; exact hP, hD⟩, hS.F ht⟩) hS.2.2 dX5_keep_173
set_option maxHeartbeats 4000000 in
set_option maxRecDepth 100000 in
theorem j_X5_keep_96 {p : Program} {l : Launch} {e : Env} {s : State} {m : MethodId} {args : Array Value} {below : List Frame} {meth : Method} {c : Code} {dC : Nat → ClassId} {dI : Nat → Nat → Nat} {y : Nat → ClassId} {A : Nat → Prop} (C0 : Cx p s m args meth c cX5_keep 6 none wsX5_keep RX5 A dC dI y) (a : Nat → Nat) (K : ModelS → Prop) (C : ModelS → Int32 → Int32 → Int64 → Int32 → Prop) (hC : ∀ (S : ModelS) (v1 : Int32) (v2 : Int32) (v3 : Int64) (v5 : Int32) (H : Heap) (locs : List Loc) (ls : Array Slot), va_P (dC, dI) vwCl (mdW y a S) H → va_D A (mdW y a S) → va_S A s.heap H locs → lv_has ls 6 [(0, .ref (a 0)), (1, .int v1), (2, .int v2), (3, .long v3), (5, .int v5)] → C S v1 v2 v3 v5 → W p l e ({ frames := 2, cells := 0, slots := 0, locals := 47 } : Room) s m args below meth c H locs 0 0 (MQ below (va_Qv K (BW dC dI A (fun u => mdW y a u)) A) args s 0 0 A) (F0 m 71 ls [])) : ∀ (S : ModelS) (v1 : Int32) (v2 : Int32) (v5 : Int32) (k0 : Int32) (k1 : Int32) (k3 : Int64) (H : Heap) (locs : List Loc) (ls : Array Slot), va_P (dC, dI) vwCl (mdW y a S) H → va_D A (mdW y a S) → va_S A s.heap H locs → lv_has ls 6 [(0, .ref (a 0)), (1, .int v1), (2, .int v2), (5, .int v5)] → wp_X5_keep_96 K C S v1 v2 v5 k0 k1 k3 → W p l e ({ frames := 2, cells := 0, slots := 0, locals := 47 } : Room) s m args below meth c H locs 0 0 (MQ below (va_Qv K (BW dC dI A (fun u => mdW y a u)) A) args s 0 0 A) (F0 m 96 ls [.int k0, .int k1, .ref (a 0), .long k3]) := by
  obtain ⟨hx, hb, hr, hml, hown, hts, hlocks, hA, hK⟩ := id C0
  intro S v1 v2 v5 k0 k1 k3 H locs ls hP hD hS hl hf
  obtain ⟨mI, mA, mL⟩ := S
  unfold wp_X5_keep_96 at hf
  refine lv_bipush (v := 8) hx hb dX5_keep_96 (by decide) ?_
  refine lv_iload hx hb dX5_keep_98 (lv_at hl 3 rfl) ?_
  refine lv_imul hx hb dX5_keep_100 ?_
  refine lv_iadd hx hb dX5_keep_101 ?_
  refine lv_bipush (v := 8) hx hb dX5_keep_102 (by decide) ?_
  refine k0i (As := [.int k1, .int (k0 + (8 * v5)), .int 8]) (rest := [.long k3]) ⟨hx, hb, hml, hown, hts⟩ (c_X5_number l dC dI y a H.size (mI, mA, mL) k1 (k0 + (8 * v5)) 8 _ hf) (cwV 3 hts gX5_keep_X5_number rfl rfl rfl (by decide +kernel) ⟨Nat.le_of_ble_eq_true rfl, Nat.le_of_ble_eq_true rfl⟩) hK hP hD (va_recv hK.1 hP (ci := 5) (q0 := 0) rfl rfl) hS hA rfl hl.1 rfl (Nat.le_of_ble_eq_true rfl) dX5_keep_104 ⟨Nat.zero_le _, Nat.zero_le _⟩ (fun r22 u23 H locs hf hP hD hS => ?_)
  obtain ⟨hf, e9⟩ := hf
  have e9 := e9.symm
  subst e9
  have hP : va_P (dC, dI) vwCl (mdW y a (mI, mA, mL)) H := hP
  have hD : va_D A (mdW y a (mI, mA, mL)) := hD
  refine lv_i2l (v := r22.toInt64) hx hb dX5_keep_107 rfl ?_
  refine lv_bipush (v := 8) hx hb dX5_keep_108 (by decide) ?_
  refine lv_iload hx hb dX5_keep_110 (lv_at hl 3 rfl) ?_
  refine lv_imul hx hb dX5_keep_112 ?_
  refine lv_lshl (v := r22.toInt64 <<< ((8 * v5).toInt64 &&& 63)) hx hb dX5_keep_113 rfl ?_
  refine lv_lor hx hb dX5_keep_114 ?_
  refine lv_topl (fun n24 en24 => ?_)
  replace hf := hf n24 en24
  refine lv_lstore_n (lv' := [(3, .long n24), (0, .ref (a 0)), (1, .int v1), (2, .int v2), (5, .int v5)]) hx hb dX5_keep_115 rfl hl (by decide) rfl (fun ls hl => ?_)
  obtain ⟨n25, en25⟩ : ∃ z : Int32, z = v5 + 1 := ⟨_, rfl⟩
  replace hf := hf n25 en25
  refine lv_iinc (v := n25) (lv' := [(5, .int n25), (3, .long n24), (0, .ref (a 0)), (1, .int v1), (2, .int v2)]) hx hb dX5_keep_116 hl (k := 4) rfl (by rw [en25]; rfl) (by decide) rfl (fun ls hl => ?_)
  refine lv_goto (tgt := 71) hx hb dX5_keep_119 (by decide) ?_
  exact hC (mI, mA, mL) v1 v2 n24 n25 H locs ls hP hD hS (lv_sub hl [2, 3, 4, 1, 0] rfl) hf
set_option maxHeartbeats 4000000 in
set_option maxRecDepth 100000 in
theorem j_X5_keep_71 {p : Program} {l : Launch} {e : Env} {s : State} {m : MethodId} {args : Array Value} {below : List Frame} {meth : Method} {c : Code} {dC : Nat → ClassId} {dI : Nat → Nat → Nat} {y : Nat → ClassId} {A : Nat → Prop} (C0 : Cx p s m args meth c cX5_keep 6 none wsX5_keep RX5 A dC dI y) (a : Nat → Nat) (K : ModelS → Prop) : ∀ n : Nat, ∀ (S : ModelS) (v1 : Int32) (v2 : Int32) (v3 : Int64) (v5 : Int32) (H : Heap) (locs : List Loc) (ls : Array Slot), va_P (dC, dI) vwCl (mdW y a S) H → va_D A (mdW y a S) → va_S A s.heap H locs → lv_has ls 6 [(0, .ref (a 0)), (1, .int v1), (2, .int v2), (3, .long v3), (5, .int v5)] → wp_X5_keep_71 K n S v1 v2 v3 v5 → W p l e ({ frames := 2, cells := 0, slots := 0, locals := 47 } : Room) s m args below meth c H locs 0 0 (MQ below (va_Qv K (BW dC dI A (fun u => mdW y a u)) A) args s 0 0 A) (F0 m 71 ls []) := by
  obtain ⟨hx, hb, hr, hml, hown, hts, hlocks, hA, hK⟩ := id C0
  have w16 := hts (.fieldLink RX5 16 "SharedWireModel" "receiving" "[I") (List.mem_of_getElem? (i := 6) rfl)
  have w22 := hts (.fieldLink RX5 22 "SharedWireModel" "gotten" "[I") (List.mem_of_getElem? (i := 5) rfl)
  have w51 := hts (.fieldLink RX5 51 "SharedWireModel" "hasData" "[J") (List.mem_of_getElem? (i := 4) rfl)
  have w54 := hts (.fieldLink RX5 54 "SharedWireModel" "hasBytes" "[I") (List.mem_of_getElem? (i := 3) rfl)
  have hinX5 : ∀ w ∈ wsX50, w ∈ wsX5_keep := fun w h => List.mem_cons_of_mem _ (List.mem_append_right _ (h))
  intro n
  induction n with
  | zero =>
    intro S v1 v2 v3 v5 H locs ls hP hD hS hl hf
    exact False.elim (by unfold wp_X5_keep_71 at hf; exact hf)
  | succ n ih =>
    intro S v1 v2 v3 v5 H locs ls hP hD hS hl hf
    obtain ⟨mI, mA, mL⟩ := S
    unfold wp_X5_keep_71 at hf
    refine lv_iload hx hb dX5_keep_71 (lv_at hl 4 rfl) ?_
    refine lv_aload_n hx hb dX5_keep_73 rfl (lv_at hl 0 rfl) ?_
    refine va_get (D := (dC, dI)) (ci := 5) (v := .ref (a 17)) (C := RX5) (T := TX5) (N := 35) hx hb hts hinX5 hown hK.1 hP 0 rfl rfl 17 (by decide) w54 (fun _ h9 => h9) rfl dX5_keep_74 ?_
    refine lv_iload_n hx hb dX5_keep_77 rfl (lv_at hl 1 rfl) ?_
    have g11 := hf.1
    replace hf := hf.2
    refine ar_ild (f := (mA 17)) (j := v1.toNatClampNeg) hx hb hK.1 hP 15 0 rfl rfl rfl g11 dX5_keep_78 ?_
    refine lv_icmp_ge (tgt := 122) hx hb dX5_keep_79 (by decide) (fun c12 => ?_) (fun c12 => ?_)
    · replace hf := hf.1 c12
      refine lv_aload_n hx hb dX5_keep_122 rfl (lv_at hl 0 rfl) ?_
      refine va_get (D := (dC, dI)) (ci := 5) (v := .ref (a 16)) (C := RX5) (T := TX5) (N := 35) hx hb hts hinX5 hown hK.1 hP 0 rfl rfl 16 (by decide) w51 (fun _ h9 => h9) rfl dX5_keep_123 ?_
      refine lv_iload_n hx hb dX5_keep_126 rfl (lv_at hl 1 rfl) ?_
      refine lv_lload_n hx hb dX5_keep_127 rfl (lv_at hl 3 rfl) ?_
      have g13 := hf.1
      replace hf := hf.2
      refine mst_16 (f := (mL 16)) (x := v3) (j := v1.toNatClampNeg) hx hb hK.1 hP hD hS rfl rfl g13 dX5_keep_128 (fun H locs hP hD hS => ?_)
      refine lv_aload_n hx hb dX5_keep_129 rfl (lv_at hl 0 rfl) ?_
      refine va_get (D := (dC, dI)) (ci := 5) (v := .ref (a 7)) (C := RX5) (T := TX5) (N := 35) hx hb hts hinX5 hown hK.1 hP 0 rfl rfl 7 (by decide) w22 (fun _ h9 => h9) rfl dX5_keep_130 ?_
      refine lv_iload_n hx hb dX5_keep_133 rfl (lv_at hl 1 rfl) ?_
      refine lv_dup2_11 hx hb dX5_keep_134 rfl rfl ?_
      have g14 := hf.1
      replace hf := hf.2
      refine ar_ild (f := (mA 7)) (j := v1.toNatClampNeg) hx hb hK.1 hP 5 0 rfl rfl rfl g14 dX5_keep_135 ?_
      refine lv_iconst (v := 1) hx hb dX5_keep_136 (by decide) ?_
      refine lv_iadd hx hb dX5_keep_137 ?_
      have g15 := hf.1
      replace hf := hf.2
      refine mst_7 (f := (mA 7)) (x := ((mA 7) v1.toNatClampNeg) + 1) (j := v1.toNatClampNeg) hx hb hK.1 hP hD hS rfl rfl g15 dX5_keep_138 (fun H locs hP hD hS => ?_)
      refine lv_aload_n hx hb dX5_keep_139 rfl (lv_at hl 0 rfl) ?_
      refine va_get (D := (dC, dI)) (ci := 5) (v := .ref (a 5)) (C := RX5) (T := TX5) (N := 35) hx hb hts hinX5 hown hK.1 hP 0 rfl rfl 5 (by decide) w16 (fun _ h9 => h9) rfl dX5_keep_140 ?_
      refine lv_iload_n hx hb dX5_keep_143 rfl (lv_at hl 1 rfl) ?_
      refine lv_aload_n hx hb dX5_keep_144 rfl (lv_at hl 0 rfl) ?_
      refine va_get (D := (dC, dI)) (ci := 5) (v := .ref (a 5)) (C := RX5) (T := TX5) (N := 35) hx hb hts hinX5 hown hK.1 hP 0 rfl rfl 5 (by decide) w16 (fun _ h9 => h9) rfl dX5_keep_145 ?_
      refine lv_iload_n hx hb dX5_keep_148 rfl (lv_at hl 1 rfl) ?_
      have g16 := hf.1
      replace hf := hf.2
      refine ar_ild (f := (mA 5)) (j := v1.toNatClampNeg) hx hb hK.1 hP 3 0 rfl rfl rfl g16 dX5_keep_149 ?_
      refine lv_if_le (tgt := 164) hx hb dX5_keep_150 (by decide) (fun c17 => ?_) (fun c17 => ?_)
      · replace hf := hf.1 c17
        refine lv_iconst (v := 0) hx hb dX5_keep_164 (by decide) ?_
        exact j_X5_keep_165 C0 a K (mI, va_up mA 7 (upd (mA 7) v1.toNatClampNeg (((mA 7) v1.toNatClampNeg) + 1)), va_up mL 16 (vp_updL (mL 16) v1.toNatClampNeg v3)) v1 0 v1 H locs ls hP hD hS (lv_sub hl [0, 1] rfl) hf
      · replace hf := hf.2 c17
        refine lv_aload_n hx hb dX5_keep_153 rfl (lv_at hl 0 rfl) ?_
        refine va_get (D := (dC, dI)) (ci := 5) (v := .ref (a 5)) (C := RX5) (T := TX5) (N := 35) hx hb hts hinX5 hown hK.1 hP 0 rfl rfl 5 (by decide) w16 (fun _ h9 => h9) rfl dX5_keep_154 ?_
        refine lv_iload_n hx hb dX5_keep_157 rfl (lv_at hl 1 rfl) ?_
        have g20 := hf.1
        replace hf := hf.2
        refine ar_ild (f := (mA 5)) (j := v1.toNatClampNeg) hx hb hK.1 hP 3 0 rfl rfl rfl g20 dX5_keep_158 ?_
        refine lv_iconst (v := 1) hx hb dX5_keep_159 (by decide) ?_
        refine lv_isub hx hb dX5_keep_160 ?_
        refine lv_goto (tgt := 165) hx hb dX5_keep_161 (by decide) ?_
        exact j_X5_keep_165 C0 a K (mI, va_up mA 7 (upd (mA 7) v1.toNatClampNeg (((mA 7) v1.toNatClampNeg) + 1)), va_up mL 16 (vp_updL (mL 16) v1.toNatClampNeg v3)) v1 (((mA 5) v1.toNatClampNeg) - 1) v1 H locs ls hP hD hS (lv_sub hl [0, 1] rfl) hf
    · replace hf := hf.2 c12
      refine lv_lload_n hx hb dX5_keep_82 rfl (lv_at hl 3 rfl) ?_
      refine lv_aload_n hx hb dX5_keep_83 rfl (lv_at hl 0 rfl) ?_
      refine lv_iload_n hx hb dX5_keep_84 rfl (lv_at hl 1 rfl) ?_
      refine lv_iload_n hx hb dX5_keep_85 rfl (lv_at hl 2 rfl) ?_
      refine lv_if_eq (tgt := 94) hx hb dX5_keep_86 (by decide) (fun c21 => ?_) (fun c21 => ?_)
      · replace hf := hf.1 c21
        refine lv_bipush (v := 19) hx hb dX5_keep_94 (by decide) ?_
        exact j_X5_keep_96 C0 a K (wp_X5_keep_71 K n) ih (mI, mA, mL) v1 v2 v5 19 v1 v3 H locs ls hP hD hS (lv_sub hl [0, 1, 2, 4] rfl) hf
      · replace hf := hf.2 c21
        refine lv_bipush (v := 39) hx hb dX5_keep_89 (by decide) ?_
        refine lv_goto (tgt := 96) hx hb dX5_keep_91 (by decide) ?_
        exact j_X5_keep_96 C0 a K (wp_X5_keep_71 K n) ih (mI, mA, mL) v1 v2 v5 39 v1 v3 H locs ls hP hD hS (lv_sub hl [0, 1, 2, 4] rfl) hf
set_option maxHeartbeats 4000000 in
set_option maxRecDepth 100000 in
theorem j_X5_keep_54 {p : Program} {l : Launch} {e : Env} {s : State} {m : MethodId} {args : Array Value} {below : List Frame} {meth : Method} {c : Code} {dC : Nat → ClassId} {dI : Nat → Nat → Nat} {y : Nat → ClassId} {A : Nat → Prop} (C0 : Cx p s m args meth c cX5_keep 6 none wsX5_keep RX5 A dC dI y) (a : Nat → Nat) (K : ModelS → Prop) : ∀ (S : ModelS) (v1 : Int32) (v2 : Int32) (k0 : Int32) (k1 : Int32) (H : Heap) (locs : List Loc) (ls : Array Slot), va_P (dC, dI) vwCl (mdW y a S) H → va_D A (mdW y a S) → va_S A s.heap H locs → lv_has ls 6 [(0, .ref (a 0)), (1, .int v1), (2, .int v2)] → wp_X5_keep_54 K S v1 v2 k0 k1 → W p l e ({ frames := 2, cells := 0, slots := 0, locals := 47 } : Room) s m args below meth c H locs 0 0 (MQ below (va_Qv K (BW dC dI A (fun u => mdW y a u)) A) args s 0 0 A) (F0 m 54 ls [.int k0, .int k1, .ref (a 15)]) := by
  obtain ⟨hx, hb, hr, hml, hown, hts, hlocks, hA, hK⟩ := id C0
  have w54 := hts (.fieldLink RX5 54 "SharedWireModel" "hasBytes" "[I") (List.mem_of_getElem? (i := 3) rfl)
  have hinX5 : ∀ w ∈ wsX50, w ∈ wsX5_keep := fun w h => List.mem_cons_of_mem _ (List.mem_append_right _ (h))
  intro S v1 v2 k0 k1 H locs ls hP hD hS hl hf
  obtain ⟨mI, mA, mL⟩ := S
  unfold wp_X5_keep_54 at hf
  have g7 := hf.1
  replace hf := hf.2
  refine mst_15 (f := (mA 15)) (x := k0) (j := k1.toNatClampNeg) hx hb hK.1 hP hD hS rfl rfl g7 dX5_keep_54 (fun H locs hP hD hS => ?_)
  refine lv_aload_n hx hb dX5_keep_55 rfl (lv_at hl 0 rfl) ?_
  refine va_get (D := (dC, dI)) (ci := 5) (v := .ref (a 17)) (C := RX5) (T := TX5) (N := 35) hx hb hts hinX5 hown hK.1 hP 0 rfl rfl 17 (by decide) w54 (fun _ h9 => h9) rfl dX5_keep_56 ?_
  refine lv_iload_n hx hb dX5_keep_59 rfl (lv_at hl 1 rfl) ?_
  refine lv_aload_n hx hb dX5_keep_60 rfl (lv_at hl 0 rfl) ?_
  refine lv_iload_n hx hb dX5_keep_61 rfl (lv_at hl 1 rfl) ?_
  refine k0i (As := [.int v1]) (rest := [.int v1, .ref (a 17)]) ⟨hx, hb, hml, hown, hts⟩ (c_X5_bytesOf l dC dI y a H.size (mI, va_up mA 15 (upd (mA 15) k1.toNatClampNeg k0), mL) v1 _ hf) (cwV 1 hts gX5_keep_X5_bytesOf rfl rfl rfl (by decide +kernel) ⟨Nat.le_of_ble_eq_true rfl, Nat.le_of_ble_eq_true rfl⟩) hK hP hD (va_recv hK.1 hP (ci := 5) (q0 := 0) rfl rfl) hS hA rfl hl.1 rfl (Nat.le_of_ble_eq_true rfl) dX5_keep_62 ⟨Nat.zero_le _, Nat.zero_le _⟩ (fun r8 u9 H locs hf hP hD hS => ?_)
  obtain ⟨hf, e9⟩ := hf
  have e9 := e9.symm
  subst e9
  have hP : va_P (dC, dI) vwCl (mdW y a (mI, va_up mA 15 (upd (mA 15) k1.toNatClampNeg k0), mL)) H := hP
  have hD : va_D A (mdW y a (mI, va_up mA 15 (upd (mA 15) k1.toNatClampNeg k0), mL)) := hD
  have g10 := hf.1
  replace hf := hf.2
  refine mst_17 (f := (mA 17)) (x := r8) (j := v1.toNatClampNeg) hx hb hK.1 hP hD hS rfl rfl g10 dX5_keep_65 (fun H locs hP hD hS => ?_)
  refine lv_lconst (v := 0) hx hb dX5_keep_66 (by decide) ?_
  refine lv_lstore_n (lv' := [(3, .long 0), (0, .ref (a 0)), (1, .int v1), (2, .int v2)]) hx hb dX5_keep_67 rfl hl (by decide) rfl (fun ls hl => ?_)
  refine lv_iconst (v := 0) hx hb dX5_keep_68 (by decide) ?_
  refine lv_istore (lv' := [(5, .int 0), (3, .long 0), (0, .ref (a 0)), (1, .int v1), (2, .int v2)]) hx hb dX5_keep_69 hl (by decide) rfl (fun ls hl => ?_)
  exact j_X5_keep_71 C0 a K 1000 (mI, va_up (va_up mA 15 (upd (mA 15) k1.toNatClampNeg k0)) 17 (upd (mA 17) v1.toNatClampNeg r8), mL) v1 v2 0 0 H locs ls hP hD hS (lv_sub hl [2, 3, 4, 1, 0] rfl) hf
set_option maxHeartbeats 4000000 in
set_option maxRecDepth 100000 in
theorem c_X5_keep (l : Launch) (dC : Nat → ClassId) (dI : Nat → Nat → Nat) (y : Nat → ClassId) (a : Nat → Nat) (sz : Nat) (S : ModelS) (p0 : Int32) (K : ModelS → Prop) (hf : wp_X5_keep S p0 K) : MV l yX5_keep wsX5_keep { frames := 2, cells := 0, slots := 0, locals := 47 } dC dI y [.ref (a 0), .int p0] (mdW y a S) sz (fun u => mdW y a u) K := by
  refine Met.ofW (cc := cX5_keep) (maxL := 6) (ret := none) (by decide) rfl ?_
  intro p e s m args below meth c s₁ B hml hv
  obtain ⟨rfl, hsz, hP, hK, hD0⟩ := hv
  have hx := B.exec
  have hb := B.bytes
  have hr := B.returns
  have hts := atoms_spec (ws := wsX5_keep) B.pre
  have hown : s.vm.findClass RX5 = some m.cls := findClass_of_methodNamed B.named
  have hlocks := B.notSynchronized
  subst hsz
  have hD := hD0.self (sz := s.heap.size)
  generalize hAe : va_A (mdW y a S) s.heap.size = A at hD ⊢
  have hA : ∀ q : Nat, s.heap.size ≤ q → A q := fun q h => by rw [← hAe]; exact Or.inr h
  have hS : va_S A s.heap s.heap [] := va_S.rf
  have C0 : Cx p s m [.ref (a 0), .int p0].toArray meth c cX5_keep 6 none wsX5_keep RX5 A dC dI y := ⟨hx, hb, hr, hml, hown, hts, hlocks, hA, hK⟩
  have w45 := hts (.fieldLink RX5 45 "SharedWireModel" "hasLong" "[Z") (List.mem_of_getElem? (i := 1) rfl)
  have w48 := hts (.fieldLink RX5 48 "SharedWireModel" "hasIdentifier" "[I") (List.mem_of_getElem? (i := 2) rfl)
  have hinX5 : ∀ w ∈ wsX50, w ∈ wsX5_keep := fun w h => List.mem_cons_of_mem _ (List.mem_append_right _ (h))
  have hl := lv_entry ([.ref (a 0), .int p0]) (n := 6) (Nat.le_of_ble_eq_true rfl)
  rw [lg_entry_eq]
  generalize (lg_sl ([.ref (a 0), .int p0]) ++ List.replicate (6 - (lg_sl ([.ref (a 0), .int p0])).length) Slot.unset).toArray = ls at hl ⊢
  have hl : lv_has ls 6 [(0, .ref (a 0)), (1, .int p0)] := hl
  obtain ⟨mI, mA, mL⟩ := S
  clear hAe hD0
  generalize hL0 : ([] : List Loc) = locs at hS ⊢
  unfold wp_X5_keep at hf
  refine lv_aload_n hx hb dX5_keep_0 rfl (lv_at hl 0 rfl) ?_
  refine lv_iload_n hx hb dX5_keep_1 rfl (lv_at hl 1 rfl) ?_
  refine k0i (As := [.int p0]) (rest := []) ⟨hx, hb, hml, hown, hts⟩ (c_X5_isLong l dC dI y a s.heap.size (mI, mA, mL) p0 _ hf) (cwV 1 hts gX5_keep_X5_isLong rfl rfl rfl (by decide +kernel) ⟨Nat.le_of_ble_eq_true rfl, Nat.le_of_ble_eq_true rfl⟩) hK hP hD (va_recv hK.1 hP (ci := 5) (q0 := 0) rfl rfl) hS hA rfl hl.1 rfl (Nat.le_of_ble_eq_true rfl) dX5_keep_2 ⟨Nat.zero_le _, Nat.zero_le _⟩ (fun r1 u2 H locs hf hP hD hS => ?_)
  obtain ⟨hf, e9⟩ := hf
  have e9 := e9.symm
  subst e9
  have hP : va_P (dC, dI) vwCl (mdW y a (mI, mA, mL)) H := hP
  have hD : va_D A (mdW y a (mI, mA, mL)) := hD
  refine lv_istore_n (lv' := [(2, .int r1), (0, .ref (a 0)), (1, .int p0)]) hx hb dX5_keep_5 rfl hl (by decide) rfl (fun ls hl => ?_)
  refine lv_aload_n hx hb dX5_keep_6 rfl (lv_at hl 1 rfl) ?_
  refine va_get (D := (dC, dI)) (ci := 5) (v := .ref (a 14)) (C := RX5) (T := TX5) (N := 35) hx hb hts hinX5 hown hK.1 hP 0 rfl rfl 14 (by decide) w45 (fun _ h9 => h9) rfl dX5_keep_7 ?_
  refine lv_iload_n hx hb dX5_keep_10 rfl (lv_at hl 2 rfl) ?_
  refine lv_iload_n hx hb dX5_keep_11 rfl (lv_at hl 0 rfl) ?_
  have g3 := hf.1
  replace hf := hf.2
  have hz := hf.1
  replace hf := hf.2
  refine mst_14 (f := (mA 14)) (x := r1) (j := p0.toNatClampNeg) hx hb hK.1 hP hD hS rfl rfl g3 hz dX5_keep_12 (fun H locs hP hD hS => ?_)
  refine lv_aload_n hx hb dX5_keep_13 rfl (lv_at hl 1 rfl) ?_
  refine va_get (D := (dC, dI)) (ci := 5) (v := .ref (a 15)) (C := RX5) (T := TX5) (N := 35) hx hb hts hinX5 hown hK.1 hP 0 rfl rfl 15 (by decide) w48 (fun _ h9 => h9) rfl dX5_keep_14 ?_
  refine lv_iload_n hx hb dX5_keep_17 rfl (lv_at hl 2 rfl) ?_
  refine lv_iload_n hx hb dX5_keep_18 rfl (lv_at hl 0 rfl) ?_
  refine lv_if_eq (tgt := 46) hx hb dX5_keep_19 (by decide) (fun c4 => ?_) (fun c4 => ?_)
  · replace hf := hf.1 c4
    refine lv_aload_n hx hb dX5_keep_46 rfl (lv_at hl 1 rfl) ?_
    refine lv_iload_n hx hb dX5_keep_47 rfl (lv_at hl 2 rfl) ?_
    refine lv_iconst (v := 1) hx hb dX5_keep_48 (by decide) ?_
    refine lv_bipush (v := 11) hx hb dX5_keep_49 (by decide) ?_
    refine k0i (As := [.int p0, .int 1, .int 11]) (rest := [.int p0, .ref (a 15)]) ⟨hx, hb, hml, hown, hts⟩ (c_X5_number l dC dI y a H.size (mI, va_up mA 14 (upd (mA 14) p0.toNatClampNeg r1), mL) p0 1 11 _ hf) (cwV 3 hts gX5_keep_X5_number rfl rfl rfl (by decide +kernel) ⟨Nat.le_of_ble_eq_true rfl, Nat.le_of_ble_eq_true rfl⟩) hK hP hD (va_recv hK.1 hP (ci := 5) (q0 := 0) rfl rfl) hS hA rfl hl.1 rfl (Nat.le_of_ble_eq_true rfl) dX5_keep_51 ⟨Nat.zero_le _, Nat.zero_le _⟩ (fun r5 u6 H locs hf hP hD hS => ?_)
    obtain ⟨hf, e9⟩ := hf
    have e9 := e9.symm
    subst e9
    have hP : va_P (dC, dI) vwCl (mdW y a (mI, va_up mA 14 (upd (mA 14) p0.toNatClampNeg r1), mL)) H := hP
    have hD : va_D A (mdW y a (mI, va_up mA 14 (upd (mA 14) p0.toNatClampNeg r1), mL)) := hD
    exact j_X5_keep_54 C0 a K (mI, va_up mA 14 (upd (mA 14) p0.toNatClampNeg r1), mL) p0 r1 r5 p0 H locs ls hP hD hS (lv_sub hl [1, 2, 0] rfl) hf
  · replace hf := hf.2 c4
    refine lv_aload_n hx hb dX5_keep_22 rfl (lv_at hl 1 rfl) ?_
    refine lv_iload_n hx hb dX5_keep_23 rfl (lv_at hl 2 rfl) ?_
    refine lv_iconst (v := 1) hx hb dX5_keep_24 (by decide) ?_
    refine lv_bipush (v := 11) hx hb dX5_keep_25 (by decide) ?_
    refine k0i (As := [.int p0, .int 1, .int 11]) (rest := [.int p0, .ref (a 15)]) ⟨hx, hb, hml, hown, hts⟩ (c_X5_number l dC dI y a H.size (mI, va_up mA 14 (upd (mA 14) p0.toNatClampNeg r1), mL) p0 1 11 _ hf) (cwV 3 hts gX5_keep_X5_number rfl rfl rfl (by decide +kernel) ⟨Nat.le_of_ble_eq_true rfl, Nat.le_of_ble_eq_true rfl⟩) hK hP hD (va_recv hK.1 hP (ci := 5) (q0 := 0) rfl rfl) hS hA rfl hl.1 rfl (Nat.le_of_ble_eq_true rfl) dX5_keep_27 ⟨Nat.zero_le _, Nat.zero_le _⟩ (fun r26 u27 H locs hf hP hD hS => ?_)
    obtain ⟨hf, e9⟩ := hf
    have e9 := e9.symm
    subst e9
    have hP : va_P (dC, dI) vwCl (mdW y a (mI, va_up mA 14 (upd (mA 14) p0.toNatClampNeg r1), mL)) H := hP
    have hD : va_D A (mdW y a (mI, va_up mA 14 (upd (mA 14) p0.toNatClampNeg r1), mL)) := hD
    refine lv_bipush (v := 18) hx hb dX5_keep_30 (by decide) ?_
    refine lv_ishl hx hb dX5_keep_32 ?_
    refine lv_aload_n hx hb dX5_keep_33 rfl (lv_at hl 1 rfl) ?_
    refine lv_iload_n hx hb dX5_keep_34 rfl (lv_at hl 2 rfl) ?_
    refine lv_bipush (v := 14) hx hb dX5_keep_35 (by decide) ?_
    refine lv_bipush (v := 18) hx hb dX5_keep_37 (by decide) ?_
    refine k0i (As := [.int p0, .int 14, .int 18]) (rest := [.int (r26 <<< (18 &&& 31)), .int p0, .ref (a 15)]) ⟨hx, hb, hml, hown, hts⟩ (c_X5_number l dC dI y a H.size (mI, va_up mA 14 (upd (mA 14) p0.toNatClampNeg r1), mL) p0 14 18 _ hf) (cwV 3 hts gX5_keep_X5_number rfl rfl rfl (by decide +kernel) ⟨Nat.le_of_ble_eq_true rfl, Nat.le_of_ble_eq_true rfl⟩) hK hP hD (va_recv hK.1 hP (ci := 5) (q0 := 0) rfl rfl) hS hA rfl hl.1 rfl (Nat.le_of_ble_eq_true rfl) dX5_keep_39 ⟨Nat.zero_le _, Nat.zero_le _⟩ (fun r28 u29 H locs hf hP hD hS => ?_)
    obtain ⟨hf, e9⟩ := hf
    have e9 := e9.symm
    subst e9
    have hP : va_P (dC, dI) vwCl (mdW y a (mI, va_up mA 14 (upd (mA 14) p0.toNatClampNeg r1), mL)) H := hP
    have hD : va_D A (mdW y a (mI, va_up mA 14 (upd (mA 14) p0.toNatClampNeg r1), mL)) := hD
    refine lv_ior hx hb dX5_keep_42 ?_
    refine lv_goto (tgt := 54) hx hb dX5_keep_43 (by decide) ?_
    exact j_X5_keep_54 C0 a K (mI, va_up mA 14 (upd (mA 14) p0.toNatClampNeg r1), mL) p0 r1 ((r26 <<< (18 &&& 31)) ||| r28) p0 H locs ls hP hD hS (lv_sub hl [1, 2, 0] rfl) hf

def wp_X5_finish_156 (K : ModelS → Prop) : ModelS → Int32 → Prop := fun (mI, mA, mL) k0 => K (va_up mI 2 k0, mA, mL)
def wp_X5_finish_143 (K : ModelS → Prop) : ModelS → Int32 → Int32 → Prop := fun (mI, mA, mL) v2 k0 => ((v2 = 0 → wp_X5_finish_156 K (va_up mI 1 k0, mA, mL) 3) ∧ (¬ v2 = 0 → wp_X5_finish_156 K (va_up mI 1 k0, mA, mL) 0))
def wp_X5_finish_4_4 (K : ModelS → Prop) : ModelS → Int32 → Int32 → Prop := fun (mI, mA, mL) v1 v2 => ((v2 = 0 → wp_X5_finish_143 K (mI, mA, mL) v2 3) ∧ (¬ v2 = 0 → wp_X5_finish_143 K (mI, mA, mL) v2 1))
def wp_X5_finish_126_3 (K : ModelS → Prop) : ModelS → Int32 → Int32 → Prop := fun (mI, mA, mL) v1 k0 => wp_X5_finish_4_4 K (mI, mA, mL) v1 k0
def wp_X5_finish_121_3 (K : ModelS → Prop) : ModelS → Int32 → Prop := fun (mI, mA, mL) v1 => wp_X5_finish_126_3 K (mI, mA, mL) v1 1
def wp_X5_finish_107_3 (K : ModelS → Prop) : ModelS → Int32 → Int32 → Prop := fun (mI, mA, mL) v1 v2 => ((¬ v2 = 0 → wp_X5_finish_121_3 K (mI, mA, mL) v1) ∧ (v2 = 0 → (((mA 3) 3 ≤ 1 → wp_X5_finish_126_3 K (mI, mA, mL) v1 0) ∧ (¬ (mA 3) 3 ≤ 1 → wp_X5_finish_121_3 K (mI, mA, mL) v1))))
def wp_X5_finish_83_3 (K : ModelS → Prop) : ModelS → Int32 → Int32 → Prop := fun (mI, mA, mL) v1 v2 => ((¬ (mA 3) 3 = 2 → wp_X5_finish_107_3 K (mI, mA, mL) v1 v2) ∧ ((mA 3) 3 = 2 → ((¬ (v1 >>> (3 &&& 31)) &&& 1 = 1 → wp_X5_finish_107_3 K (mI, mA, mL) v1 v2) ∧ ((v1 >>> (3 &&& 31)) &&& 1 = 1 → wp_X5_keep (mI, mA, mL) 3 (fun u17 => wp_X5_finish_107_3 K (u17.1, u17.2.1, u17.2.2) v1 v2)))))
def wp_X5_finish_75_3 (K : ModelS → Prop) : ModelS → Int32 → Int32 → Int32 → Int32 → Prop := fun (mI, mA, mL) v1 v2 k0 k1 => (vp_in k1 4 ∧ wp_X5_finish_83_3 K (mI, va_up (va_up mA 4 (upd (mA 4) k1.toNatClampNeg k0)) 3 (upd (mA 3) 3 1), mL) v1 v2)
def wp_X5_finish_4_3 (K : ModelS → Prop) : ModelS → Int32 → Int32 → Prop := fun (mI, mA, mL) v1 v2 => ((¬ (mA 3) 3 = 3 → wp_X5_finish_83_3 K (mI, mA, mL) v1 v2) ∧ ((mA 3) 3 = 3 → ((¬ (mA 21) 3 = (mA 20) 3 → wp_X5_finish_83_3 K (mI, mA, mL) v1 v2) ∧ ((mA 21) 3 = (mA 20) 3 → wp_X5_forget (mI, mA, mL) 3 (fun u19 => (((u19.2.1 4) 3 ≤ 0 → wp_X5_finish_75_3 K (u19.1, va_up u19.2.1 6 (upd (u19.2.1 6) 3 (((u19.2.1 6) 3) + 1)), u19.2.2) v1 v2 0 3) ∧ (¬ (u19.2.1 4) 3 ≤ 0 → wp_X5_finish_75_3 K (u19.1, va_up u19.2.1 6 (upd (u19.2.1 6) 3 (((u19.2.1 6) 3) + 1)), u19.2.2) v1 v2 (((u19.2.1 4) 3) - 1) 3)))))))
def wp_X5_finish_126_2 (K : ModelS → Prop) : ModelS → Int32 → Int32 → Prop := fun (mI, mA, mL) v1 k0 => wp_X5_finish_4_3 K (mI, mA, mL) v1 k0
def wp_X5_finish_121_2 (K : ModelS → Prop) : ModelS → Int32 → Prop := fun (mI, mA, mL) v1 => wp_X5_finish_126_2 K (mI, mA, mL) v1 1
def wp_X5_finish_107_2 (K : ModelS → Prop) : ModelS → Int32 → Int32 → Prop := fun (mI, mA, mL) v1 v2 => ((¬ v2 = 0 → wp_X5_finish_121_2 K (mI, mA, mL) v1) ∧ (v2 = 0 → (((mA 3) 2 ≤ 1 → wp_X5_finish_126_2 K (mI, mA, mL) v1 0) ∧ (¬ (mA 3) 2 ≤ 1 → wp_X5_finish_121_2 K (mI, mA, mL) v1))))
def wp_X5_finish_83_2 (K : ModelS → Prop) : ModelS → Int32 → Int32 → Prop := fun (mI, mA, mL) v1 v2 => ((¬ (mA 3) 2 = 2 → wp_X5_finish_107_2 K (mI, mA, mL) v1 v2) ∧ ((mA 3) 2 = 2 → ((¬ (v1 >>> (2 &&& 31)) &&& 1 = 1 → wp_X5_finish_107_2 K (mI, mA, mL) v1 v2) ∧ ((v1 >>> (2 &&& 31)) &&& 1 = 1 → wp_X5_keep (mI, mA, mL) 2 (fun u24 => wp_X5_finish_107_2 K (u24.1, u24.2.1, u24.2.2) v1 v2)))))
def wp_X5_finish_75_2 (K : ModelS → Prop) : ModelS → Int32 → Int32 → Int32 → Int32 → Prop := fun (mI, mA, mL) v1 v2 k0 k1 => (vp_in k1 4 ∧ wp_X5_finish_83_2 K (mI, va_up (va_up mA 4 (upd (mA 4) k1.toNatClampNeg k0)) 3 (upd (mA 3) 2 1), mL) v1 v2)
def wp_X5_finish_4_2 (K : ModelS → Prop) : ModelS → Int32 → Int32 → Prop := fun (mI, mA, mL) v1 v2 => ((¬ (mA 3) 2 = 3 → wp_X5_finish_83_2 K (mI, mA, mL) v1 v2) ∧ ((mA 3) 2 = 3 → ((¬ (mA 21) 2 = (mA 20) 2 → wp_X5_finish_83_2 K (mI, mA, mL) v1 v2) ∧ ((mA 21) 2 = (mA 20) 2 → wp_X5_forget (mI, mA, mL) 2 (fun u26 => (((u26.2.1 4) 2 ≤ 0 → wp_X5_finish_75_2 K (u26.1, va_up u26.2.1 6 (upd (u26.2.1 6) 2 (((u26.2.1 6) 2) + 1)), u26.2.2) v1 v2 0 2) ∧ (¬ (u26.2.1 4) 2 ≤ 0 → wp_X5_finish_75_2 K (u26.1, va_up u26.2.1 6 (upd (u26.2.1 6) 2 (((u26.2.1 6) 2) + 1)), u26.2.2) v1 v2 (((u26.2.1 4) 2) - 1) 2)))))))
def wp_X5_finish_126_1 (K : ModelS → Prop) : ModelS → Int32 → Int32 → Prop := fun (mI, mA, mL) v1 k0 => wp_X5_finish_4_2 K (mI, mA, mL) v1 k0
def wp_X5_finish_121_1 (K : ModelS → Prop) : ModelS → Int32 → Prop := fun (mI, mA, mL) v1 => wp_X5_finish_126_1 K (mI, mA, mL) v1 1
def wp_X5_finish_107_1 (K : ModelS → Prop) : ModelS → Int32 → Int32 → Prop := fun (mI, mA, mL) v1 v2 => ((¬ v2 = 0 → wp_X5_finish_121_1 K (mI, mA, mL) v1) ∧ (v2 = 0 → (((mA 3) 1 ≤ 1 → wp_X5_finish_126_1 K (mI, mA, mL) v1 0) ∧ (¬ (mA 3) 1 ≤ 1 → wp_X5_finish_121_1 K (mI, mA, mL) v1))))
def wp_X5_finish_83_1 (K : ModelS → Prop) : ModelS → Int32 → Int32 → Prop := fun (mI, mA, mL) v1 v2 => ((¬ (mA 3) 1 = 2 → wp_X5_finish_107_1 K (mI, mA, mL) v1 v2) ∧ ((mA 3) 1 = 2 → ((¬ (v1 >>> (1 &&& 31)) &&& 1 = 1 → wp_X5_finish_107_1 K (mI, mA, mL) v1 v2) ∧ ((v1 >>> (1 &&& 31)) &&& 1 = 1 → wp_X5_keep (mI, mA, mL) 1 (fun u31 => wp_X5_finish_107_1 K (u31.1, u31.2.1, u31.2.2) v1 v2)))))
def wp_X5_finish_75_1 (K : ModelS → Prop) : ModelS → Int32 → Int32 → Int32 → Int32 → Prop := fun (mI, mA, mL) v1 v2 k0 k1 => (vp_in k1 4 ∧ wp_X5_finish_83_1 K (mI, va_up (va_up mA 4 (upd (mA 4) k1.toNatClampNeg k0)) 3 (upd (mA 3) 1 1), mL) v1 v2)
def wp_X5_finish_4_1 (K : ModelS → Prop) : ModelS → Int32 → Int32 → Prop := fun (mI, mA, mL) v1 v2 => ((¬ (mA 3) 1 = 3 → wp_X5_finish_83_1 K (mI, mA, mL) v1 v2) ∧ ((mA 3) 1 = 3 → ((¬ (mA 21) 1 = (mA 20) 1 → wp_X5_finish_83_1 K (mI, mA, mL) v1 v2) ∧ ((mA 21) 1 = (mA 20) 1 → wp_X5_forget (mI, mA, mL) 1 (fun u33 => (((u33.2.1 4) 1 ≤ 0 → wp_X5_finish_75_1 K (u33.1, va_up u33.2.1 6 (upd (u33.2.1 6) 1 (((u33.2.1 6) 1) + 1)), u33.2.2) v1 v2 0 1) ∧ (¬ (u33.2.1 4) 1 ≤ 0 → wp_X5_finish_75_1 K (u33.1, va_up u33.2.1 6 (upd (u33.2.1 6) 1 (((u33.2.1 6) 1) + 1)), u33.2.2) v1 v2 (((u33.2.1 4) 1) - 1) 1)))))))
def wp_X5_finish_126_0 (K : ModelS → Prop) : ModelS → Int32 → Int32 → Prop := fun (mI, mA, mL) v1 k0 => wp_X5_finish_4_1 K (mI, mA, mL) v1 k0
def wp_X5_finish_121_0 (K : ModelS → Prop) : ModelS → Int32 → Prop := fun (mI, mA, mL) v1 => wp_X5_finish_126_0 K (mI, mA, mL) v1 1
def wp_X5_finish_107_0 (K : ModelS → Prop) : ModelS → Int32 → Int32 → Prop := fun (mI, mA, mL) v1 v2 => ((¬ v2 = 0 → wp_X5_finish_121_0 K (mI, mA, mL) v1) ∧ (v2 = 0 → (((mA 3) 0 ≤ 1 → wp_X5_finish_126_0 K (mI, mA, mL) v1 0) ∧ (¬ (mA 3) 0 ≤ 1 → wp_X5_finish_121_0 K (mI, mA, mL) v1))))
def wp_X5_finish_83_0 (K : ModelS → Prop) : ModelS → Int32 → Int32 → Prop := fun (mI, mA, mL) v1 v2 => ((¬ (mA 3) 0 = 2 → wp_X5_finish_107_0 K (mI, mA, mL) v1 v2) ∧ ((mA 3) 0 = 2 → ((¬ (v1 >>> (0 &&& 31)) &&& 1 = 1 → wp_X5_finish_107_0 K (mI, mA, mL) v1 v2) ∧ ((v1 >>> (0 &&& 31)) &&& 1 = 1 → wp_X5_keep (mI, mA, mL) 0 (fun u38 => wp_X5_finish_107_0 K (u38.1, u38.2.1, u38.2.2) v1 v2)))))
def wp_X5_finish_75_0 (K : ModelS → Prop) : ModelS → Int32 → Int32 → Int32 → Int32 → Prop := fun (mI, mA, mL) v1 v2 k0 k1 => (vp_in k1 4 ∧ wp_X5_finish_83_0 K (mI, va_up (va_up mA 4 (upd (mA 4) k1.toNatClampNeg k0)) 3 (upd (mA 3) 0 1), mL) v1 v2)
def wp_X5_finish_4_0 (K : ModelS → Prop) : ModelS → Int32 → Int32 → Prop := fun (mI, mA, mL) v1 v2 => ((¬ (mA 3) 0 = 3 → wp_X5_finish_83_0 K (mI, mA, mL) v1 v2) ∧ ((mA 3) 0 = 3 → ((¬ (mA 21) 0 = (mA 20) 0 → wp_X5_finish_83_0 K (mI, mA, mL) v1 v2) ∧ ((mA 21) 0 = (mA 20) 0 → wp_X5_forget (mI, mA, mL) 0 (fun u40 => (((u40.2.1 4) 0 ≤ 0 → wp_X5_finish_75_0 K (u40.1, va_up u40.2.1 6 (upd (u40.2.1 6) 0 (((u40.2.1 6) 0) + 1)), u40.2.2) v1 v2 0 0) ∧ (¬ (u40.2.1 4) 0 ≤ 0 → wp_X5_finish_75_0 K (u40.1, va_up u40.2.1 6 (upd (u40.2.1 6) 0 (((u40.2.1 6) 0) + 1)), u40.2.2) v1 v2 (((u40.2.1 4) 0) - 1) 0)))))))
def wp_X5_finish : ModelS → Int32 → (ModelS → Prop) → Prop := fun (mI, mA, mL) p0 K => wp_X5_finish_4_0 K (mI, mA, mL) p0 0
set_option maxHeartbeats 4000000 in
set_option maxRecDepth 100000 in
theorem j_X5_finish_156 {p : Program} {l : Launch} {e : Env} {s : State} {m : MethodId} {args : Array Value} {below : List Frame} {meth : Method} {c : Code} {dC : Nat → ClassId} {dI : Nat → Nat → Nat} {y : Nat → ClassId} {A : Nat → Prop} (C0 : Cx p s m args meth c cX5_finish 4 none wsX5_finish RX5 A dC dI y) (a : Nat → Nat) (K : ModelS → Prop) : ∀ (S : ModelS) (k0 : Int32) (H : Heap) (locs : List Loc) (ls : Array Slot), va_P (dC, dI) vwCl (mdW y a S) H → va_D A (mdW y a S) → va_S A s.heap H locs → lv_has ls 4 [] → wp_X5_finish_156 K S k0 → W p l e ({ frames := 3, cells := 0, slots := 0, locals := 72 } : Room) s m args below meth c H locs 0 0 (MQ below (va_Qv K (BW dC dI A (fun u => mdW y a u)) A) args s 0 0 A) (F0 m 156 ls [.int k0, .ref (a 0)]) := by
  obtain ⟨hx, hb, hr, hml, hown, hts, hlocks, hA, hK⟩ := id C0
  have w181 := hts (Cond.fieldLink RX5 181 "SharedWireModel" "left" "I") (List.mem_of_getElem? (i := 7) rfl)
  have hinX5 : ∀ w ∈ wsX50, w ∈ wsX5_finish := fun w h => List.mem_cons_of_mem _ (List.mem_append_right _ (h))
  intro S k0 H locs ls hP hD hS hl hf
  obtain ⟨mI, mA, mL⟩ := S
  unfold wp_X5_finish_156 at hf
  refine mput_2 (v := k0) hx hb hts hinX5 hown hK.1 hP hD hS w181 dX5_finish_156 (fun H locs hP hD hS => ?_)
  exact W.vret hx hb hr (fun t ht hW => ⟨⟨(va_up mI 2 k0, mA, mL), rfl, hf, by rw [ht]; exact hP, hD⟩, hS.F ht⟩) hS.2.2 dX5_finish_159
set_option maxHeartbeats 4000000 in
set_option maxRecDepth 100000 in
theorem j_X5_finish_143 {p : Program} {l : Launch} {e : Env} {s : State} {m : MethodId} {args : Array Value} {below : List Frame} {meth : Method} {c : Code} {dC : Nat → ClassId} {dI : Nat → Nat → Nat} {y : Nat → ClassId} {A : Nat → Prop} (C0 : Cx p s m args meth c cX5_finish 4 none wsX5_finish RX5 A dC dI y) (a : Nat → Nat) (K : ModelS → Prop) : ∀ (S : ModelS) (v2 : Int32) (k0 : Int32) (H : Heap) (locs : List Loc) (ls : Array Slot), va_P (dC, dI) vwCl (mdW y a S) H → va_D A (mdW y a S) → va_S A s.heap H locs → lv_has ls 4 [(0, .ref (a 0)), (2, .int v2)] → wp_X5_finish_143 K S v2 k0 → W p l e ({ frames := 3, cells := 0, slots := 0, locals := 72 } : Room) s m args below meth c H locs 0 0 (MQ below (va_Qv K (BW dC dI A (fun u => mdW y a u)) A) args s 0 0 A) (F0 m 143 ls [.int k0, .ref (a 0)]) := by
  obtain ⟨hx, hb, hr, hml, hown, hts, hlocks, hA, hK⟩ := id C0
  have w178 := hts (Cond.fieldLink RX5 178 "SharedWireModel" "wire" "I") (List.mem_of_getElem? (i := 6) rfl)
  have hinX5 : ∀ w ∈ wsX50, w ∈ wsX5_finish := fun w h => List.mem_cons_of_mem _ (List.mem_append_right _ (h))
  intro S v2 k0 H locs ls hP hD hS hl hf
  obtain ⟨mI, mA, mL⟩ := S
  unfold wp_X5_finish_143 at hf
  refine mput_1 (v := k0) hx hb hts hinX5 hown hK.1 hP hD hS w178 dX5_finish_143 (fun H locs hP hD hS => ?_)
  refine lv_aload_n hx hb dX5_finish_146 rfl (lv_at hl 0 rfl) ?_
  refine lv_iload_n hx hb dX5_finish_147 rfl (lv_at hl 1 rfl) ?_
  refine lv_if_eq (tgt := 155) hx hb dX5_finish_148 (by decide) (fun c14 => ?_) (fun c14 => ?_)
  · replace hf := hf.1 c14
    refine lv_iconst (v := 3) hx hb dX5_finish_155 (by decide) ?_
    exact j_X5_finish_156 C0 a K (va_up mI 1 k0, mA, mL) 3 H locs ls hP hD hS (lv_sub hl [] rfl) hf
  · replace hf := hf.2 c14
    refine lv_iconst (v := 0) hx hb dX5_finish_151 (by decide) ?_
    refine lv_goto (tgt := 156) hx hb dX5_finish_152 (by decide) ?_
    exact j_X5_finish_156 C0 a K (va_up mI 1 k0, mA, mL) 0 H locs ls hP hD hS (lv_sub hl [] rfl) hf
set_option maxHeartbeats 4000000 in
set_option maxRecDepth 100000 in
theorem j_X5_finish_4_4 {p : Program} {l : Launch} {e : Env} {s : State} {m : MethodId} {args : Array Value} {below : List Frame} {meth : Method} {c : Code} {dC : Nat → ClassId} {dI : Nat → Nat → Nat} {y : Nat → ClassId} {A : Nat → Prop} (C0 : Cx p s m args meth c cX5_finish 4 none wsX5_finish RX5 A dC dI y) (a : Nat → Nat) (K : ModelS → Prop) : ∀ (S : ModelS) (v1 : Int32) (v2 : Int32) (H : Heap) (locs : List Loc) (ls : Array Slot), va_P (dC, dI) vwCl (mdW y a S) H → va_D A (mdW y a S) → va_S A s.heap H locs → lv_has ls 4 [(0, .ref (a 0)), (1, .int v1), (2, .int v2), (3, .int 4)] → wp_X5_finish_4_4 K S v1 v2 → W p l e ({ frames := 3, cells := 0, slots := 0, locals := 72 } : Room) s m args below meth c H locs 0 0 (MQ below (va_Qv K (BW dC dI A (fun u => mdW y a u)) A) args s 0 0 A) (F0 m 4 ls []) := by
  obtain ⟨hx, hb, hr, hml, hown, hts, hlocks, hA, hK⟩ := id C0
  intro S v1 v2 H locs ls hP hD hS hl hf
  obtain ⟨mI, mA, mL⟩ := S
  unfold wp_X5_finish_4_4 at hf
  refine lv_iload_n hx hb dX5_finish_4 rfl (lv_at hl 3 rfl) ?_
  refine lv_iconst (v := 4) hx hb dX5_finish_5 (by decide) ?_
  refine lv_icmp_ge (tgt := 133) hx hb dX5_finish_6 (by decide) (fun _ => ?_) (fun c9 => absurd (by decide) c9)
  refine lv_aload_n hx hb dX5_finish_133 rfl (lv_at hl 0 rfl) ?_
  refine lv_iload_n hx hb dX5_finish_134 rfl (lv_at hl 2 rfl) ?_
  refine lv_if_eq (tgt := 142) hx hb dX5_finish_135 (by decide) (fun c13 => ?_) (fun c13 => ?_)
  · replace hf := hf.1 c13
    refine lv_iconst (v := 3) hx hb dX5_finish_142 (by decide) ?_
    exact j_X5_finish_143 C0 a K (mI, mA, mL) v2 3 H locs ls hP hD hS (lv_sub hl [0, 2] rfl) hf
  · replace hf := hf.2 c13
    refine lv_iconst (v := 1) hx hb dX5_finish_138 (by decide) ?_
    refine lv_goto (tgt := 143) hx hb dX5_finish_139 (by decide) ?_
    exact j_X5_finish_143 C0 a K (mI, mA, mL) v2 1 H locs ls hP hD hS (lv_sub hl [0, 2] rfl) hf
set_option maxHeartbeats 4000000 in
set_option maxRecDepth 100000 in
theorem j_X5_finish_126_3 {p : Program} {l : Launch} {e : Env} {s : State} {m : MethodId} {args : Array Value} {below : List Frame} {meth : Method} {c : Code} {dC : Nat → ClassId} {dI : Nat → Nat → Nat} {y : Nat → ClassId} {A : Nat → Prop} (C0 : Cx p s m args meth c cX5_finish 4 none wsX5_finish RX5 A dC dI y) (a : Nat → Nat) (K : ModelS → Prop) : ∀ (S : ModelS) (v1 : Int32) (k0 : Int32) (H : Heap) (locs : List Loc) (ls : Array Slot), va_P (dC, dI) vwCl (mdW y a S) H → va_D A (mdW y a S) → va_S A s.heap H locs → lv_has ls 4 [(0, .ref (a 0)), (1, .int v1), (3, .int 3)] → wp_X5_finish_126_3 K S v1 k0 → W p l e ({ frames := 3, cells := 0, slots := 0, locals := 72 } : Room) s m args below meth c H locs 0 0 (MQ below (va_Qv K (BW dC dI A (fun u => mdW y a u)) A) args s 0 0 A) (F0 m 126 ls [.int k0]) := by
  obtain ⟨hx, hb, hr, hml, hown, hts, hlocks, hA, hK⟩ := id C0
  intro S v1 k0 H locs ls hP hD hS hl hf
  obtain ⟨mI, mA, mL⟩ := S
  unfold wp_X5_finish_126_3 at hf
  refine lv_istore_n (lv' := [(2, .int k0), (0, .ref (a 0)), (1, .int v1), (3, .int 3)]) hx hb dX5_finish_126 rfl hl (by decide) rfl (fun ls hl => ?_)
  refine lv_iinc (v := 4) (lv' := [(3, .int 4), (2, .int k0), (0, .ref (a 0)), (1, .int v1)]) hx hb dX5_finish_127 hl (k := 3) rfl (by decide) (by decide) rfl (fun ls hl => ?_)
  refine lv_goto (tgt := 4) hx hb dX5_finish_130 (by decide) ?_
  exact j_X5_finish_4_4 C0 a K (mI, mA, mL) v1 k0 H locs ls hP hD hS (lv_sub hl [2, 3, 1, 0] rfl) hf
set_option maxHeartbeats 4000000 in
set_option maxRecDepth 100000 in
theorem j_X5_finish_121_3 {p : Program} {l : Launch} {e : Env} {s : State} {m : MethodId} {args : Array Value} {below : List Frame} {meth : Method} {c : Code} {dC : Nat → ClassId} {dI : Nat → Nat → Nat} {y : Nat → ClassId} {A : Nat → Prop} (C0 : Cx p s m args meth c cX5_finish 4 none wsX5_finish RX5 A dC dI y) (a : Nat → Nat) (K : ModelS → Prop) : ∀ (S : ModelS) (v1 : Int32) (H : Heap) (locs : List Loc) (ls : Array Slot), va_P (dC, dI) vwCl (mdW y a S) H → va_D A (mdW y a S) → va_S A s.heap H locs → lv_has ls 4 [(0, .ref (a 0)), (1, .int v1), (3, .int 3)] → wp_X5_finish_121_3 K S v1 → W p l e ({ frames := 3, cells := 0, slots := 0, locals := 72 } : Room) s m args below meth c H locs 0 0 (MQ below (va_Qv K (BW dC dI A (fun u => mdW y a u)) A) args s 0 0 A) (F0 m 121 ls []) := by
  obtain ⟨hx, hb, hr, hml, hown, hts, hlocks, hA, hK⟩ := id C0
  intro S v1 H locs ls hP hD hS hl hf
  obtain ⟨mI, mA, mL⟩ := S
  unfold wp_X5_finish_121_3 at hf
  refine lv_iconst (v := 1) hx hb dX5_finish_121 (by decide) ?_
  refine lv_goto (tgt := 126) hx hb dX5_finish_122 (by decide) ?_
  exact j_X5_finish_126_3 C0 a K (mI, mA, mL) v1 1 H locs ls hP hD hS (lv_sub hl [0, 1, 2] rfl) hf
set_option maxHeartbeats 4000000 in
set_option maxRecDepth 100000 in
theorem j_X5_finish_107_3 {p : Program} {l : Launch} {e : Env} {s : State} {m : MethodId} {args : Array Value} {below : List Frame} {meth : Method} {c : Code} {dC : Nat → ClassId} {dI : Nat → Nat → Nat} {y : Nat → ClassId} {A : Nat → Prop} (C0 : Cx p s m args meth c cX5_finish 4 none wsX5_finish RX5 A dC dI y) (a : Nat → Nat) (K : ModelS → Prop) : ∀ (S : ModelS) (v1 : Int32) (v2 : Int32) (H : Heap) (locs : List Loc) (ls : Array Slot), va_P (dC, dI) vwCl (mdW y a S) H → va_D A (mdW y a S) → va_S A s.heap H locs → lv_has ls 4 [(0, .ref (a 0)), (1, .int v1), (2, .int v2), (3, .int 3)] → wp_X5_finish_107_3 K S v1 v2 → W p l e ({ frames := 3, cells := 0, slots := 0, locals := 72 } : Room) s m args below meth c H locs 0 0 (MQ below (va_Qv K (BW dC dI A (fun u => mdW y a u)) A) args s 0 0 A) (F0 m 107 ls []) := by
  obtain ⟨hx, hb, hr, hml, hown, hts, hlocks, hA, hK⟩ := id C0
  have w9 := hts (Cond.fieldLink RX5 9 "SharedWireModel" "state" "[I") (List.mem_of_getElem? (i := 1) rfl)
  have hinX5 : ∀ w ∈ wsX50, w ∈ wsX5_finish := fun w h => List.mem_cons_of_mem _ (List.mem_append_right _ (h))
  intro S v1 v2 H locs ls hP hD hS hl hf
  obtain ⟨mI, mA, mL⟩ := S
  unfold wp_X5_finish_107_3 at hf
  refine lv_iload_n hx hb dX5_finish_107 rfl (lv_at hl 2 rfl) ?_
  refine lv_if_ne (tgt := 121) hx hb dX5_finish_108 (by decide) (fun c12 => ?_) (fun c12 => ?_)
  · replace hf := hf.1 c12
    exact j_X5_finish_121_3 C0 a K (mI, mA, mL) v1 H locs ls hP hD hS (lv_sub hl [0, 1, 3] rfl) hf
  · replace hf := hf.2 c12
    refine lv_aload_n hx hb dX5_finish_111 rfl (lv_at hl 0 rfl) ?_
    refine va_get (D := (dC, dI)) (ci := 5) (v := .ref (a 3)) (C := RX5) (T := TX5) (N := 35) hx hb hts hinX5 hown hK.1 hP 0 rfl rfl 3 (by decide) w9 (fun _ h9 => h9) rfl dX5_finish_112 ?_
    refine lv_iload_n hx hb dX5_finish_115 rfl (lv_at hl 3 rfl) ?_
    refine ar_ild (f := (mA 3)) (j := 3) hx hb hK.1 hP 1 0 rfl rfl (clamp_lit 3 rfl) (vin_lit 3 4 rfl rfl) dX5_finish_116 ?_
    refine lv_iconst (v := 1) hx hb dX5_finish_117 (by decide) ?_
    refine lv_icmp_le (tgt := 125) hx hb dX5_finish_118 (by decide) (fun c15 => ?_) (fun c15 => ?_)
    · replace hf := hf.1 c15
      refine lv_iconst (v := 0) hx hb dX5_finish_125 (by decide) ?_
      exact j_X5_finish_126_3 C0 a K (mI, mA, mL) v1 0 H locs ls hP hD hS (lv_sub hl [0, 1, 3] rfl) hf
    · replace hf := hf.2 c15
      exact j_X5_finish_121_3 C0 a K (mI, mA, mL) v1 H locs ls hP hD hS (lv_sub hl [0, 1, 3] rfl) hf
set_option maxHeartbeats 4000000 in
set_option maxRecDepth 100000 in
theorem j_X5_finish_83_3 {p : Program} {l : Launch} {e : Env} {s : State} {m : MethodId} {args : Array Value} {below : List Frame} {meth : Method} {c : Code} {dC : Nat → ClassId} {dI : Nat → Nat → Nat} {y : Nat → ClassId} {A : Nat → Prop} (C0 : Cx p s m args meth c cX5_finish 4 none wsX5_finish RX5 A dC dI y) (a : Nat → Nat) (K : ModelS → Prop) : ∀ (S : ModelS) (v1 : Int32) (v2 : Int32) (H : Heap) (locs : List Loc) (ls : Array Slot), va_P (dC, dI) vwCl (mdW y a S) H → va_D A (mdW y a S) → va_S A s.heap H locs → lv_has ls 4 [(0, .ref (a 0)), (1, .int v1), (2, .int v2), (3, .int 3)] → wp_X5_finish_83_3 K S v1 v2 → W p l e ({ frames := 3, cells := 0, slots := 0, locals := 72 } : Room) s m args below meth c H locs 0 0 (MQ below (va_Qv K (BW dC dI A (fun u => mdW y a u)) A) args s 0 0 A) (F0 m 83 ls []) := by
  obtain ⟨hx, hb, hr, hml, hown, hts, hlocks, hA, hK⟩ := id C0
  have w9 := hts (Cond.fieldLink RX5 9 "SharedWireModel" "state" "[I") (List.mem_of_getElem? (i := 1) rfl)
  have hinX5 : ∀ w ∈ wsX50, w ∈ wsX5_finish := fun w h => List.mem_cons_of_mem _ (List.mem_append_right _ (h))
  intro S v1 v2 H locs ls hP hD hS hl hf
  obtain ⟨mI, mA, mL⟩ := S
  unfold wp_X5_finish_83_3 at hf
  refine lv_aload_n hx hb dX5_finish_83 rfl (lv_at hl 0 rfl) ?_
  refine va_get (D := (dC, dI)) (ci := 5) (v := .ref (a 3)) (C := RX5) (T := TX5) (N := 35) hx hb hts hinX5 hown hK.1 hP 0 rfl rfl 3 (by decide) w9 (fun _ h9 => h9) rfl dX5_finish_84 ?_
  refine lv_iload_n hx hb dX5_finish_87 rfl (lv_at hl 3 rfl) ?_
  refine ar_ild (f := (mA 3)) (j := 3) hx hb hK.1 hP 1 0 rfl rfl (clamp_lit 3 rfl) (vin_lit 3 4 rfl rfl) dX5_finish_88 ?_
  refine lv_iconst (v := 2) hx hb dX5_finish_89 (by decide) ?_
  refine lv_icmp_ne (tgt := 107) hx hb dX5_finish_90 (by decide) (fun c11 => ?_) (fun c11 => ?_)
  · replace hf := hf.1 c11
    exact j_X5_finish_107_3 C0 a K (mI, mA, mL) v1 v2 H locs ls hP hD hS (lv_sub hl [0, 1, 2, 3] rfl) hf
  · replace hf := hf.2 c11
    refine lv_iload_n hx hb dX5_finish_93 rfl (lv_at hl 1 rfl) ?_
    refine lv_iload_n hx hb dX5_finish_94 rfl (lv_at hl 3 rfl) ?_
    refine lv_ishr hx hb dX5_finish_95 ?_
    refine lv_iconst (v := 1) hx hb dX5_finish_96 (by decide) ?_
    refine lv_iand hx hb dX5_finish_97 ?_
    refine lv_iconst (v := 1) hx hb dX5_finish_98 (by decide) ?_
    refine lv_icmp_ne (tgt := 107) hx hb dX5_finish_99 (by decide) (fun c16 => ?_) (fun c16 => ?_)
    · replace hf := hf.1 c16
      exact j_X5_finish_107_3 C0 a K (mI, mA, mL) v1 v2 H locs ls hP hD hS (lv_sub hl [0, 1, 2, 3] rfl) hf
    · replace hf := hf.2 c16
      refine lv_aload_n hx hb dX5_finish_102 rfl (lv_at hl 0 rfl) ?_
      refine lv_iload_n hx hb dX5_finish_103 rfl (lv_at hl 3 rfl) ?_
      refine k0v (As := [.int 3]) (rest := []) ⟨hx, hb, hml, hown, hts⟩ (c_X5_keep l dC dI y a H.size (mI, mA, mL) 3 _ hf) (cwV 1 hts gX5_finish_X5_keep rfl rfl rfl (by decide +kernel) ⟨Nat.le_of_ble_eq_true rfl, Nat.le_of_ble_eq_true rfl⟩) hK hP hD (va_recv hK.1 hP (ci := 5) (q0 := 0) rfl rfl) hS hA rfl hl.1 rfl (Nat.le_of_ble_eq_true rfl) dX5_finish_104 ⟨Nat.zero_le _, Nat.zero_le _⟩ (fun u17 H locs hf hP hD hS => ?_)
      have hP : va_P (dC, dI) vwCl (mdW y a (u17.1, u17.2.1, u17.2.2)) H := hP
      have hD : va_D A (mdW y a (u17.1, u17.2.1, u17.2.2)) := hD
      exact j_X5_finish_107_3 C0 a K (u17.1, u17.2.1, u17.2.2) v1 v2 H locs ls hP hD hS (lv_sub hl [0, 1, 2, 3] rfl) hf
set_option maxHeartbeats 4000000 in
set_option maxRecDepth 100000 in
theorem j_X5_finish_75_3 {p : Program} {l : Launch} {e : Env} {s : State} {m : MethodId} {args : Array Value} {below : List Frame} {meth : Method} {c : Code} {dC : Nat → ClassId} {dI : Nat → Nat → Nat} {y : Nat → ClassId} {A : Nat → Prop} (C0 : Cx p s m args meth c cX5_finish 4 none wsX5_finish RX5 A dC dI y) (a : Nat → Nat) (K : ModelS → Prop) : ∀ (S : ModelS) (v1 : Int32) (v2 : Int32) (k0 : Int32) (k1 : Int32) (H : Heap) (locs : List Loc) (ls : Array Slot), va_P (dC, dI) vwCl (mdW y a S) H → va_D A (mdW y a S) → va_S A s.heap H locs → lv_has ls 4 [(0, .ref (a 0)), (1, .int v1), (2, .int v2), (3, .int 3)] → wp_X5_finish_75_3 K S v1 v2 k0 k1 → W p l e ({ frames := 3, cells := 0, slots := 0, locals := 72 } : Room) s m args below meth c H locs 0 0 (MQ below (va_Qv K (BW dC dI A (fun u => mdW y a u)) A) args s 0 0 A) (F0 m 75 ls [.int k0, .int k1, .ref (a 4)]) := by
  obtain ⟨hx, hb, hr, hml, hown, hts, hlocks, hA, hK⟩ := id C0
  have w9 := hts (Cond.fieldLink RX5 9 "SharedWireModel" "state" "[I") (List.mem_of_getElem? (i := 1) rfl)
  have hinX5 : ∀ w ∈ wsX50, w ∈ wsX5_finish := fun w h => List.mem_cons_of_mem _ (List.mem_append_right _ (h))
  intro S v1 v2 k0 k1 H locs ls hP hD hS hl hf
  obtain ⟨mI, mA, mL⟩ := S
  unfold wp_X5_finish_75_3 at hf
  have g21 := hf.1
  replace hf := hf.2
  refine mst_4 (f := (mA 4)) (x := k0) (j := k1.toNatClampNeg) hx hb hK.1 hP hD hS rfl rfl g21 dX5_finish_75 (fun H locs hP hD hS => ?_)
  refine lv_aload_n hx hb dX5_finish_76 rfl (lv_at hl 0 rfl) ?_
  refine va_get (D := (dC, dI)) (ci := 5) (v := .ref (a 3)) (C := RX5) (T := TX5) (N := 35) hx hb hts hinX5 hown hK.1 hP 0 rfl rfl 3 (by decide) w9 (fun _ h9 => h9) rfl dX5_finish_77 ?_
  refine lv_iload_n hx hb dX5_finish_80 rfl (lv_at hl 3 rfl) ?_
  refine lv_iconst (v := 1) hx hb dX5_finish_81 (by decide) ?_
  refine mst_3 (f := (mA 3)) (x := 1) (j := 3) hx hb hK.1 hP hD hS rfl (clamp_lit 3 rfl) (vin_lit 3 4 rfl rfl) dX5_finish_82 (fun H locs hP hD hS => ?_)
  exact j_X5_finish_83_3 C0 a K (mI, va_up (va_up mA 4 (upd (mA 4) k1.toNatClampNeg k0)) 3 (upd (mA 3) 3 1), mL) v1 v2 H locs ls hP hD hS (lv_sub hl [0, 1, 2, 3] rfl) hf
set_option maxHeartbeats 4000000 in
set_option maxRecDepth 100000 in
theorem j_X5_finish_4_3 {p : Program} {l : Launch} {e : Env} {s : State} {m : MethodId} {args : Array Value} {below : List Frame} {meth : Method} {c : Code} {dC : Nat → ClassId} {dI : Nat → Nat → Nat} {y : Nat → ClassId} {A : Nat → Prop} (C0 : Cx p s m args meth c cX5_finish 4 none wsX5_finish RX5 A dC dI y) (a : Nat → Nat) (K : ModelS → Prop) : ∀ (S : ModelS) (v1 : Int32) (v2 : Int32) (H : Heap) (locs : List Loc) (ls : Array Slot), va_P (dC, dI) vwCl (mdW y a S) H → va_D A (mdW y a S) → va_S A s.heap H locs → lv_has ls 4 [(0, .ref (a 0)), (1, .int v1), (2, .int v2), (3, .int 3)] → wp_X5_finish_4_3 K S v1 v2 → W p l e ({ frames := 3, cells := 0, slots := 0, locals := 72 } : Room) s m args below meth c H locs 0 0 (MQ below (va_Qv K (BW dC dI A (fun u => mdW y a u)) A) args s 0 0 A) (F0 m 4 ls []) := by
  obtain ⟨hx, hb, hr, hml, hown, hts, hlocks, hA, hK⟩ := id C0
  have w9 := hts (Cond.fieldLink RX5 9 "SharedWireModel" "state" "[I") (List.mem_of_getElem? (i := 1) rfl)
  have w13 := hts (Cond.fieldLink RX5 13 "SharedWireModel" "sending" "[I") (List.mem_of_getElem? (i := 5) rfl)
  have w19 := hts (Cond.fieldLink RX5 19 "SharedWireModel" "sent" "[I") (List.mem_of_getElem? (i := 4) rfl)
  have w63 := hts (Cond.fieldLink RX5 63 "SharedWireModel" "wireSize" "[I") (List.mem_of_getElem? (i := 3) rfl)
  have w66 := hts (Cond.fieldLink RX5 66 "SharedWireModel" "at" "[I") (List.mem_of_getElem? (i := 2) rfl)
  have hinX5 : ∀ w ∈ wsX50, w ∈ wsX5_finish := fun w h => List.mem_cons_of_mem _ (List.mem_append_right _ (h))
  intro S v1 v2 H locs ls hP hD hS hl hf
  obtain ⟨mI, mA, mL⟩ := S
  unfold wp_X5_finish_4_3 at hf
  refine lv_iload_n hx hb dX5_finish_4 rfl (lv_at hl 3 rfl) ?_
  refine lv_iconst (v := 4) hx hb dX5_finish_5 (by decide) ?_
  refine lv_icmp_ge (tgt := 133) hx hb dX5_finish_6 (by decide) (fun c9 => absurd c9 (by decide)) (fun _ => ?_)
  refine lv_aload_n hx hb dX5_finish_9 rfl (lv_at hl 0 rfl) ?_
  refine va_get (D := (dC, dI)) (ci := 5) (v := .ref (a 3)) (C := RX5) (T := TX5) (N := 35) hx hb hts hinX5 hown hK.1 hP 0 rfl rfl 3 (by decide) w9 (fun _ h9 => h9) rfl dX5_finish_10 ?_
  refine lv_iload_n hx hb dX5_finish_13 rfl (lv_at hl 3 rfl) ?_
  refine ar_ild (f := (mA 3)) (j := 3) hx hb hK.1 hP 1 0 rfl rfl (clamp_lit 3 rfl) (vin_lit 3 4 rfl rfl) dX5_finish_14 ?_
  refine lv_iconst (v := 3) hx hb dX5_finish_15 (by decide) ?_
  refine lv_icmp_ne (tgt := 83) hx hb dX5_finish_16 (by decide) (fun c10 => ?_) (fun c10 => ?_)
  · replace hf := hf.1 c10
    exact j_X5_finish_83_3 C0 a K (mI, mA, mL) v1 v2 H locs ls hP hD hS (lv_sub hl [0, 1, 2, 3] rfl) hf
  · replace hf := hf.2 c10
    refine lv_aload_n hx hb dX5_finish_19 rfl (lv_at hl 0 rfl) ?_
    refine va_get (D := (dC, dI)) (ci := 5) (v := .ref (a 21)) (C := RX5) (T := TX5) (N := 35) hx hb hts hinX5 hown hK.1 hP 0 rfl rfl 21 (by decide) w66 (fun _ h9 => h9) rfl dX5_finish_20 ?_
    refine lv_iload_n hx hb dX5_finish_23 rfl (lv_at hl 3 rfl) ?_
    refine ar_ild (f := (mA 21)) (j := 3) hx hb hK.1 hP 19 0 rfl rfl (clamp_lit 3 rfl) (vin_lit 3 4 rfl rfl) dX5_finish_24 ?_
    refine lv_aload_n hx hb dX5_finish_25 rfl (lv_at hl 0 rfl) ?_
    refine va_get (D := (dC, dI)) (ci := 5) (v := .ref (a 20)) (C := RX5) (T := TX5) (N := 35) hx hb hts hinX5 hown hK.1 hP 0 rfl rfl 20 (by decide) w63 (fun _ h9 => h9) rfl dX5_finish_26 ?_
    refine lv_iload_n hx hb dX5_finish_29 rfl (lv_at hl 3 rfl) ?_
    refine ar_ild (f := (mA 20)) (j := 3) hx hb hK.1 hP 18 0 rfl rfl (clamp_lit 3 rfl) (vin_lit 3 5 rfl rfl) dX5_finish_30 ?_
    refine lv_icmp_ne (tgt := 83) hx hb dX5_finish_31 (by decide) (fun c18 => ?_) (fun c18 => ?_)
    · replace hf := hf.1 c18
      exact j_X5_finish_83_3 C0 a K (mI, mA, mL) v1 v2 H locs ls hP hD hS (lv_sub hl [0, 1, 2, 3] rfl) hf
    · replace hf := hf.2 c18
      refine lv_aload_n hx hb dX5_finish_34 rfl (lv_at hl 0 rfl) ?_
      refine lv_iload_n hx hb dX5_finish_35 rfl (lv_at hl 3 rfl) ?_
      refine k0v (As := [.int 3]) (rest := []) ⟨hx, hb, hml, hown, hts⟩ (c_X5_forget l dC dI y a H.size (mI, mA, mL) 3 _ hf) (cwV 1 hts gX5_finish_X5_forget rfl rfl rfl (by decide +kernel) ⟨Nat.le_of_ble_eq_true rfl, Nat.le_of_ble_eq_true rfl⟩) hK hP hD (va_recv hK.1 hP (ci := 5) (q0 := 0) rfl rfl) hS hA rfl hl.1 rfl (Nat.le_of_ble_eq_true rfl) dX5_finish_36 ⟨Nat.zero_le _, Nat.zero_le _⟩ (fun u19 H locs hf hP hD hS => ?_)
      have hP : va_P (dC, dI) vwCl (mdW y a (u19.1, u19.2.1, u19.2.2)) H := hP
      have hD : va_D A (mdW y a (u19.1, u19.2.1, u19.2.2)) := hD
      refine lv_aload_n hx hb dX5_finish_39 rfl (lv_at hl 0 rfl) ?_
      refine va_get (D := (dC, dI)) (ci := 5) (v := .ref (a 6)) (C := RX5) (T := TX5) (N := 35) hx hb hts hinX5 hown hK.1 hP 0 rfl rfl 6 (by decide) w19 (fun _ h9 => h9) rfl dX5_finish_40 ?_
      refine lv_iload_n hx hb dX5_finish_43 rfl (lv_at hl 3 rfl) ?_
      refine lv_dup2_11 hx hb dX5_finish_44 rfl rfl ?_
      refine ar_ild (f := (u19.2.1 6)) (j := 3) hx hb hK.1 hP 4 0 rfl rfl (clamp_lit 3 rfl) (vin_lit 3 4 rfl rfl) dX5_finish_45 ?_
      refine lv_iconst (v := 1) hx hb dX5_finish_46 (by decide) ?_
      refine lv_iadd hx hb dX5_finish_47 ?_
      refine mst_6 (f := (u19.2.1 6)) (x := ((u19.2.1 6) 3) + 1) (j := 3) hx hb hK.1 hP hD hS rfl (clamp_lit 3 rfl) (vin_lit 3 4 rfl rfl) dX5_finish_48 (fun H locs hP hD hS => ?_)
      refine lv_aload_n hx hb dX5_finish_49 rfl (lv_at hl 0 rfl) ?_
      refine va_get (D := (dC, dI)) (ci := 5) (v := .ref (a 4)) (C := RX5) (T := TX5) (N := 35) hx hb hts hinX5 hown hK.1 hP 0 rfl rfl 4 (by decide) w13 (fun _ h9 => h9) rfl dX5_finish_50 ?_
      refine lv_iload_n hx hb dX5_finish_53 rfl (lv_at hl 3 rfl) ?_
      refine lv_aload_n hx hb dX5_finish_54 rfl (lv_at hl 0 rfl) ?_
      refine va_get (D := (dC, dI)) (ci := 5) (v := .ref (a 4)) (C := RX5) (T := TX5) (N := 35) hx hb hts hinX5 hown hK.1 hP 0 rfl rfl 4 (by decide) w13 (fun _ h9 => h9) rfl dX5_finish_55 ?_
      refine lv_iload_n hx hb dX5_finish_58 rfl (lv_at hl 3 rfl) ?_
      refine ar_ild (f := (u19.2.1 4)) (j := 3) hx hb hK.1 hP 2 0 rfl rfl (clamp_lit 3 rfl) (vin_lit 3 4 rfl rfl) dX5_finish_59 ?_
      refine lv_if_le (tgt := 74) hx hb dX5_finish_60 (by decide) (fun c20 => ?_) (fun c20 => ?_)
      · replace hf := hf.1 c20
        refine lv_iconst (v := 0) hx hb dX5_finish_74 (by decide) ?_
        exact j_X5_finish_75_3 C0 a K (u19.1, va_up u19.2.1 6 (upd (u19.2.1 6) 3 (((u19.2.1 6) 3) + 1)), u19.2.2) v1 v2 0 3 H locs ls hP hD hS (lv_sub hl [0, 1, 2, 3] rfl) hf
      · replace hf := hf.2 c20
        refine lv_aload_n hx hb dX5_finish_63 rfl (lv_at hl 0 rfl) ?_
        refine va_get (D := (dC, dI)) (ci := 5) (v := .ref (a 4)) (C := RX5) (T := TX5) (N := 35) hx hb hts hinX5 hown hK.1 hP 0 rfl rfl 4 (by decide) w13 (fun _ h9 => h9) rfl dX5_finish_64 ?_
        refine lv_iload_n hx hb dX5_finish_67 rfl (lv_at hl 3 rfl) ?_
        refine ar_ild (f := (u19.2.1 4)) (j := 3) hx hb hK.1 hP 2 0 rfl rfl (clamp_lit 3 rfl) (vin_lit 3 4 rfl rfl) dX5_finish_68 ?_
        refine lv_iconst (v := 1) hx hb dX5_finish_69 (by decide) ?_
        refine lv_isub hx hb dX5_finish_70 ?_
        refine lv_goto (tgt := 75) hx hb dX5_finish_71 (by decide) ?_
        exact j_X5_finish_75_3 C0 a K (u19.1, va_up u19.2.1 6 (upd (u19.2.1 6) 3 (((u19.2.1 6) 3) + 1)), u19.2.2) v1 v2 (((u19.2.1 4) 3) - 1) 3 H locs ls hP hD hS (lv_sub hl [0, 1, 2, 3] rfl) hf
set_option maxHeartbeats 4000000 in
set_option maxRecDepth 100000 in
theorem j_X5_finish_126_2 {p : Program} {l : Launch} {e : Env} {s : State} {m : MethodId} {args : Array Value} {below : List Frame} {meth : Method} {c : Code} {dC : Nat → ClassId} {dI : Nat → Nat → Nat} {y : Nat → ClassId} {A : Nat → Prop} (C0 : Cx p s m args meth c cX5_finish 4 none wsX5_finish RX5 A dC dI y) (a : Nat → Nat) (K : ModelS → Prop) : ∀ (S : ModelS) (v1 : Int32) (k0 : Int32) (H : Heap) (locs : List Loc) (ls : Array Slot), va_P (dC, dI) vwCl (mdW y a S) H → va_D A (mdW y a S) → va_S A s.heap H locs → lv_has ls 4 [(0, .ref (a 0)), (1, .int v1), (3, .int 2)] → wp_X5_finish_126_2 K S v1 k0 → W p l e ({ frames := 3, cells := 0, slots := 0, locals := 72 } : Room) s m args below meth c H locs 0 0 (MQ below (va_Qv K (BW dC dI A (fun u => mdW y a u)) A) args s 0 0 A) (F0 m 126 ls [.int k0]) := by
  obtain ⟨hx, hb, hr, hml, hown, hts, hlocks, hA, hK⟩ := id C0
  intro S v1 k0 H locs ls hP hD hS hl hf
  obtain ⟨mI, mA, mL⟩ := S
  unfold wp_X5_finish_126_2 at hf
  refine lv_istore_n (lv' := [(2, .int k0), (0, .ref (a 0)), (1, .int v1), (3, .int 2)]) hx hb dX5_finish_126 rfl hl (by decide) rfl (fun ls hl => ?_)
  refine lv_iinc (v := 3) (lv' := [(3, .int 3), (2, .int k0), (0, .ref (a 0)), (1, .int v1)]) hx hb dX5_finish_127 hl (k := 3) rfl (by decide) (by decide) rfl (fun ls hl => ?_)
  refine lv_goto (tgt := 4) hx hb dX5_finish_130 (by decide) ?_
  exact j_X5_finish_4_3 C0 a K (mI, mA, mL) v1 k0 H locs ls hP hD hS (lv_sub hl [2, 3, 1, 0] rfl) hf
set_option maxHeartbeats 4000000 in
set_option maxRecDepth 100000 in
theorem j_X5_finish_121_2 {p : Program} {l : Launch} {e : Env} {s : State} {m : MethodId} {args : Array Value} {below : List Frame} {meth : Method} {c : Code} {dC : Nat → ClassId} {dI : Nat → Nat → Nat} {y : Nat → ClassId} {A : Nat → Prop} (C0 : Cx p s m args meth c cX5_finish 4 none wsX5_finish RX5 A dC dI y) (a : Nat → Nat) (K : ModelS → Prop) : ∀ (S : ModelS) (v1 : Int32) (H : Heap) (locs : List Loc) (ls : Array Slot), va_P (dC, dI) vwCl (mdW y a S) H → va_D A (mdW y a S) → va_S A s.heap H locs → lv_has ls 4 [(0, .ref (a 0)), (1, .int v1), (3, .int 2)] → wp_X5_finish_121_2 K S v1 → W p l e ({ frames := 3, cells := 0, slots := 0, locals := 72 } : Room) s m args below meth c H locs 0 0 (MQ below (va_Qv K (BW dC dI A (fun u => mdW y a u)) A) args s 0 0 A) (F0 m 121 ls []) := by
  obtain ⟨hx, hb, hr, hml, hown, hts, hlocks, hA, hK⟩ := id C0
  intro S v1 H locs ls hP hD hS hl hf
  obtain ⟨mI, mA, mL⟩ := S
  unfold wp_X5_finish_121_2 at hf
  refine lv_iconst (v := 1) hx hb dX5_finish_121 (by decide) ?_
  refine lv_goto (tgt := 126) hx hb dX5_finish_122 (by decide) ?_
  exact j_X5_finish_126_2 C0 a K (mI, mA, mL) v1 1 H locs ls hP hD hS (lv_sub hl [0, 1, 2] rfl) hf
set_option maxHeartbeats 4000000 in
set_option maxRecDepth 100000 in
theorem j_X5_finish_107_2 {p : Program} {l : Launch} {e : Env} {s : State} {m : MethodId} {args : Array Value} {below : List Frame} {meth : Method} {c : Code} {dC : Nat → ClassId} {dI : Nat → Nat → Nat} {y : Nat → ClassId} {A : Nat → Prop} (C0 : Cx p s m args meth c cX5_finish 4 none wsX5_finish RX5 A dC dI y) (a : Nat → Nat) (K : ModelS → Prop) : ∀ (S : ModelS) (v1 : Int32) (v2 : Int32) (H : Heap) (locs : List Loc) (ls : Array Slot), va_P (dC, dI) vwCl (mdW y a S) H → va_D A (mdW y a S) → va_S A s.heap H locs → lv_has ls 4 [(0, .ref (a 0)), (1, .int v1), (2, .int v2), (3, .int 2)] → wp_X5_finish_107_2 K S v1 v2 → W p l e ({ frames := 3, cells := 0, slots := 0, locals := 72 } : Room) s m args below meth c H locs 0 0 (MQ below (va_Qv K (BW dC dI A (fun u => mdW y a u)) A) args s 0 0 A) (F0 m 107 ls []) := by
  obtain ⟨hx, hb, hr, hml, hown, hts, hlocks, hA, hK⟩ := id C0
  have w9 := hts (Cond.fieldLink RX5 9 "SharedWireModel" "state" "[I") (List.mem_of_getElem? (i := 1) rfl)
  have hinX5 : ∀ w ∈ wsX50, w ∈ wsX5_finish := fun w h => List.mem_cons_of_mem _ (List.mem_append_right _ (h))
  intro S v1 v2 H locs ls hP hD hS hl hf
  obtain ⟨mI, mA, mL⟩ := S
  unfold wp_X5_finish_107_2 at hf
  refine lv_iload_n hx hb dX5_finish_107 rfl (lv_at hl 2 rfl) ?_
  refine lv_if_ne (tgt := 121) hx hb dX5_finish_108 (by decide) (fun c9 => ?_) (fun c9 => ?_)
  · replace hf := hf.1 c9
    exact j_X5_finish_121_2 C0 a K (mI, mA, mL) v1 H locs ls hP hD hS (lv_sub hl [0, 1, 3] rfl) hf
  · replace hf := hf.2 c9
    refine lv_aload_n hx hb dX5_finish_111 rfl (lv_at hl 0 rfl) ?_
    refine va_get (D := (dC, dI)) (ci := 5) (v := .ref (a 3)) (C := RX5) (T := TX5) (N := 35) hx hb hts hinX5 hown hK.1 hP 0 rfl rfl 3 (by decide) w9 (fun _ h9 => h9) rfl dX5_finish_112 ?_
    refine lv_iload_n hx hb dX5_finish_115 rfl (lv_at hl 3 rfl) ?_
    refine ar_ild (f := (mA 3)) (j := 2) hx hb hK.1 hP 1 0 rfl rfl (clamp_lit 2 rfl) (vin_lit 2 4 rfl rfl) dX5_finish_116 ?_
    refine lv_iconst (v := 1) hx hb dX5_finish_117 (by decide) ?_
    refine lv_icmp_le (tgt := 125) hx hb dX5_finish_118 (by decide) (fun c22 => ?_) (fun c22 => ?_)
    · replace hf := hf.1 c22
      refine lv_iconst (v := 0) hx hb dX5_finish_125 (by decide) ?_
      exact j_X5_finish_126_2 C0 a K (mI, mA, mL) v1 0 H locs ls hP hD hS (lv_sub hl [0, 1, 3] rfl) hf
    · replace hf := hf.2 c22
      exact j_X5_finish_121_2 C0 a K (mI, mA, mL) v1 H locs ls hP hD hS (lv_sub hl [0, 1, 3] rfl) hf
set_option maxHeartbeats 4000000 in
set_option maxRecDepth 100000 in
theorem j_X5_finish_83_2 {p : Program} {l : Launch} {e : Env} {s : State} {m : MethodId} {args : Array Value} {below : List Frame} {meth : Method} {c : Code} {dC : Nat → ClassId} {dI : Nat → Nat → Nat} {y : Nat → ClassId} {A : Nat → Prop} (C0 : Cx p s m args meth c cX5_finish 4 none wsX5_finish RX5 A dC dI y) (a : Nat → Nat) (K : ModelS → Prop) : ∀ (S : ModelS) (v1 : Int32) (v2 : Int32) (H : Heap) (locs : List Loc) (ls : Array Slot), va_P (dC, dI) vwCl (mdW y a S) H → va_D A (mdW y a S) → va_S A s.heap H locs → lv_has ls 4 [(0, .ref (a 0)), (1, .int v1), (2, .int v2), (3, .int 2)] → wp_X5_finish_83_2 K S v1 v2 → W p l e ({ frames := 3, cells := 0, slots := 0, locals := 72 } : Room) s m args below meth c H locs 0 0 (MQ below (va_Qv K (BW dC dI A (fun u => mdW y a u)) A) args s 0 0 A) (F0 m 83 ls []) := by
  obtain ⟨hx, hb, hr, hml, hown, hts, hlocks, hA, hK⟩ := id C0
  have w9 := hts (Cond.fieldLink RX5 9 "SharedWireModel" "state" "[I") (List.mem_of_getElem? (i := 1) rfl)
  have hinX5 : ∀ w ∈ wsX50, w ∈ wsX5_finish := fun w h => List.mem_cons_of_mem _ (List.mem_append_right _ (h))
  intro S v1 v2 H locs ls hP hD hS hl hf
  obtain ⟨mI, mA, mL⟩ := S
  unfold wp_X5_finish_83_2 at hf
  refine lv_aload_n hx hb dX5_finish_83 rfl (lv_at hl 0 rfl) ?_
  refine va_get (D := (dC, dI)) (ci := 5) (v := .ref (a 3)) (C := RX5) (T := TX5) (N := 35) hx hb hts hinX5 hown hK.1 hP 0 rfl rfl 3 (by decide) w9 (fun _ h9 => h9) rfl dX5_finish_84 ?_
  refine lv_iload_n hx hb dX5_finish_87 rfl (lv_at hl 3 rfl) ?_
  refine ar_ild (f := (mA 3)) (j := 2) hx hb hK.1 hP 1 0 rfl rfl (clamp_lit 2 rfl) (vin_lit 2 4 rfl rfl) dX5_finish_88 ?_
  refine lv_iconst (v := 2) hx hb dX5_finish_89 (by decide) ?_
  refine lv_icmp_ne (tgt := 107) hx hb dX5_finish_90 (by decide) (fun c8 => ?_) (fun c8 => ?_)
  · replace hf := hf.1 c8
    exact j_X5_finish_107_2 C0 a K (mI, mA, mL) v1 v2 H locs ls hP hD hS (lv_sub hl [0, 1, 2, 3] rfl) hf
  · replace hf := hf.2 c8
    refine lv_iload_n hx hb dX5_finish_93 rfl (lv_at hl 1 rfl) ?_
    refine lv_iload_n hx hb dX5_finish_94 rfl (lv_at hl 3 rfl) ?_
    refine lv_ishr hx hb dX5_finish_95 ?_
    refine lv_iconst (v := 1) hx hb dX5_finish_96 (by decide) ?_
    refine lv_iand hx hb dX5_finish_97 ?_
    refine lv_iconst (v := 1) hx hb dX5_finish_98 (by decide) ?_
    refine lv_icmp_ne (tgt := 107) hx hb dX5_finish_99 (by decide) (fun c23 => ?_) (fun c23 => ?_)
    · replace hf := hf.1 c23
      exact j_X5_finish_107_2 C0 a K (mI, mA, mL) v1 v2 H locs ls hP hD hS (lv_sub hl [0, 1, 2, 3] rfl) hf
    · replace hf := hf.2 c23
      refine lv_aload_n hx hb dX5_finish_102 rfl (lv_at hl 0 rfl) ?_
      refine lv_iload_n hx hb dX5_finish_103 rfl (lv_at hl 3 rfl) ?_
      refine k0v (As := [.int 2]) (rest := []) ⟨hx, hb, hml, hown, hts⟩ (c_X5_keep l dC dI y a H.size (mI, mA, mL) 2 _ hf) (cwV 1 hts gX5_finish_X5_keep rfl rfl rfl (by decide +kernel) ⟨Nat.le_of_ble_eq_true rfl, Nat.le_of_ble_eq_true rfl⟩) hK hP hD (va_recv hK.1 hP (ci := 5) (q0 := 0) rfl rfl) hS hA rfl hl.1 rfl (Nat.le_of_ble_eq_true rfl) dX5_finish_104 ⟨Nat.zero_le _, Nat.zero_le _⟩ (fun u24 H locs hf hP hD hS => ?_)
      have hP : va_P (dC, dI) vwCl (mdW y a (u24.1, u24.2.1, u24.2.2)) H := hP
      have hD : va_D A (mdW y a (u24.1, u24.2.1, u24.2.2)) := hD
      exact j_X5_finish_107_2 C0 a K (u24.1, u24.2.1, u24.2.2) v1 v2 H locs ls hP hD hS (lv_sub hl [0, 1, 2, 3] rfl) hf
set_option maxHeartbeats 4000000 in
set_option maxRecDepth 100000 in
theorem j_X5_finish_75_2 {p : Program} {l : Launch} {e : Env} {s : State} {m : MethodId} {args : Array Value} {below : List Frame} {meth : Method} {c : Code} {dC : Nat → ClassId} {dI : Nat → Nat → Nat} {y : Nat → ClassId} {A : Nat → Prop} (C0 : Cx p s m args meth c cX5_finish 4 none wsX5_finish RX5 A dC dI y) (a : Nat → Nat) (K : ModelS → Prop) : ∀ (S : ModelS) (v1 : Int32) (v2 : Int32) (k0 : Int32) (k1 : Int32) (H : Heap) (locs : List Loc) (ls : Array Slot), va_P (dC, dI) vwCl (mdW y a S) H → va_D A (mdW y a S) → va_S A s.heap H locs → lv_has ls 4 [(0, .ref (a 0)), (1, .int v1), (2, .int v2), (3, .int 2)] → wp_X5_finish_75_2 K S v1 v2 k0 k1 → W p l e ({ frames := 3, cells := 0, slots := 0, locals := 72 } : Room) s m args below meth c H locs 0 0 (MQ below (va_Qv K (BW dC dI A (fun u => mdW y a u)) A) args s 0 0 A) (F0 m 75 ls [.int k0, .int k1, .ref (a 4)]) := by
  obtain ⟨hx, hb, hr, hml, hown, hts, hlocks, hA, hK⟩ := id C0
  have w9 := hts (Cond.fieldLink RX5 9 "SharedWireModel" "state" "[I") (List.mem_of_getElem? (i := 1) rfl)
  have hinX5 : ∀ w ∈ wsX50, w ∈ wsX5_finish := fun w h => List.mem_cons_of_mem _ (List.mem_append_right _ (h))
  intro S v1 v2 k0 k1 H locs ls hP hD hS hl hf
  obtain ⟨mI, mA, mL⟩ := S
  unfold wp_X5_finish_75_2 at hf
  have g28 := hf.1
  replace hf := hf.2
  refine mst_4 (f := (mA 4)) (x := k0) (j := k1.toNatClampNeg) hx hb hK.1 hP hD hS rfl rfl g28 dX5_finish_75 (fun H locs hP hD hS => ?_)
  refine lv_aload_n hx hb dX5_finish_76 rfl (lv_at hl 0 rfl) ?_
  refine va_get (D := (dC, dI)) (ci := 5) (v := .ref (a 3)) (C := RX5) (T := TX5) (N := 35) hx hb hts hinX5 hown hK.1 hP 0 rfl rfl 3 (by decide) w9 (fun _ h9 => h9) rfl dX5_finish_77 ?_
  refine lv_iload_n hx hb dX5_finish_80 rfl (lv_at hl 3 rfl) ?_
  refine lv_iconst (v := 1) hx hb dX5_finish_81 (by decide) ?_
  refine mst_3 (f := (mA 3)) (x := 1) (j := 2) hx hb hK.1 hP hD hS rfl (clamp_lit 2 rfl) (vin_lit 2 4 rfl rfl) dX5_finish_82 (fun H locs hP hD hS => ?_)
  exact j_X5_finish_83_2 C0 a K (mI, va_up (va_up mA 4 (upd (mA 4) k1.toNatClampNeg k0)) 3 (upd (mA 3) 2 1), mL) v1 v2 H locs ls hP hD hS (lv_sub hl [0, 1, 2, 3] rfl) hf
set_option maxHeartbeats 4000000 in
set_option maxRecDepth 100000 in
theorem j_X5_finish_4_2 {p : Program} {l : Launch} {e : Env} {s : State} {m : MethodId} {args : Array Value} {below : List Frame} {meth : Method} {c : Code} {dC : Nat → ClassId} {dI : Nat → Nat → Nat} {y : Nat → ClassId} {A : Nat → Prop} (C0 : Cx p s m args meth c cX5_finish 4 none wsX5_finish RX5 A dC dI y) (a : Nat → Nat) (K : ModelS → Prop) : ∀ (S : ModelS) (v1 : Int32) (v2 : Int32) (H : Heap) (locs : List Loc) (ls : Array Slot), va_P (dC, dI) vwCl (mdW y a S) H → va_D A (mdW y a S) → va_S A s.heap H locs → lv_has ls 4 [(0, .ref (a 0)), (1, .int v1), (2, .int v2), (3, .int 2)] → wp_X5_finish_4_2 K S v1 v2 → W p l e ({ frames := 3, cells := 0, slots := 0, locals := 72 } : Room) s m args below meth c H locs 0 0 (MQ below (va_Qv K (BW dC dI A (fun u => mdW y a u)) A) args s 0 0 A) (F0 m 4 ls []) := by
  obtain ⟨hx, hb, hr, hml, hown, hts, hlocks, hA, hK⟩ := id C0
  have w9 := hts (Cond.fieldLink RX5 9 "SharedWireModel" "state" "[I") (List.mem_of_getElem? (i := 1) rfl)
  have w13 := hts (Cond.fieldLink RX5 13 "SharedWireModel" "sending" "[I") (List.mem_of_getElem? (i := 5) rfl)
  have w19 := hts (Cond.fieldLink RX5 19 "SharedWireModel" "sent" "[I") (List.mem_of_getElem? (i := 4) rfl)
  have w63 := hts (Cond.fieldLink RX5 63 "SharedWireModel" "wireSize" "[I") (List.mem_of_getElem? (i := 3) rfl)
  have w66 := hts (Cond.fieldLink RX5 66 "SharedWireModel" "at" "[I") (List.mem_of_getElem? (i := 2) rfl)
  have hinX5 : ∀ w ∈ wsX50, w ∈ wsX5_finish := fun w h => List.mem_cons_of_mem _ (List.mem_append_right _ (h))
  intro S v1 v2 H locs ls hP hD hS hl hf
  obtain ⟨mI, mA, mL⟩ := S
  unfold wp_X5_finish_4_2 at hf
  refine lv_iload_n hx hb dX5_finish_4 rfl (lv_at hl 3 rfl) ?_
  refine lv_iconst (v := 4) hx hb dX5_finish_5 (by decide) ?_
  refine lv_icmp_ge (tgt := 133) hx hb dX5_finish_6 (by decide) (fun c9 => absurd c9 (by decide)) (fun _ => ?_)
  refine lv_aload_n hx hb dX5_finish_9 rfl (lv_at hl 0 rfl) ?_
  refine va_get (D := (dC, dI)) (ci := 5) (v := .ref (a 3)) (C := RX5) (T := TX5) (N := 35) hx hb hts hinX5 hown hK.1 hP 0 rfl rfl 3 (by decide) w9 (fun _ h9 => h9) rfl dX5_finish_10 ?_
  refine lv_iload_n hx hb dX5_finish_13 rfl (lv_at hl 3 rfl) ?_
  refine ar_ild (f := (mA 3)) (j := 2) hx hb hK.1 hP 1 0 rfl rfl (clamp_lit 2 rfl) (vin_lit 2 4 rfl rfl) dX5_finish_14 ?_
  refine lv_iconst (v := 3) hx hb dX5_finish_15 (by decide) ?_
  refine lv_icmp_ne (tgt := 83) hx hb dX5_finish_16 (by decide) (fun c7 => ?_) (fun c7 => ?_)
  · replace hf := hf.1 c7
    exact j_X5_finish_83_2 C0 a K (mI, mA, mL) v1 v2 H locs ls hP hD hS (lv_sub hl [0, 1, 2, 3] rfl) hf
  · replace hf := hf.2 c7
    refine lv_aload_n hx hb dX5_finish_19 rfl (lv_at hl 0 rfl) ?_
    refine va_get (D := (dC, dI)) (ci := 5) (v := .ref (a 21)) (C := RX5) (T := TX5) (N := 35) hx hb hts hinX5 hown hK.1 hP 0 rfl rfl 21 (by decide) w66 (fun _ h9 => h9) rfl dX5_finish_20 ?_
    refine lv_iload_n hx hb dX5_finish_23 rfl (lv_at hl 3 rfl) ?_
    refine ar_ild (f := (mA 21)) (j := 2) hx hb hK.1 hP 19 0 rfl rfl (clamp_lit 2 rfl) (vin_lit 2 4 rfl rfl) dX5_finish_24 ?_
    refine lv_aload_n hx hb dX5_finish_25 rfl (lv_at hl 0 rfl) ?_
    refine va_get (D := (dC, dI)) (ci := 5) (v := .ref (a 20)) (C := RX5) (T := TX5) (N := 35) hx hb hts hinX5 hown hK.1 hP 0 rfl rfl 20 (by decide) w63 (fun _ h9 => h9) rfl dX5_finish_26 ?_
    refine lv_iload_n hx hb dX5_finish_29 rfl (lv_at hl 3 rfl) ?_
    refine ar_ild (f := (mA 20)) (j := 2) hx hb hK.1 hP 18 0 rfl rfl (clamp_lit 2 rfl) (vin_lit 2 5 rfl rfl) dX5_finish_30 ?_
    refine lv_icmp_ne (tgt := 83) hx hb dX5_finish_31 (by decide) (fun c25 => ?_) (fun c25 => ?_)
    · replace hf := hf.1 c25
      exact j_X5_finish_83_2 C0 a K (mI, mA, mL) v1 v2 H locs ls hP hD hS (lv_sub hl [0, 1, 2, 3] rfl) hf
    · replace hf := hf.2 c25
      refine lv_aload_n hx hb dX5_finish_34 rfl (lv_at hl 0 rfl) ?_
      refine lv_iload_n hx hb dX5_finish_35 rfl (lv_at hl 3 rfl) ?_
      refine k0v (As := [.int 2]) (rest := []) ⟨hx, hb, hml, hown, hts⟩ (c_X5_forget l dC dI y a H.size (mI, mA, mL) 2 _ hf) (cwV 1 hts gX5_finish_X5_forget rfl rfl rfl (by decide +kernel) ⟨Nat.le_of_ble_eq_true rfl, Nat.le_of_ble_eq_true rfl⟩) hK hP hD (va_recv hK.1 hP (ci := 5) (q0 := 0) rfl rfl) hS hA rfl hl.1 rfl (Nat.le_of_ble_eq_true rfl) dX5_finish_36 ⟨Nat.zero_le _, Nat.zero_le _⟩ (fun u26 H locs hf hP hD hS => ?_)
      have hP : va_P (dC, dI) vwCl (mdW y a (u26.1, u26.2.1, u26.2.2)) H := hP
      have hD : va_D A (mdW y a (u26.1, u26.2.1, u26.2.2)) := hD
      refine lv_aload_n hx hb dX5_finish_39 rfl (lv_at hl 0 rfl) ?_
      refine va_get (D := (dC, dI)) (ci := 5) (v := .ref (a 6)) (C := RX5) (T := TX5) (N := 35) hx hb hts hinX5 hown hK.1 hP 0 rfl rfl 6 (by decide) w19 (fun _ h9 => h9) rfl dX5_finish_40 ?_
      refine lv_iload_n hx hb dX5_finish_43 rfl (lv_at hl 3 rfl) ?_
      refine lv_dup2_11 hx hb dX5_finish_44 rfl rfl ?_
      refine ar_ild (f := (u26.2.1 6)) (j := 2) hx hb hK.1 hP 4 0 rfl rfl (clamp_lit 2 rfl) (vin_lit 2 4 rfl rfl) dX5_finish_45 ?_
      refine lv_iconst (v := 1) hx hb dX5_finish_46 (by decide) ?_
      refine lv_iadd hx hb dX5_finish_47 ?_
      refine mst_6 (f := (u26.2.1 6)) (x := ((u26.2.1 6) 2) + 1) (j := 2) hx hb hK.1 hP hD hS rfl (clamp_lit 2 rfl) (vin_lit 2 4 rfl rfl) dX5_finish_48 (fun H locs hP hD hS => ?_)
      refine lv_aload_n hx hb dX5_finish_49 rfl (lv_at hl 0 rfl) ?_
      refine va_get (D := (dC, dI)) (ci := 5) (v := .ref (a 4)) (C := RX5) (T := TX5) (N := 35) hx hb hts hinX5 hown hK.1 hP 0 rfl rfl 4 (by decide) w13 (fun _ h9 => h9) rfl dX5_finish_50 ?_
      refine lv_iload_n hx hb dX5_finish_53 rfl (lv_at hl 3 rfl) ?_
      refine lv_aload_n hx hb dX5_finish_54 rfl (lv_at hl 0 rfl) ?_
      refine va_get (D := (dC, dI)) (ci := 5) (v := .ref (a 4)) (C := RX5) (T := TX5) (N := 35) hx hb hts hinX5 hown hK.1 hP 0 rfl rfl 4 (by decide) w13 (fun _ h9 => h9) rfl dX5_finish_55 ?_
      refine lv_iload_n hx hb dX5_finish_58 rfl (lv_at hl 3 rfl) ?_
      refine ar_ild (f := (u26.2.1 4)) (j := 2) hx hb hK.1 hP 2 0 rfl rfl (clamp_lit 2 rfl) (vin_lit 2 4 rfl rfl) dX5_finish_59 ?_
      refine lv_if_le (tgt := 74) hx hb dX5_finish_60 (by decide) (fun c27 => ?_) (fun c27 => ?_)
      · replace hf := hf.1 c27
        refine lv_iconst (v := 0) hx hb dX5_finish_74 (by decide) ?_
        exact j_X5_finish_75_2 C0 a K (u26.1, va_up u26.2.1 6 (upd (u26.2.1 6) 2 (((u26.2.1 6) 2) + 1)), u26.2.2) v1 v2 0 2 H locs ls hP hD hS (lv_sub hl [0, 1, 2, 3] rfl) hf
      · replace hf := hf.2 c27
        refine lv_aload_n hx hb dX5_finish_63 rfl (lv_at hl 0 rfl) ?_
        refine va_get (D := (dC, dI)) (ci := 5) (v := .ref (a 4)) (C := RX5) (T := TX5) (N := 35) hx hb hts hinX5 hown hK.1 hP 0 rfl rfl 4 (by decide) w13 (fun _ h9 => h9) rfl dX5_finish_64 ?_
        refine lv_iload_n hx hb dX5_finish_67 rfl (lv_at hl 3 rfl) ?_
        refine ar_ild (f := (u26.2.1 4)) (j := 2) hx hb hK.1 hP 2 0 rfl rfl (clamp_lit 2 rfl) (vin_lit 2 4 rfl rfl) dX5_finish_68 ?_
        refine lv_iconst (v := 1) hx hb dX5_finish_69 (by decide) ?_
        refine lv_isub hx hb dX5_finish_70 ?_
        refine lv_goto (tgt := 75) hx hb dX5_finish_71 (by decide) ?_
        exact j_X5_finish_75_2 C0 a K (u26.1, va_up u26.2.1 6 (upd (u26.2.1 6) 2 (((u26.2.1 6) 2) + 1)), u26.2.2) v1 v2 (((u26.2.1 4) 2) - 1) 2 H locs ls hP hD hS (lv_sub hl [0, 1, 2, 3] rfl) hf
set_option maxHeartbeats 4000000 in
set_option maxRecDepth 100000 in
theorem j_X5_finish_126_1 {p : Program} {l : Launch} {e : Env} {s : State} {m : MethodId} {args : Array Value} {below : List Frame} {meth : Method} {c : Code} {dC : Nat → ClassId} {dI : Nat → Nat → Nat} {y : Nat → ClassId} {A : Nat → Prop} (C0 : Cx p s m args meth c cX5_finish 4 none wsX5_finish RX5 A dC dI y) (a : Nat → Nat) (K : ModelS → Prop) : ∀ (S : ModelS) (v1 : Int32) (k0 : Int32) (H : Heap) (locs : List Loc) (ls : Array Slot), va_P (dC, dI) vwCl (mdW y a S) H → va_D A (mdW y a S) → va_S A s.heap H locs → lv_has ls 4 [(0, .ref (a 0)), (1, .int v1), (3, .int 1)] → wp_X5_finish_126_1 K S v1 k0 → W p l e ({ frames := 3, cells := 0, slots := 0, locals := 72 } : Room) s m args below meth c H locs 0 0 (MQ below (va_Qv K (BW dC dI A (fun u => mdW y a u)) A) args s 0 0 A) (F0 m 126 ls [.int k0]) := by
  obtain ⟨hx, hb, hr, hml, hown, hts, hlocks, hA, hK⟩ := id C0
  intro S v1 k0 H locs ls hP hD hS hl hf
  obtain ⟨mI, mA, mL⟩ := S
  unfold wp_X5_finish_126_1 at hf
  refine lv_istore_n (lv' := [(2, .int k0), (0, .ref (a 0)), (1, .int v1), (3, .int 1)]) hx hb dX5_finish_126 rfl hl (by decide) rfl (fun ls hl => ?_)
  refine lv_iinc (v := 2) (lv' := [(3, .int 2), (2, .int k0), (0, .ref (a 0)), (1, .int v1)]) hx hb dX5_finish_127 hl (k := 3) rfl (by decide) (by decide) rfl (fun ls hl => ?_)
  refine lv_goto (tgt := 4) hx hb dX5_finish_130 (by decide) ?_
  exact j_X5_finish_4_2 C0 a K (mI, mA, mL) v1 k0 H locs ls hP hD hS (lv_sub hl [2, 3, 1, 0] rfl) hf
set_option maxHeartbeats 4000000 in
set_option maxRecDepth 100000 in
theorem j_X5_finish_121_1 {p : Program} {l : Launch} {e : Env} {s : State} {m : MethodId} {args : Array Value} {below : List Frame} {meth : Method} {c : Code} {dC : Nat → ClassId} {dI : Nat → Nat → Nat} {y : Nat → ClassId} {A : Nat → Prop} (C0 : Cx p s m args meth c cX5_finish 4 none wsX5_finish RX5 A dC dI y) (a : Nat → Nat) (K : ModelS → Prop) : ∀ (S : ModelS) (v1 : Int32) (H : Heap) (locs : List Loc) (ls : Array Slot), va_P (dC, dI) vwCl (mdW y a S) H → va_D A (mdW y a S) → va_S A s.heap H locs → lv_has ls 4 [(0, .ref (a 0)), (1, .int v1), (3, .int 1)] → wp_X5_finish_121_1 K S v1 → W p l e ({ frames := 3, cells := 0, slots := 0, locals := 72 } : Room) s m args below meth c H locs 0 0 (MQ below (va_Qv K (BW dC dI A (fun u => mdW y a u)) A) args s 0 0 A) (F0 m 121 ls []) := by
  obtain ⟨hx, hb, hr, hml, hown, hts, hlocks, hA, hK⟩ := id C0
  intro S v1 H locs ls hP hD hS hl hf
  obtain ⟨mI, mA, mL⟩ := S
  unfold wp_X5_finish_121_1 at hf
  refine lv_iconst (v := 1) hx hb dX5_finish_121 (by decide) ?_
  refine lv_goto (tgt := 126) hx hb dX5_finish_122 (by decide) ?_
  exact j_X5_finish_126_1 C0 a K (mI, mA, mL) v1 1 H locs ls hP hD hS (lv_sub hl [0, 1, 2] rfl) hf
set_option maxHeartbeats 4000000 in
set_option maxRecDepth 100000 in
theorem j_X5_finish_107_1 {p : Program} {l : Launch} {e : Env} {s : State} {m : MethodId} {args : Array Value} {below : List Frame} {meth : Method} {c : Code} {dC : Nat → ClassId} {dI : Nat → Nat → Nat} {y : Nat → ClassId} {A : Nat → Prop} (C0 : Cx p s m args meth c cX5_finish 4 none wsX5_finish RX5 A dC dI y) (a : Nat → Nat) (K : ModelS → Prop) : ∀ (S : ModelS) (v1 : Int32) (v2 : Int32) (H : Heap) (locs : List Loc) (ls : Array Slot), va_P (dC, dI) vwCl (mdW y a S) H → va_D A (mdW y a S) → va_S A s.heap H locs → lv_has ls 4 [(0, .ref (a 0)), (1, .int v1), (2, .int v2), (3, .int 1)] → wp_X5_finish_107_1 K S v1 v2 → W p l e ({ frames := 3, cells := 0, slots := 0, locals := 72 } : Room) s m args below meth c H locs 0 0 (MQ below (va_Qv K (BW dC dI A (fun u => mdW y a u)) A) args s 0 0 A) (F0 m 107 ls []) := by
  obtain ⟨hx, hb, hr, hml, hown, hts, hlocks, hA, hK⟩ := id C0
  have w9 := hts (Cond.fieldLink RX5 9 "SharedWireModel" "state" "[I") (List.mem_of_getElem? (i := 1) rfl)
  have hinX5 : ∀ w ∈ wsX50, w ∈ wsX5_finish := fun w h => List.mem_cons_of_mem _ (List.mem_append_right _ (h))
  intro S v1 v2 H locs ls hP hD hS hl hf
  obtain ⟨mI, mA, mL⟩ := S
  unfold wp_X5_finish_107_1 at hf
  refine lv_iload_n hx hb dX5_finish_107 rfl (lv_at hl 2 rfl) ?_
  refine lv_if_ne (tgt := 121) hx hb dX5_finish_108 (by decide) (fun c6 => ?_) (fun c6 => ?_)
  · replace hf := hf.1 c6
    exact j_X5_finish_121_1 C0 a K (mI, mA, mL) v1 H locs ls hP hD hS (lv_sub hl [0, 1, 3] rfl) hf
  · replace hf := hf.2 c6
    refine lv_aload_n hx hb dX5_finish_111 rfl (lv_at hl 0 rfl) ?_
    refine va_get (D := (dC, dI)) (ci := 5) (v := .ref (a 3)) (C := RX5) (T := TX5) (N := 35) hx hb hts hinX5 hown hK.1 hP 0 rfl rfl 3 (by decide) w9 (fun _ h9 => h9) rfl dX5_finish_112 ?_
    refine lv_iload_n hx hb dX5_finish_115 rfl (lv_at hl 3 rfl) ?_
    refine ar_ild (f := (mA 3)) (j := 1) hx hb hK.1 hP 1 0 rfl rfl (clamp_lit 1 rfl) (vin_lit 1 4 rfl rfl) dX5_finish_116 ?_
    refine lv_iconst (v := 1) hx hb dX5_finish_117 (by decide) ?_
    refine lv_icmp_le (tgt := 125) hx hb dX5_finish_118 (by decide) (fun c29 => ?_) (fun c29 => ?_)
    · replace hf := hf.1 c29
      refine lv_iconst (v := 0) hx hb dX5_finish_125 (by decide) ?_
      exact j_X5_finish_126_1 C0 a K (mI, mA, mL) v1 0 H locs ls hP hD hS (lv_sub hl [0, 1, 3] rfl) hf
    · replace hf := hf.2 c29
      exact j_X5_finish_121_1 C0 a K (mI, mA, mL) v1 H locs ls hP hD hS (lv_sub hl [0, 1, 3] rfl) hf
set_option maxHeartbeats 4000000 in
set_option maxRecDepth 100000 in
theorem j_X5_finish_83_1 {p : Program} {l : Launch} {e : Env} {s : State} {m : MethodId} {args : Array Value} {below : List Frame} {meth : Method} {c : Code} {dC : Nat → ClassId} {dI : Nat → Nat → Nat} {y : Nat → ClassId} {A : Nat → Prop} (C0 : Cx p s m args meth c cX5_finish 4 none wsX5_finish RX5 A dC dI y) (a : Nat → Nat) (K : ModelS → Prop) : ∀ (S : ModelS) (v1 : Int32) (v2 : Int32) (H : Heap) (locs : List Loc) (ls : Array Slot), va_P (dC, dI) vwCl (mdW y a S) H → va_D A (mdW y a S) → va_S A s.heap H locs → lv_has ls 4 [(0, .ref (a 0)), (1, .int v1), (2, .int v2), (3, .int 1)] → wp_X5_finish_83_1 K S v1 v2 → W p l e ({ frames := 3, cells := 0, slots := 0, locals := 72 } : Room) s m args below meth c H locs 0 0 (MQ below (va_Qv K (BW dC dI A (fun u => mdW y a u)) A) args s 0 0 A) (F0 m 83 ls []) := by
  obtain ⟨hx, hb, hr, hml, hown, hts, hlocks, hA, hK⟩ := id C0
  have w9 := hts (Cond.fieldLink RX5 9 "SharedWireModel" "state" "[I") (List.mem_of_getElem? (i := 1) rfl)
  have hinX5 : ∀ w ∈ wsX50, w ∈ wsX5_finish := fun w h => List.mem_cons_of_mem _ (List.mem_append_right _ (h))
  intro S v1 v2 H locs ls hP hD hS hl hf
  obtain ⟨mI, mA, mL⟩ := S
  unfold wp_X5_finish_83_1 at hf
  refine lv_aload_n hx hb dX5_finish_83 rfl (lv_at hl 0 rfl) ?_
  refine va_get (D := (dC, dI)) (ci := 5) (v := .ref (a 3)) (C := RX5) (T := TX5) (N := 35) hx hb hts hinX5 hown hK.1 hP 0 rfl rfl 3 (by decide) w9 (fun _ h9 => h9) rfl dX5_finish_84 ?_
  refine lv_iload_n hx hb dX5_finish_87 rfl (lv_at hl 3 rfl) ?_
  refine ar_ild (f := (mA 3)) (j := 1) hx hb hK.1 hP 1 0 rfl rfl (clamp_lit 1 rfl) (vin_lit 1 4 rfl rfl) dX5_finish_88 ?_
  refine lv_iconst (v := 2) hx hb dX5_finish_89 (by decide) ?_
  refine lv_icmp_ne (tgt := 107) hx hb dX5_finish_90 (by decide) (fun c5 => ?_) (fun c5 => ?_)
  · replace hf := hf.1 c5
    exact j_X5_finish_107_1 C0 a K (mI, mA, mL) v1 v2 H locs ls hP hD hS (lv_sub hl [0, 1, 2, 3] rfl) hf
  · replace hf := hf.2 c5
    refine lv_iload_n hx hb dX5_finish_93 rfl (lv_at hl 1 rfl) ?_
    refine lv_iload_n hx hb dX5_finish_94 rfl (lv_at hl 3 rfl) ?_
    refine lv_ishr hx hb dX5_finish_95 ?_
    refine lv_iconst (v := 1) hx hb dX5_finish_96 (by decide) ?_
    refine lv_iand hx hb dX5_finish_97 ?_
    refine lv_iconst (v := 1) hx hb dX5_finish_98 (by decide) ?_
    refine lv_icmp_ne (tgt := 107) hx hb dX5_finish_99 (by decide) (fun c30 => ?_) (fun c30 => ?_)
    · replace hf := hf.1 c30
      exact j_X5_finish_107_1 C0 a K (mI, mA, mL) v1 v2 H locs ls hP hD hS (lv_sub hl [0, 1, 2, 3] rfl) hf
    · replace hf := hf.2 c30
      refine lv_aload_n hx hb dX5_finish_102 rfl (lv_at hl 0 rfl) ?_
      refine lv_iload_n hx hb dX5_finish_103 rfl (lv_at hl 3 rfl) ?_
      refine k0v (As := [.int 1]) (rest := []) ⟨hx, hb, hml, hown, hts⟩ (c_X5_keep l dC dI y a H.size (mI, mA, mL) 1 _ hf) (cwV 1 hts gX5_finish_X5_keep rfl rfl rfl (by decide +kernel) ⟨Nat.le_of_ble_eq_true rfl, Nat.le_of_ble_eq_true rfl⟩) hK hP hD (va_recv hK.1 hP (ci := 5) (q0 := 0) rfl rfl) hS hA rfl hl.1 rfl (Nat.le_of_ble_eq_true rfl) dX5_finish_104 ⟨Nat.zero_le _, Nat.zero_le _⟩ (fun u31 H locs hf hP hD hS => ?_)
      have hP : va_P (dC, dI) vwCl (mdW y a (u31.1, u31.2.1, u31.2.2)) H := hP
      have hD : va_D A (mdW y a (u31.1, u31.2.1, u31.2.2)) := hD
      exact j_X5_finish_107_1 C0 a K (u31.1, u31.2.1, u31.2.2) v1 v2 H locs ls hP hD hS (lv_sub hl [0, 1, 2, 3] rfl) hf
set_option maxHeartbeats 4000000 in
set_option maxRecDepth 100000 in
theorem j_X5_finish_75_1 {p : Program} {l : Launch} {e : Env} {s : State} {m : MethodId} {args : Array Value} {below : List Frame} {meth : Method} {c : Code} {dC : Nat → ClassId} {dI : Nat → Nat → Nat} {y : Nat → ClassId} {A : Nat → Prop} (C0 : Cx p s m args meth c cX5_finish 4 none wsX5_finish RX5 A dC dI y) (a : Nat → Nat) (K : ModelS → Prop) : ∀ (S : ModelS) (v1 : Int32) (v2 : Int32) (k0 : Int32) (k1 : Int32) (H : Heap) (locs : List Loc) (ls : Array Slot), va_P (dC, dI) vwCl (mdW y a S) H → va_D A (mdW y a S) → va_S A s.heap H locs → lv_has ls 4 [(0, .ref (a 0)), (1, .int v1), (2, .int v2), (3, .int 1)] → wp_X5_finish_75_1 K S v1 v2 k0 k1 → W p l e ({ frames := 3, cells := 0, slots := 0, locals := 72 } : Room) s m args below meth c H locs 0 0 (MQ below (va_Qv K (BW dC dI A (fun u => mdW y a u)) A) args s 0 0 A) (F0 m 75 ls [.int k0, .int k1, .ref (a 4)]) := by
  obtain ⟨hx, hb, hr, hml, hown, hts, hlocks, hA, hK⟩ := id C0
  have w9 := hts (Cond.fieldLink RX5 9 "SharedWireModel" "state" "[I") (List.mem_of_getElem? (i := 1) rfl)
  have hinX5 : ∀ w ∈ wsX50, w ∈ wsX5_finish := fun w h => List.mem_cons_of_mem _ (List.mem_append_right _ (h))
  intro S v1 v2 k0 k1 H locs ls hP hD hS hl hf
  obtain ⟨mI, mA, mL⟩ := S
  unfold wp_X5_finish_75_1 at hf
  have g35 := hf.1
  replace hf := hf.2
  refine mst_4 (f := (mA 4)) (x := k0) (j := k1.toNatClampNeg) hx hb hK.1 hP hD hS rfl rfl g35 dX5_finish_75 (fun H locs hP hD hS => ?_)
  refine lv_aload_n hx hb dX5_finish_76 rfl (lv_at hl 0 rfl) ?_
  refine va_get (D := (dC, dI)) (ci := 5) (v := .ref (a 3)) (C := RX5) (T := TX5) (N := 35) hx hb hts hinX5 hown hK.1 hP 0 rfl rfl 3 (by decide) w9 (fun _ h9 => h9) rfl dX5_finish_77 ?_
  refine lv_iload_n hx hb dX5_finish_80 rfl (lv_at hl 3 rfl) ?_
  refine lv_iconst (v := 1) hx hb dX5_finish_81 (by decide) ?_
  refine mst_3 (f := (mA 3)) (x := 1) (j := 1) hx hb hK.1 hP hD hS rfl (clamp_lit 1 rfl) (vin_lit 1 4 rfl rfl) dX5_finish_82 (fun H locs hP hD hS => ?_)
  exact j_X5_finish_83_1 C0 a K (mI, va_up (va_up mA 4 (upd (mA 4) k1.toNatClampNeg k0)) 3 (upd (mA 3) 1 1), mL) v1 v2 H locs ls hP hD hS (lv_sub hl [0, 1, 2, 3] rfl) hf
set_option maxHeartbeats 4000000 in
set_option maxRecDepth 100000 in
theorem j_X5_finish_4_1 {p : Program} {l : Launch} {e : Env} {s : State} {m : MethodId} {args : Array Value} {below : List Frame} {meth : Method} {c : Code} {dC : Nat → ClassId} {dI : Nat → Nat → Nat} {y : Nat → ClassId} {A : Nat → Prop} (C0 : Cx p s m args meth c cX5_finish 4 none wsX5_finish RX5 A dC dI y) (a : Nat → Nat) (K : ModelS → Prop) : ∀ (S : ModelS) (v1 : Int32) (v2 : Int32) (H : Heap) (locs : List Loc) (ls : Array Slot), va_P (dC, dI) vwCl (mdW y a S) H → va_D A (mdW y a S) → va_S A s.heap H locs → lv_has ls 4 [(0, .ref (a 0)), (1, .int v1), (2, .int v2), (3, .int 1)] → wp_X5_finish_4_1 K S v1 v2 → W p l e ({ frames := 3, cells := 0, slots := 0, locals := 72 } : Room) s m args below meth c H locs 0 0 (MQ below (va_Qv K (BW dC dI A (fun u => mdW y a u)) A) args s 0 0 A) (F0 m 4 ls []) := by
  obtain ⟨hx, hb, hr, hml, hown, hts, hlocks, hA, hK⟩ := id C0
  have w9 := hts (Cond.fieldLink RX5 9 "SharedWireModel" "state" "[I") (List.mem_of_getElem? (i := 1) rfl)
  have w13 := hts (Cond.fieldLink RX5 13 "SharedWireModel" "sending" "[I") (List.mem_of_getElem? (i := 5) rfl)
  have w19 := hts (Cond.fieldLink RX5 19 "SharedWireModel" "sent" "[I") (List.mem_of_getElem? (i := 4) rfl)
  have w63 := hts (Cond.fieldLink RX5 63 "SharedWireModel" "wireSize" "[I") (List.mem_of_getElem? (i := 3) rfl)
  have w66 := hts (Cond.fieldLink RX5 66 "SharedWireModel" "at" "[I") (List.mem_of_getElem? (i := 2) rfl)
  have hinX5 : ∀ w ∈ wsX50, w ∈ wsX5_finish := fun w h => List.mem_cons_of_mem _ (List.mem_append_right _ (h))
  intro S v1 v2 H locs ls hP hD hS hl hf
  obtain ⟨mI, mA, mL⟩ := S
  unfold wp_X5_finish_4_1 at hf
  refine lv_iload_n hx hb dX5_finish_4 rfl (lv_at hl 3 rfl) ?_
  refine lv_iconst (v := 4) hx hb dX5_finish_5 (by decide) ?_
  refine lv_icmp_ge (tgt := 133) hx hb dX5_finish_6 (by decide) (fun c9 => absurd c9 (by decide)) (fun _ => ?_)
  refine lv_aload_n hx hb dX5_finish_9 rfl (lv_at hl 0 rfl) ?_
  refine va_get (D := (dC, dI)) (ci := 5) (v := .ref (a 3)) (C := RX5) (T := TX5) (N := 35) hx hb hts hinX5 hown hK.1 hP 0 rfl rfl 3 (by decide) w9 (fun _ h9 => h9) rfl dX5_finish_10 ?_
  refine lv_iload_n hx hb dX5_finish_13 rfl (lv_at hl 3 rfl) ?_
  refine ar_ild (f := (mA 3)) (j := 1) hx hb hK.1 hP 1 0 rfl rfl (clamp_lit 1 rfl) (vin_lit 1 4 rfl rfl) dX5_finish_14 ?_
  refine lv_iconst (v := 3) hx hb dX5_finish_15 (by decide) ?_
  refine lv_icmp_ne (tgt := 83) hx hb dX5_finish_16 (by decide) (fun c4 => ?_) (fun c4 => ?_)
  · replace hf := hf.1 c4
    exact j_X5_finish_83_1 C0 a K (mI, mA, mL) v1 v2 H locs ls hP hD hS (lv_sub hl [0, 1, 2, 3] rfl) hf
  · replace hf := hf.2 c4
    refine lv_aload_n hx hb dX5_finish_19 rfl (lv_at hl 0 rfl) ?_
    refine va_get (D := (dC, dI)) (ci := 5) (v := .ref (a 21)) (C := RX5) (T := TX5) (N := 35) hx hb hts hinX5 hown hK.1 hP 0 rfl rfl 21 (by decide) w66 (fun _ h9 => h9) rfl dX5_finish_20 ?_
    refine lv_iload_n hx hb dX5_finish_23 rfl (lv_at hl 3 rfl) ?_
    refine ar_ild (f := (mA 21)) (j := 1) hx hb hK.1 hP 19 0 rfl rfl (clamp_lit 1 rfl) (vin_lit 1 4 rfl rfl) dX5_finish_24 ?_
    refine lv_aload_n hx hb dX5_finish_25 rfl (lv_at hl 0 rfl) ?_
    refine va_get (D := (dC, dI)) (ci := 5) (v := .ref (a 20)) (C := RX5) (T := TX5) (N := 35) hx hb hts hinX5 hown hK.1 hP 0 rfl rfl 20 (by decide) w63 (fun _ h9 => h9) rfl dX5_finish_26 ?_
    refine lv_iload_n hx hb dX5_finish_29 rfl (lv_at hl 3 rfl) ?_
    refine ar_ild (f := (mA 20)) (j := 1) hx hb hK.1 hP 18 0 rfl rfl (clamp_lit 1 rfl) (vin_lit 1 5 rfl rfl) dX5_finish_30 ?_
    refine lv_icmp_ne (tgt := 83) hx hb dX5_finish_31 (by decide) (fun c32 => ?_) (fun c32 => ?_)
    · replace hf := hf.1 c32
      exact j_X5_finish_83_1 C0 a K (mI, mA, mL) v1 v2 H locs ls hP hD hS (lv_sub hl [0, 1, 2, 3] rfl) hf
    · replace hf := hf.2 c32
      refine lv_aload_n hx hb dX5_finish_34 rfl (lv_at hl 0 rfl) ?_
      refine lv_iload_n hx hb dX5_finish_35 rfl (lv_at hl 3 rfl) ?_
      refine k0v (As := [.int 1]) (rest := []) ⟨hx, hb, hml, hown, hts⟩ (c_X5_forget l dC dI y a H.size (mI, mA, mL) 1 _ hf) (cwV 1 hts gX5_finish_X5_forget rfl rfl rfl (by decide +kernel) ⟨Nat.le_of_ble_eq_true rfl, Nat.le_of_ble_eq_true rfl⟩) hK hP hD (va_recv hK.1 hP (ci := 5) (q0 := 0) rfl rfl) hS hA rfl hl.1 rfl (Nat.le_of_ble_eq_true rfl) dX5_finish_36 ⟨Nat.zero_le _, Nat.zero_le _⟩ (fun u33 H locs hf hP hD hS => ?_)
      have hP : va_P (dC, dI) vwCl (mdW y a (u33.1, u33.2.1, u33.2.2)) H := hP
      have hD : va_D A (mdW y a (u33.1, u33.2.1, u33.2.2)) := hD
      refine lv_aload_n hx hb dX5_finish_39 rfl (lv_at hl 0 rfl) ?_
      refine va_get (D := (dC, dI)) (ci := 5) (v := .ref (a 6)) (C := RX5) (T := TX5) (N := 35) hx hb hts hinX5 hown hK.1 hP 0 rfl rfl 6 (by decide) w19 (fun _ h9 => h9) rfl dX5_finish_40 ?_
      refine lv_iload_n hx hb dX5_finish_43 rfl (lv_at hl 3 rfl) ?_
      refine lv_dup2_11 hx hb dX5_finish_44 rfl rfl ?_
      refine ar_ild (f := (u33.2.1 6)) (j := 1) hx hb hK.1 hP 4 0 rfl rfl (clamp_lit 1 rfl) (vin_lit 1 4 rfl rfl) dX5_finish_45 ?_
      refine lv_iconst (v := 1) hx hb dX5_finish_46 (by decide) ?_
      refine lv_iadd hx hb dX5_finish_47 ?_
      refine mst_6 (f := (u33.2.1 6)) (x := ((u33.2.1 6) 1) + 1) (j := 1) hx hb hK.1 hP hD hS rfl (clamp_lit 1 rfl) (vin_lit 1 4 rfl rfl) dX5_finish_48 (fun H locs hP hD hS => ?_)
      refine lv_aload_n hx hb dX5_finish_49 rfl (lv_at hl 0 rfl) ?_
      refine va_get (D := (dC, dI)) (ci := 5) (v := .ref (a 4)) (C := RX5) (T := TX5) (N := 35) hx hb hts hinX5 hown hK.1 hP 0 rfl rfl 4 (by decide) w13 (fun _ h9 => h9) rfl dX5_finish_50 ?_
      refine lv_iload_n hx hb dX5_finish_53 rfl (lv_at hl 3 rfl) ?_
      refine lv_aload_n hx hb dX5_finish_54 rfl (lv_at hl 0 rfl) ?_
      refine va_get (D := (dC, dI)) (ci := 5) (v := .ref (a 4)) (C := RX5) (T := TX5) (N := 35) hx hb hts hinX5 hown hK.1 hP 0 rfl rfl 4 (by decide) w13 (fun _ h9 => h9) rfl dX5_finish_55 ?_
      refine lv_iload_n hx hb dX5_finish_58 rfl (lv_at hl 3 rfl) ?_
      refine ar_ild (f := (u33.2.1 4)) (j := 1) hx hb hK.1 hP 2 0 rfl rfl (clamp_lit 1 rfl) (vin_lit 1 4 rfl rfl) dX5_finish_59 ?_
      refine lv_if_le (tgt := 74) hx hb dX5_finish_60 (by decide) (fun c34 => ?_) (fun c34 => ?_)
      · replace hf := hf.1 c34
        refine lv_iconst (v := 0) hx hb dX5_finish_74 (by decide) ?_
        exact j_X5_finish_75_1 C0 a K (u33.1, va_up u33.2.1 6 (upd (u33.2.1 6) 1 (((u33.2.1 6) 1) + 1)), u33.2.2) v1 v2 0 1 H locs ls hP hD hS (lv_sub hl [0, 1, 2, 3] rfl) hf
      · replace hf := hf.2 c34
        refine lv_aload_n hx hb dX5_finish_63 rfl (lv_at hl 0 rfl) ?_
        refine va_get (D := (dC, dI)) (ci := 5) (v := .ref (a 4)) (C := RX5) (T := TX5) (N := 35) hx hb hts hinX5 hown hK.1 hP 0 rfl rfl 4 (by decide) w13 (fun _ h9 => h9) rfl dX5_finish_64 ?_
        refine lv_iload_n hx hb dX5_finish_67 rfl (lv_at hl 3 rfl) ?_
        refine ar_ild (f := (u33.2.1 4)) (j := 1) hx hb hK.1 hP 2 0 rfl rfl (clamp_lit 1 rfl) (vin_lit 1 4 rfl rfl) dX5_finish_68 ?_
        refine lv_iconst (v := 1) hx hb dX5_finish_69 (by decide) ?_
        refine lv_isub hx hb dX5_finish_70 ?_
        refine lv_goto (tgt := 75) hx hb dX5_finish_71 (by decide) ?_
        exact j_X5_finish_75_1 C0 a K (u33.1, va_up u33.2.1 6 (upd (u33.2.1 6) 1 (((u33.2.1 6) 1) + 1)), u33.2.2) v1 v2 (((u33.2.1 4) 1) - 1) 1 H locs ls hP hD hS (lv_sub hl [0, 1, 2, 3] rfl) hf
set_option maxHeartbeats 4000000 in
set_option maxRecDepth 100000 in
theorem j_X5_finish_126_0 {p : Program} {l : Launch} {e : Env} {s : State} {m : MethodId} {args : Array Value} {below : List Frame} {meth : Method} {c : Code} {dC : Nat → ClassId} {dI : Nat → Nat → Nat} {y : Nat → ClassId} {A : Nat → Prop} (C0 : Cx p s m args meth c cX5_finish 4 none wsX5_finish RX5 A dC dI y) (a : Nat → Nat) (K : ModelS → Prop) : ∀ (S : ModelS) (v1 : Int32) (k0 : Int32) (H : Heap) (locs : List Loc) (ls : Array Slot), va_P (dC, dI) vwCl (mdW y a S) H → va_D A (mdW y a S) → va_S A s.heap H locs → lv_has ls 4 [(0, .ref (a 0)), (1, .int v1), (3, .int 0)] → wp_X5_finish_126_0 K S v1 k0 → W p l e ({ frames := 3, cells := 0, slots := 0, locals := 72 } : Room) s m args below meth c H locs 0 0 (MQ below (va_Qv K (BW dC dI A (fun u => mdW y a u)) A) args s 0 0 A) (F0 m 126 ls [.int k0]) := by
  obtain ⟨hx, hb, hr, hml, hown, hts, hlocks, hA, hK⟩ := id C0
  intro S v1 k0 H locs ls hP hD hS hl hf
  obtain ⟨mI, mA, mL⟩ := S
  unfold wp_X5_finish_126_0 at hf
  refine lv_istore_n (lv' := [(2, .int k0), (0, .ref (a 0)), (1, .int v1), (3, .int 0)]) hx hb dX5_finish_126 rfl hl (by decide) rfl (fun ls hl => ?_)
  refine lv_iinc (v := 1) (lv' := [(3, .int 1), (2, .int k0), (0, .ref (a 0)), (1, .int v1)]) hx hb dX5_finish_127 hl (k := 3) rfl (by decide) (by decide) rfl (fun ls hl => ?_)
  refine lv_goto (tgt := 4) hx hb dX5_finish_130 (by decide) ?_
  exact j_X5_finish_4_1 C0 a K (mI, mA, mL) v1 k0 H locs ls hP hD hS (lv_sub hl [2, 3, 1, 0] rfl) hf
set_option maxHeartbeats 4000000 in
set_option maxRecDepth 100000 in
theorem j_X5_finish_121_0 {p : Program} {l : Launch} {e : Env} {s : State} {m : MethodId} {args : Array Value} {below : List Frame} {meth : Method} {c : Code} {dC : Nat → ClassId} {dI : Nat → Nat → Nat} {y : Nat → ClassId} {A : Nat → Prop} (C0 : Cx p s m args meth c cX5_finish 4 none wsX5_finish RX5 A dC dI y) (a : Nat → Nat) (K : ModelS → Prop) : ∀ (S : ModelS) (v1 : Int32) (H : Heap) (locs : List Loc) (ls : Array Slot), va_P (dC, dI) vwCl (mdW y a S) H → va_D A (mdW y a S) → va_S A s.heap H locs → lv_has ls 4 [(0, .ref (a 0)), (1, .int v1), (3, .int 0)] → wp_X5_finish_121_0 K S v1 → W p l e ({ frames := 3, cells := 0, slots := 0, locals := 72 } : Room) s m args below meth c H locs 0 0 (MQ below (va_Qv K (BW dC dI A (fun u => mdW y a u)) A) args s 0 0 A) (F0 m 121 ls []) := by
  obtain ⟨hx, hb, hr, hml, hown, hts, hlocks, hA, hK⟩ := id C0
  intro S v1 H locs ls hP hD hS hl hf
  obtain ⟨mI, mA, mL⟩ := S
  unfold wp_X5_finish_121_0 at hf
  refine lv_iconst (v := 1) hx hb dX5_finish_121 (by decide) ?_
  refine lv_goto (tgt := 126) hx hb dX5_finish_122 (by decide) ?_
  exact j_X5_finish_126_0 C0 a K (mI, mA, mL) v1 1 H locs ls hP hD hS (lv_sub hl [0, 1, 2] rfl) hf
set_option maxHeartbeats 4000000 in
set_option maxRecDepth 100000 in
theorem j_X5_finish_107_0 {p : Program} {l : Launch} {e : Env} {s : State} {m : MethodId} {args : Array Value} {below : List Frame} {meth : Method} {c : Code} {dC : Nat → ClassId} {dI : Nat → Nat → Nat} {y : Nat → ClassId} {A : Nat → Prop} (C0 : Cx p s m args meth c cX5_finish 4 none wsX5_finish RX5 A dC dI y) (a : Nat → Nat) (K : ModelS → Prop) : ∀ (S : ModelS) (v1 : Int32) (v2 : Int32) (H : Heap) (locs : List Loc) (ls : Array Slot), va_P (dC, dI) vwCl (mdW y a S) H → va_D A (mdW y a S) → va_S A s.heap H locs → lv_has ls 4 [(0, .ref (a 0)), (1, .int v1), (2, .int v2), (3, .int 0)] → wp_X5_finish_107_0 K S v1 v2 → W p l e ({ frames := 3, cells := 0, slots := 0, locals := 72 } : Room) s m args below meth c H locs 0 0 (MQ below (va_Qv K (BW dC dI A (fun u => mdW y a u)) A) args s 0 0 A) (F0 m 107 ls []) := by
  obtain ⟨hx, hb, hr, hml, hown, hts, hlocks, hA, hK⟩ := id C0
  have w9 := hts (Cond.fieldLink RX5 9 "SharedWireModel" "state" "[I") (List.mem_of_getElem? (i := 1) rfl)
  have hinX5 : ∀ w ∈ wsX50, w ∈ wsX5_finish := fun w h => List.mem_cons_of_mem _ (List.mem_append_right _ (h))
  intro S v1 v2 H locs ls hP hD hS hl hf
  obtain ⟨mI, mA, mL⟩ := S
  unfold wp_X5_finish_107_0 at hf
  refine lv_iload_n hx hb dX5_finish_107 rfl (lv_at hl 2 rfl) ?_
  refine lv_if_ne (tgt := 121) hx hb dX5_finish_108 (by decide) (fun c3 => ?_) (fun c3 => ?_)
  · replace hf := hf.1 c3
    exact j_X5_finish_121_0 C0 a K (mI, mA, mL) v1 H locs ls hP hD hS (lv_sub hl [0, 1, 3] rfl) hf
  · replace hf := hf.2 c3
    refine lv_aload_n hx hb dX5_finish_111 rfl (lv_at hl 0 rfl) ?_
    refine va_get (D := (dC, dI)) (ci := 5) (v := .ref (a 3)) (C := RX5) (T := TX5) (N := 35) hx hb hts hinX5 hown hK.1 hP 0 rfl rfl 3 (by decide) w9 (fun _ h9 => h9) rfl dX5_finish_112 ?_
    refine lv_iload_n hx hb dX5_finish_115 rfl (lv_at hl 3 rfl) ?_
    refine ar_ild (f := (mA 3)) (j := 0) hx hb hK.1 hP 1 0 rfl rfl (clamp_lit 0 rfl) (vin_lit 0 4 rfl rfl) dX5_finish_116 ?_
    refine lv_iconst (v := 1) hx hb dX5_finish_117 (by decide) ?_
    refine lv_icmp_le (tgt := 125) hx hb dX5_finish_118 (by decide) (fun c36 => ?_) (fun c36 => ?_)
    · replace hf := hf.1 c36
      refine lv_iconst (v := 0) hx hb dX5_finish_125 (by decide) ?_
      exact j_X5_finish_126_0 C0 a K (mI, mA, mL) v1 0 H locs ls hP hD hS (lv_sub hl [0, 1, 3] rfl) hf
    · replace hf := hf.2 c36
      exact j_X5_finish_121_0 C0 a K (mI, mA, mL) v1 H locs ls hP hD hS (lv_sub hl [0, 1, 3] rfl) hf
set_option maxHeartbeats 4000000 in
set_option maxRecDepth 100000 in
theorem j_X5_finish_83_0 {p : Program} {l : Launch} {e : Env} {s : State} {m : MethodId} {args : Array Value} {below : List Frame} {meth : Method} {c : Code} {dC : Nat → ClassId} {dI : Nat → Nat → Nat} {y : Nat → ClassId} {A : Nat → Prop} (C0 : Cx p s m args meth c cX5_finish 4 none wsX5_finish RX5 A dC dI y) (a : Nat → Nat) (K : ModelS → Prop) : ∀ (S : ModelS) (v1 : Int32) (v2 : Int32) (H : Heap) (locs : List Loc) (ls : Array Slot), va_P (dC, dI) vwCl (mdW y a S) H → va_D A (mdW y a S) → va_S A s.heap H locs → lv_has ls 4 [(0, .ref (a 0)), (1, .int v1), (2, .int v2), (3, .int 0)] → wp_X5_finish_83_0 K S v1 v2 → W p l e ({ frames := 3, cells := 0, slots := 0, locals := 72 } : Room) s m args below meth c H locs 0 0 (MQ below (va_Qv K (BW dC dI A (fun u => mdW y a u)) A) args s 0 0 A) (F0 m 83 ls []) := by
  obtain ⟨hx, hb, hr, hml, hown, hts, hlocks, hA, hK⟩ := id C0
  have w9 := hts (Cond.fieldLink RX5 9 "SharedWireModel" "state" "[I") (List.mem_of_getElem? (i := 1) rfl)
  have hinX5 : ∀ w ∈ wsX50, w ∈ wsX5_finish := fun w h => List.mem_cons_of_mem _ (List.mem_append_right _ (h))
  intro S v1 v2 H locs ls hP hD hS hl hf
  obtain ⟨mI, mA, mL⟩ := S
  unfold wp_X5_finish_83_0 at hf
  refine lv_aload_n hx hb dX5_finish_83 rfl (lv_at hl 0 rfl) ?_
  refine va_get (D := (dC, dI)) (ci := 5) (v := .ref (a 3)) (C := RX5) (T := TX5) (N := 35) hx hb hts hinX5 hown hK.1 hP 0 rfl rfl 3 (by decide) w9 (fun _ h9 => h9) rfl dX5_finish_84 ?_
  refine lv_iload_n hx hb dX5_finish_87 rfl (lv_at hl 3 rfl) ?_
  refine ar_ild (f := (mA 3)) (j := 0) hx hb hK.1 hP 1 0 rfl rfl (clamp_lit 0 rfl) (vin_lit 0 4 rfl rfl) dX5_finish_88 ?_
  refine lv_iconst (v := 2) hx hb dX5_finish_89 (by decide) ?_
  refine lv_icmp_ne (tgt := 107) hx hb dX5_finish_90 (by decide) (fun c2 => ?_) (fun c2 => ?_)
  · replace hf := hf.1 c2
    exact j_X5_finish_107_0 C0 a K (mI, mA, mL) v1 v2 H locs ls hP hD hS (lv_sub hl [0, 1, 2, 3] rfl) hf
  · replace hf := hf.2 c2
    refine lv_iload_n hx hb dX5_finish_93 rfl (lv_at hl 1 rfl) ?_
    refine lv_iload_n hx hb dX5_finish_94 rfl (lv_at hl 3 rfl) ?_
    refine lv_ishr hx hb dX5_finish_95 ?_
    refine lv_iconst (v := 1) hx hb dX5_finish_96 (by decide) ?_
    refine lv_iand hx hb dX5_finish_97 ?_
    refine lv_iconst (v := 1) hx hb dX5_finish_98 (by decide) ?_
    refine lv_icmp_ne (tgt := 107) hx hb dX5_finish_99 (by decide) (fun c37 => ?_) (fun c37 => ?_)
    · replace hf := hf.1 c37
      exact j_X5_finish_107_0 C0 a K (mI, mA, mL) v1 v2 H locs ls hP hD hS (lv_sub hl [0, 1, 2, 3] rfl) hf
    · replace hf := hf.2 c37
      refine lv_aload_n hx hb dX5_finish_102 rfl (lv_at hl 0 rfl) ?_
      refine lv_iload_n hx hb dX5_finish_103 rfl (lv_at hl 3 rfl) ?_
      refine k0v (As := [.int 0]) (rest := []) ⟨hx, hb, hml, hown, hts⟩ (c_X5_keep l dC dI y a H.size (mI, mA, mL) 0 _ hf) (cwV 1 hts gX5_finish_X5_keep rfl rfl rfl (by decide +kernel) ⟨Nat.le_of_ble_eq_true rfl, Nat.le_of_ble_eq_true rfl⟩) hK hP hD (va_recv hK.1 hP (ci := 5) (q0 := 0) rfl rfl) hS hA rfl hl.1 rfl (Nat.le_of_ble_eq_true rfl) dX5_finish_104 ⟨Nat.zero_le _, Nat.zero_le _⟩ (fun u38 H locs hf hP hD hS => ?_)
      have hP : va_P (dC, dI) vwCl (mdW y a (u38.1, u38.2.1, u38.2.2)) H := hP
      have hD : va_D A (mdW y a (u38.1, u38.2.1, u38.2.2)) := hD
      exact j_X5_finish_107_0 C0 a K (u38.1, u38.2.1, u38.2.2) v1 v2 H locs ls hP hD hS (lv_sub hl [0, 1, 2, 3] rfl) hf
set_option maxHeartbeats 4000000 in
set_option maxRecDepth 100000 in
theorem j_X5_finish_75_0 {p : Program} {l : Launch} {e : Env} {s : State} {m : MethodId} {args : Array Value} {below : List Frame} {meth : Method} {c : Code} {dC : Nat → ClassId} {dI : Nat → Nat → Nat} {y : Nat → ClassId} {A : Nat → Prop} (C0 : Cx p s m args meth c cX5_finish 4 none wsX5_finish RX5 A dC dI y) (a : Nat → Nat) (K : ModelS → Prop) : ∀ (S : ModelS) (v1 : Int32) (v2 : Int32) (k0 : Int32) (k1 : Int32) (H : Heap) (locs : List Loc) (ls : Array Slot), va_P (dC, dI) vwCl (mdW y a S) H → va_D A (mdW y a S) → va_S A s.heap H locs → lv_has ls 4 [(0, .ref (a 0)), (1, .int v1), (2, .int v2), (3, .int 0)] → wp_X5_finish_75_0 K S v1 v2 k0 k1 → W p l e ({ frames := 3, cells := 0, slots := 0, locals := 72 } : Room) s m args below meth c H locs 0 0 (MQ below (va_Qv K (BW dC dI A (fun u => mdW y a u)) A) args s 0 0 A) (F0 m 75 ls [.int k0, .int k1, .ref (a 4)]) := by
  obtain ⟨hx, hb, hr, hml, hown, hts, hlocks, hA, hK⟩ := id C0
  have w9 := hts (Cond.fieldLink RX5 9 "SharedWireModel" "state" "[I") (List.mem_of_getElem? (i := 1) rfl)
  have hinX5 : ∀ w ∈ wsX50, w ∈ wsX5_finish := fun w h => List.mem_cons_of_mem _ (List.mem_append_right _ (h))
  intro S v1 v2 k0 k1 H locs ls hP hD hS hl hf
  obtain ⟨mI, mA, mL⟩ := S
  unfold wp_X5_finish_75_0 at hf
  have g42 := hf.1
  replace hf := hf.2
  refine mst_4 (f := (mA 4)) (x := k0) (j := k1.toNatClampNeg) hx hb hK.1 hP hD hS rfl rfl g42 dX5_finish_75 (fun H locs hP hD hS => ?_)
  refine lv_aload_n hx hb dX5_finish_76 rfl (lv_at hl 0 rfl) ?_
  refine va_get (D := (dC, dI)) (ci := 5) (v := .ref (a 3)) (C := RX5) (T := TX5) (N := 35) hx hb hts hinX5 hown hK.1 hP 0 rfl rfl 3 (by decide) w9 (fun _ h9 => h9) rfl dX5_finish_77 ?_
  refine lv_iload_n hx hb dX5_finish_80 rfl (lv_at hl 3 rfl) ?_
  refine lv_iconst (v := 1) hx hb dX5_finish_81 (by decide) ?_
  refine mst_3 (f := (mA 3)) (x := 1) (j := 0) hx hb hK.1 hP hD hS rfl (clamp_lit 0 rfl) (vin_lit 0 4 rfl rfl) dX5_finish_82 (fun H locs hP hD hS => ?_)
  exact j_X5_finish_83_0 C0 a K (mI, va_up (va_up mA 4 (upd (mA 4) k1.toNatClampNeg k0)) 3 (upd (mA 3) 0 1), mL) v1 v2 H locs ls hP hD hS (lv_sub hl [0, 1, 2, 3] rfl) hf
set_option maxHeartbeats 4000000 in
set_option maxRecDepth 100000 in
theorem j_X5_finish_4_0 {p : Program} {l : Launch} {e : Env} {s : State} {m : MethodId} {args : Array Value} {below : List Frame} {meth : Method} {c : Code} {dC : Nat → ClassId} {dI : Nat → Nat → Nat} {y : Nat → ClassId} {A : Nat → Prop} (C0 : Cx p s m args meth c cX5_finish 4 none wsX5_finish RX5 A dC dI y) (a : Nat → Nat) (K : ModelS → Prop) : ∀ (S : ModelS) (v1 : Int32) (v2 : Int32) (H : Heap) (locs : List Loc) (ls : Array Slot), va_P (dC, dI) vwCl (mdW y a S) H → va_D A (mdW y a S) → va_S A s.heap H locs → lv_has ls 4 [(0, .ref (a 0)), (1, .int v1), (2, .int v2), (3, .int 0)] → wp_X5_finish_4_0 K S v1 v2 → W p l e ({ frames := 3, cells := 0, slots := 0, locals := 72 } : Room) s m args below meth c H locs 0 0 (MQ below (va_Qv K (BW dC dI A (fun u => mdW y a u)) A) args s 0 0 A) (F0 m 4 ls []) := by
  obtain ⟨hx, hb, hr, hml, hown, hts, hlocks, hA, hK⟩ := id C0
  have w9 := hts (Cond.fieldLink RX5 9 "SharedWireModel" "state" "[I") (List.mem_of_getElem? (i := 1) rfl)
  have w13 := hts (Cond.fieldLink RX5 13 "SharedWireModel" "sending" "[I") (List.mem_of_getElem? (i := 5) rfl)
  have w19 := hts (Cond.fieldLink RX5 19 "SharedWireModel" "sent" "[I") (List.mem_of_getElem? (i := 4) rfl)
  have w63 := hts (Cond.fieldLink RX5 63 "SharedWireModel" "wireSize" "[I") (List.mem_of_getElem? (i := 3) rfl)
  have w66 := hts (Cond.fieldLink RX5 66 "SharedWireModel" "at" "[I") (List.mem_of_getElem? (i := 2) rfl)
  have hinX5 : ∀ w ∈ wsX50, w ∈ wsX5_finish := fun w h => List.mem_cons_of_mem _ (List.mem_append_right _ (h))
  intro S v1 v2 H locs ls hP hD hS hl hf
  obtain ⟨mI, mA, mL⟩ := S
  unfold wp_X5_finish_4_0 at hf
  refine lv_iload_n hx hb dX5_finish_4 rfl (lv_at hl 3 rfl) ?_
  refine lv_iconst (v := 4) hx hb dX5_finish_5 (by decide) ?_
  refine lv_icmp_ge (tgt := 133) hx hb dX5_finish_6 (by decide) (fun c9 => absurd c9 (by decide)) (fun _ => ?_)
  refine lv_aload_n hx hb dX5_finish_9 rfl (lv_at hl 0 rfl) ?_
  refine va_get (D := (dC, dI)) (ci := 5) (v := .ref (a 3)) (C := RX5) (T := TX5) (N := 35) hx hb hts hinX5 hown hK.1 hP 0 rfl rfl 3 (by decide) w9 (fun _ h9 => h9) rfl dX5_finish_10 ?_
  refine lv_iload_n hx hb dX5_finish_13 rfl (lv_at hl 3 rfl) ?_
  refine ar_ild (f := (mA 3)) (j := 0) hx hb hK.1 hP 1 0 rfl rfl (clamp_lit 0 rfl) (vin_lit 0 4 rfl rfl) dX5_finish_14 ?_
  refine lv_iconst (v := 3) hx hb dX5_finish_15 (by decide) ?_
  refine lv_icmp_ne (tgt := 83) hx hb dX5_finish_16 (by decide) (fun c1 => ?_) (fun c1 => ?_)
  · replace hf := hf.1 c1
    exact j_X5_finish_83_0 C0 a K (mI, mA, mL) v1 v2 H locs ls hP hD hS (lv_sub hl [0, 1, 2, 3] rfl) hf
  · replace hf := hf.2 c1
    refine lv_aload_n hx hb dX5_finish_19 rfl (lv_at hl 0 rfl) ?_
    refine va_get (D := (dC, dI)) (ci := 5) (v := .ref (a 21)) (C := RX5) (T := TX5) (N := 35) hx hb hts hinX5 hown hK.1 hP 0 rfl rfl 21 (by decide) w66 (fun _ h9 => h9) rfl dX5_finish_20 ?_
    refine lv_iload_n hx hb dX5_finish_23 rfl (lv_at hl 3 rfl) ?_
    refine ar_ild (f := (mA 21)) (j := 0) hx hb hK.1 hP 19 0 rfl rfl (clamp_lit 0 rfl) (vin_lit 0 4 rfl rfl) dX5_finish_24 ?_
    refine lv_aload_n hx hb dX5_finish_25 rfl (lv_at hl 0 rfl) ?_
    refine va_get (D := (dC, dI)) (ci := 5) (v := .ref (a 20)) (C := RX5) (T := TX5) (N := 35) hx hb hts hinX5 hown hK.1 hP 0 rfl rfl 20 (by decide) w63 (fun _ h9 => h9) rfl dX5_finish_26 ?_
    refine lv_iload_n hx hb dX5_finish_29 rfl (lv_at hl 3 rfl) ?_
    refine ar_ild (f := (mA 20)) (j := 0) hx hb hK.1 hP 18 0 rfl rfl (clamp_lit 0 rfl) (vin_lit 0 5 rfl rfl) dX5_finish_30 ?_
    refine lv_icmp_ne (tgt := 83) hx hb dX5_finish_31 (by decide) (fun c39 => ?_) (fun c39 => ?_)
    · replace hf := hf.1 c39
      exact j_X5_finish_83_0 C0 a K (mI, mA, mL) v1 v2 H locs ls hP hD hS (lv_sub hl [0, 1, 2, 3] rfl) hf
    · replace hf := hf.2 c39
      refine lv_aload_n hx hb dX5_finish_34 rfl (lv_at hl 0 rfl) ?_
      refine lv_iload_n hx hb dX5_finish_35 rfl (lv_at hl 3 rfl) ?_
      refine k0v (As := [.int 0]) (rest := []) ⟨hx, hb, hml, hown, hts⟩ (c_X5_forget l dC dI y a H.size (mI, mA, mL) 0 _ hf) (cwV 1 hts gX5_finish_X5_forget rfl rfl rfl (by decide +kernel) ⟨Nat.le_of_ble_eq_true rfl, Nat.le_of_ble_eq_true rfl⟩) hK hP hD (va_recv hK.1 hP (ci := 5) (q0 := 0) rfl rfl) hS hA rfl hl.1 rfl (Nat.le_of_ble_eq_true rfl) dX5_finish_36 ⟨Nat.zero_le _, Nat.zero_le _⟩ (fun u40 H locs hf hP hD hS => ?_)
      have hP : va_P (dC, dI) vwCl (mdW y a (u40.1, u40.2.1, u40.2.2)) H := hP
      have hD : va_D A (mdW y a (u40.1, u40.2.1, u40.2.2)) := hD
      refine lv_aload_n hx hb dX5_finish_39 rfl (lv_at hl 0 rfl) ?_
      refine va_get (D := (dC, dI)) (ci := 5) (v := .ref (a 6)) (C := RX5) (T := TX5) (N := 35) hx hb hts hinX5 hown hK.1 hP 0 rfl rfl 6 (by decide) w19 (fun _ h9 => h9) rfl dX5_finish_40 ?_
      refine lv_iload_n hx hb dX5_finish_43 rfl (lv_at hl 3 rfl) ?_
      refine lv_dup2_11 hx hb dX5_finish_44 rfl rfl ?_
      refine ar_ild (f := (u40.2.1 6)) (j := 0) hx hb hK.1 hP 4 0 rfl rfl (clamp_lit 0 rfl) (vin_lit 0 4 rfl rfl) dX5_finish_45 ?_
      refine lv_iconst (v := 1) hx hb dX5_finish_46 (by decide) ?_
      refine lv_iadd hx hb dX5_finish_47 ?_
      refine mst_6 (f := (u40.2.1 6)) (x := ((u40.2.1 6) 0) + 1) (j := 0) hx hb hK.1 hP hD hS rfl (clamp_lit 0 rfl) (vin_lit 0 4 rfl rfl) dX5_finish_48 (fun H locs hP hD hS => ?_)
      refine lv_aload_n hx hb dX5_finish_49 rfl (lv_at hl 0 rfl) ?_
      refine va_get (D := (dC, dI)) (ci := 5) (v := .ref (a 4)) (C := RX5) (T := TX5) (N := 35) hx hb hts hinX5 hown hK.1 hP 0 rfl rfl 4 (by decide) w13 (fun _ h9 => h9) rfl dX5_finish_50 ?_
      refine lv_iload_n hx hb dX5_finish_53 rfl (lv_at hl 3 rfl) ?_
      refine lv_aload_n hx hb dX5_finish_54 rfl (lv_at hl 0 rfl) ?_
      refine va_get (D := (dC, dI)) (ci := 5) (v := .ref (a 4)) (C := RX5) (T := TX5) (N := 35) hx hb hts hinX5 hown hK.1 hP 0 rfl rfl 4 (by decide) w13 (fun _ h9 => h9) rfl dX5_finish_55 ?_
      refine lv_iload_n hx hb dX5_finish_58 rfl (lv_at hl 3 rfl) ?_
      refine ar_ild (f := (u40.2.1 4)) (j := 0) hx hb hK.1 hP 2 0 rfl rfl (clamp_lit 0 rfl) (vin_lit 0 4 rfl rfl) dX5_finish_59 ?_
      refine lv_if_le (tgt := 74) hx hb dX5_finish_60 (by decide) (fun c41 => ?_) (fun c41 => ?_)
      · replace hf := hf.1 c41
        refine lv_iconst (v := 0) hx hb dX5_finish_74 (by decide) ?_
        exact j_X5_finish_75_0 C0 a K (u40.1, va_up u40.2.1 6 (upd (u40.2.1 6) 0 (((u40.2.1 6) 0) + 1)), u40.2.2) v1 v2 0 0 H locs ls hP hD hS (lv_sub hl [0, 1, 2, 3] rfl) hf
      · replace hf := hf.2 c41
        refine lv_aload_n hx hb dX5_finish_63 rfl (lv_at hl 0 rfl) ?_
        refine va_get (D := (dC, dI)) (ci := 5) (v := .ref (a 4)) (C := RX5) (T := TX5) (N := 35) hx hb hts hinX5 hown hK.1 hP 0 rfl rfl 4 (by decide) w13 (fun _ h9 => h9) rfl dX5_finish_64 ?_
        refine lv_iload_n hx hb dX5_finish_67 rfl (lv_at hl 3 rfl) ?_
        refine ar_ild (f := (u40.2.1 4)) (j := 0) hx hb hK.1 hP 2 0 rfl rfl (clamp_lit 0 rfl) (vin_lit 0 4 rfl rfl) dX5_finish_68 ?_
        refine lv_iconst (v := 1) hx hb dX5_finish_69 (by decide) ?_
        refine lv_isub hx hb dX5_finish_70 ?_
        refine lv_goto (tgt := 75) hx hb dX5_finish_71 (by decide) ?_
        exact j_X5_finish_75_0 C0 a K (u40.1, va_up u40.2.1 6 (upd (u40.2.1 6) 0 (((u40.2.1 6) 0) + 1)), u40.2.2) v1 v2 (((u40.2.1 4) 0) - 1) 0 H locs ls hP hD hS (lv_sub hl [0, 1, 2, 3] rfl) hf
set_option maxHeartbeats 4000000 in
set_option maxRecDepth 100000 in
theorem c_X5_finish (l : Launch) (dC : Nat → ClassId) (dI : Nat → Nat → Nat) (y : Nat → ClassId) (a : Nat → Nat) (sz : Nat) (S : ModelS) (p0 : Int32) (K : ModelS → Prop) (hf : wp_X5_finish S p0 K) : MV l yX5_finish wsX5_finish { frames := 3, cells := 0, slots := 0, locals := 72 } dC dI y [.ref (a 0), .int p0] (mdW y a S) sz (fun u => mdW y a u) K := by
  refine Met.ofW (cc := cX5_finish) (maxL := 4) (ret := none) (by decide) rfl ?_
  intro p e s m args below meth c s₁ B hml hv
  obtain ⟨rfl, hsz, hP, hK, hD0⟩ := hv
  have hx := B.exec
  have hb := B.bytes
  have hr := B.returns
  have hts := atoms_spec (ws := wsX5_finish) B.pre
  have hown : s.vm.findClass RX5 = some m.cls := findClass_of_methodNamed B.named
  have hlocks := B.notSynchronized
  subst hsz
  have hD := hD0.self (sz := s.heap.size)
  generalize hAe : va_A (mdW y a S) s.heap.size = A at hD ⊢
  have hA : ∀ q : Nat, s.heap.size ≤ q → A q := fun q h => by rw [← hAe]; exact Or.inr h
  have hS : va_S A s.heap s.heap [] := va_S.rf
  have C0 : Cx p s m [.ref (a 0), .int p0].toArray meth c cX5_finish 4 none wsX5_finish RX5 A dC dI y := ⟨hx, hb, hr, hml, hown, hts, hlocks, hA, hK⟩
  have hl := lv_entry ([.ref (a 0), .int p0]) (n := 4) (Nat.le_of_ble_eq_true rfl)
  rw [lg_entry_eq]
  generalize (lg_sl ([.ref (a 0), .int p0]) ++ List.replicate (4 - (lg_sl ([.ref (a 0), .int p0])).length) Slot.unset).toArray = ls at hl ⊢
  have hl : lv_has ls 4 [(0, .ref (a 0)), (1, .int p0)] := hl
  obtain ⟨mI, mA, mL⟩ := S
  clear hAe hD0
  generalize hL0 : ([] : List Loc) = locs at hS ⊢
  unfold wp_X5_finish at hf
  refine lv_iconst (v := 0) hx hb dX5_finish_0 (by decide) ?_
  refine lv_istore_n (lv' := [(2, .int 0), (0, .ref (a 0)), (1, .int p0)]) hx hb dX5_finish_1 rfl hl (by decide) rfl (fun ls hl => ?_)
  refine lv_iconst (v := 0) hx hb dX5_finish_2 (by decide) ?_
  refine lv_istore_n (lv' := [(3, .int 0), (2, .int 0), (0, .ref (a 0)), (1, .int p0)]) hx hb dX5_finish_3 rfl hl (by decide) rfl (fun ls hl => ?_)
  exact j_X5_finish_4_0 C0 a K (mI, mA, mL) p0 0 s.heap locs ls hP hD hS (lv_sub hl [2, 3, 1, 0] rfl) hf
