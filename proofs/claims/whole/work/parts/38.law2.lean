theorem gt_iff {i L : Nat} (hi : i ≤ 4000) (hL : L ≤ 3584) : nI L - 7 < nI i ↔ L < i + 7 := by
  rw [Int32.lt_iff_toInt_lt, show (7 : Int32) = nI 7 from rfl, pk_sub_toInt (by omega) (by omega), nI_toInt (by omega)]
  omega
theorem and15 (x : Int32) : ∃ j : Nat, j < 16 ∧ x &&& 15 = nI j := pk_andE x (m := 15) 4 (by decide)
set_option maxHeartbeats 4000000 in
set_option maxRecDepth 100000 in
/-- THE LAW'S LOOP: at its head, with n calls made, class and reference go together -/
theorem law_loop {p : Program} {l : Launch} {e : Env} {s : State} {m : MethodId} {below : List Frame} {meth : Method} {c : Code} {dC : Nat → ClassId} {dI : Nat → Nat → Nat} {y : Nat → ClassId} {b L : Nat} {xs : Nat → Int32} {Sm : Nat → WireS → ModelS → Prop} (hL : L ≤ 3584) (C0 : lw_At p s m meth c b L xs) (hLC : LCx l dC dI y s) (hOK : OKall Sm) (a : WireA) (o : Nat) (am : Nat → Nat) : ∀ (k n : Nat) (x4 : Int32) (cells slots : Nat) (gs : Nat → Nat → Nat) (S : WireS) (f : Nat → Int64) (M : ModelS) (H : Heap) (locs : List Loc) (ls : Array Slot), 7 * n ≤ L → L < 7 * n + 7 * k → x4 = nI (7 * n) → cells + k ≤ 601024 → slots + 6 * k ≤ 7293033 → Sm n S M → va_P (dC, dI) vwCl (lwW y a o am gs S f M) H → va_D (fun q : Nat => s.heap.size ≤ q) (lwW y a o am gs S f M) → va_S (fun q : Nat => s.heap.size ≤ q) s.heap H locs → lv_has ls 8 [(0, .ref b), (1, .ref a.1), (2, .ref (am 0)), (3, .ref o), (4, .int x4)] → W p l e room_1 s m #[Value.ref b] below meth c H locs cells slots (lw_Z below #[Value.ref b] s) (F0 m 23 ls []) := by
  obtain ⟨hx, hb, hr, hml, hown, hts0, hX, hbl, hlocks, hgv⟩ := id C0
  have hA : ∀ q : Nat, s.heap.size ≤ q → (fun q : Nat => s.heap.size ≤ q) q := fun _ h => h
  have hbA : ¬ (fun q : Nat => s.heap.size ≤ q) b := Nat.not_le.mpr hbl
  intro k
  induction k with
  | zero => intro n x4 cells slots gs S f M H locs ls h1 h2; exact absurd h2 (by omega)
  | succ k ih =>
    intro n x4 cells slots gs S f M H locs ls hi hin ex4 hc1 hc2 hSm hP hD hS hl
    refine lv_iload hx hb dL_law_23 (lv_at hl 4 rfl) ?_
    refine lv_aload_n hx hb dL_law_25 rfl (lv_at hl 0 rfl) ?_
    refine va_slen hx hb hX hbl hbA hS dL_law_26 ?_
    refine lv_bipush (v := 7) hx hb dL_law_27 (by decide) ?_
    refine lv_isub hx hb dL_law_29 ?_
    refine lv_icmp_gt (tgt := 786) hx hb dL_law_30 (by decide) (fun cg => ?_) (fun cg => ?_)
    · refine lv_iconst (v := 1) hx hb dL_law_786 (by decide) ?_
      refine va_forget (fun q hq => hS.2.2 q hq) ?_
      refine W.widen (k := 601024) (n := 7293033) (by omega) (by omega) ?_
      exact lw_ret hx hb hr hlocks dL_law_787
    · have hi7 : 7 * n + 7 ≤ L := by
        rcases Nat.lt_or_ge L (7 * n + 7) with q | q
        · exact absurd (by rw [ex4]; exact (gt_iff (by omega) hL).mpr q) cg
        · exact q
      have hn : n < 512 := by omega
      have hcs : cells + 1 ≤ 601024 ∧ slots + 6 ≤ 7293033 := ⟨by omega, by omega⟩
      have hk : ∀ (gs1 : Nat → Nat → Nat) (S1 : WireS) (f1 : Nat → Int64) (M1 : ModelS) (H1 : Heap) (locs1 : List Loc) (ls1 : Array Slot), Sm (n + 1) S1 M1 → va_P (dC, dI) vwCl (lwW y a o am gs1 S1 f1 M1) H1 → va_D (fun q : Nat => s.heap.size ≤ q) (lwW y a o am gs1 S1 f1 M1) → va_S (fun q : Nat => s.heap.size ≤ q) s.heap H1 locs1 → lv_has ls1 8 [(0, .ref b), (1, .ref a.1), (2, .ref (am 0)), (3, .ref o), (4, .int x4)] → W p l e room_1 s m #[Value.ref b] below meth c H1 locs1 (cells + 1) (slots + 6) (lw_Z below #[Value.ref b] s) (F0 m 780 ls1 []) := by
        intro gs1 S1 f1 M1 H1 locs1 ls1 hSm1 hP1 hD1 hS1 hl1
        obtain ⟨x5, ex5⟩ : ∃ z : Int32, z = x4 + 7 := ⟨_, rfl⟩
        refine lv_iinc (v := x5) (lv' := [(4, .int x5), (0, .ref b), (1, .ref a.1), (2, .ref (am 0)), (3, .ref o)]) hx hb dL_law_780 hl1 (k := 4) rfl (by rw [ex5]; rfl) (by decide) rfl (fun ls hl => ?_)
        refine lv_goto (tgt := 23) hx hb dL_law_783 (by decide) ?_
        exact ih (n + 1) x5 (cells + 1) (slots + 6) gs1 S1 f1 M1 H1 locs1 ls (by omega) (by omega) (by rw [ex5, ex4, show (7 : Int32) = nI 7 from rfl, nI_add, show 7 * n + 7 = 7 * (n + 1) by omega]) (by omega) (by omega) hSm1 hP1 hD1 hS1 (lv_sub hl [1, 2, 3, 4, 0] rfl)
      refine lv_aload_n hx hb dL_law_33 rfl (lv_at hl 0 rfl) ?_
      refine lv_iload hx hb dL_law_34 (lv_at hl 4 rfl) ?_
      refine va_sld hx hb hX hbl hbA hS (vo0 ex4 hi7 hL) dL_law_36 ?_
      refine lv_bipush (v := 15) hx hb dL_law_37 (by decide) ?_
      refine lv_iand hx hb dL_law_39 ?_
      obtain ⟨j, hj, ej⟩ := and15 (xs x4.toNatClampNeg)
      refine fold_i ej ?_
      have hjt : (nI j).toInt = (j : Int) := nI_toInt (by omega)
      by_cases hd : 11 < j
      · refine lv_tableOut (tgt := 780) hx hb dL_law_40 (Or.inr (by rw [hjt]; omega)) (by decide) ?_
        refine W.widen (k := cells + 1) (n := slots + 6) (Nat.le_add_right _ _) (Nat.le_add_right _ _) ?_
        exact hk gs S f M H locs ls (hOK.1 n S M hSm) hP hD hS hl
      · rcases (show j = 0 ∨ j = 1 ∨ j = 2 ∨ j = 3 ∨ j = 4 ∨ j = 5 ∨ j = 6 ∨ j = 7 ∨ j = 8 ∨ j = 9 ∨ j = 10 ∨ j = 11 by omega) with rfl | rfl | rfl | rfl | rfl | rfl | rfl | rfl | rfl | rfl | rfl | rfl
        · refine lv_tableIn (off := 64) (tgt := 104) hx hb dL_law_40 (by rw [hjt]; decide) (by rw [hjt]; decide) (by rw [hjt]; rfl) (by decide) ?_
          exact law_want hL C0 hLC hOK a o am n (7 * n) x4 hn ex4 hi7 cells slots hcs gs S f M hSm H locs ls hP hD hS hl hk
        · refine lv_tableIn (off := 218) (tgt := 258) hx hb dL_law_40 (by rw [hjt]; decide) (by rw [hjt]; decide) (by rw [hjt]; rfl) (by decide) ?_
          exact law_step hL C0 hLC hOK a o am n (7 * n) x4 hn ex4 hi7 cells slots hcs gs S f M hSm H locs ls hP hD hS hl hk
        · refine lv_tableIn (off := 286) (tgt := 326) hx hb dL_law_40 (by rw [hjt]; decide) (by rw [hjt]; decide) (by rw [hjt]; rfl) (by decide) ?_
          exact law_join hL C0 hLC hOK a o am n (7 * n) x4 hn ex4 hi7 cells slots hcs gs S f M hSm H locs ls hP hD hS hl hk
        · refine lv_tableIn (off := 349) (tgt := 389) hx hb dL_law_40 (by rw [hjt]; decide) (by rw [hjt]; decide) (by rw [hjt]; rfl) (by decide) ?_
          exact law_wire hL C0 hLC hOK a o am n (7 * n) x4 hn ex4 hi7 cells slots hcs gs S f M hSm H locs ls hP hD hS hl hk
        · refine lv_tableIn (off := 362) (tgt := 402) hx hb dL_law_40 (by rw [hjt]; decide) (by rw [hjt]; decide) (by rw [hjt]; rfl) (by decide) ?_
          exact law_node hL C0 hLC hOK a o am n (7 * n) x4 hn ex4 hi7 cells slots hcs gs S f M hSm H locs ls hP hD hS hl hk
        · refine lv_tableIn (off := 430) (tgt := 470) hx hb dL_law_40 (by rw [hjt]; decide) (by rw [hjt]; decide) (by rw [hjt]; rfl) (by decide) ?_
          exact law_received hL C0 hLC hOK a o am n (7 * n) x4 hn ex4 hi7 cells slots hcs gs S f M hSm H locs ls hP hD hS hl hk
        · refine lv_tableIn (off := 497) (tgt := 537) hx hb dL_law_40 (by rw [hjt]; decide) (by rw [hjt]; decide) (by rw [hjt]; rfl) (by decide) ?_
          exact law_tape hL C0 hLC hOK a o am n (7 * n) x4 hn ex4 hi7 cells slots hcs gs S f M hSm H locs ls hP hD hS hl hk
        · refine lv_tableIn (off := 553) (tgt := 593) hx hb dL_law_40 (by rw [hjt]; decide) (by rw [hjt]; decide) (by rw [hjt]; rfl) (by decide) ?_
          exact law_put hL C0 hLC hOK a o am n (7 * n) x4 hn ex4 hi7 cells slots hcs gs S f M hSm H locs ls hP hD hS hl hk
        · refine lv_tableIn (off := 622) (tgt := 662) hx hb dL_law_40 (by rw [hjt]; decide) (by rw [hjt]; decide) (by rw [hjt]; rfl) (by decide) ?_
          exact law_bit hL C0 hLC hOK a o am n (7 * n) x4 hn ex4 hi7 cells slots hcs gs S f M hSm H locs ls hP hD hS hl hk
        · refine lv_tableIn (off := 678) (tgt := 718) hx hb dL_law_40 (by rw [hjt]; decide) (by rw [hjt]; decide) (by rw [hjt]; rfl) (by decide) ?_
          exact law_flip hL C0 hLC hOK a o am n (7 * n) x4 hn ex4 hi7 cells slots hcs gs S f M hSm H locs ls hP hD hS hl hk
        · refine lv_tableIn (off := 714) (tgt := 754) hx hb dL_law_40 (by rw [hjt]; decide) (by rw [hjt]; decide) (by rw [hjt]; rfl) (by decide) ?_
          exact law_wipe hL C0 hLC hOK a o am n (7 * n) x4 hn ex4 hi7 cells slots hcs gs S f M hSm H locs ls hP hD hS hl hk
        · refine lv_tableIn (off := 727) (tgt := 767) hx hb dL_law_40 (by rw [hjt]; decide) (by rw [hjt]; decide) (by rw [hjt]; rfl) (by decide) ?_
          exact law_read hL C0 hLC hOK a o am n (7 * n) x4 hn ex4 hi7 cells slots hcs gs S f M hSm H locs ls hP hD hS hl hk
section LS
variable {args : Array Value} {s : State}
set_option maxRecDepth 100000 in
theorem NW_of (hts : ∀ w ∈ lw_tbl, w.before args s = true) : NW s := ⟨va_Nw.of rfl (hts (.methodLinkNest RX4 31 yX1_init RX4) (List.mem_of_getElem? (i := 76) rfl)), va_Nw.of rfl (hts (.methodLinkNest RX4 38 yX3_init RX4) (List.mem_of_getElem? (i := 110) rfl)), va_Nw.of rfl (hts (.methodLinkNest RX3 11 yX0_init RX4) (List.mem_of_getElem? (i := 116) rfl)), va_Nw.of rfl (hts (.methodLinkNest RX2 17 yX0_init RX4) (List.mem_of_getElem? (i := 185) rfl)), va_Nw.of rfl (hts (.methodLinkNest RX2 24 yX1_init RX4) (List.mem_of_getElem? (i := 187) rfl)), va_Nw.of rfl (hts (.methodLinkNest RX2 31 yX3_init RX4) (List.mem_of_getElem? (i := 189) rfl)), va_Nw.of rfl (hts (.methodLinkNest RX3 59 yX4_nextCheck RX4) (List.mem_of_getElem? (i := 313) rfl)), va_Nw.of rfl (hts (.methodLinkNest RX1 65 yX4_nextCheck RX4) (List.mem_of_getElem? (i := 500) rfl))⟩
set_option maxRecDepth 100000 in
theorem XW_of (hts : ∀ w ∈ lw_tbl, w.before args s = true) : XW s := ⟨va_Nw.of rfl (hts (.declares (Bundle.init0 "java/lang/RuntimeException")) (List.mem_of_getElem? (i := 347) rfl)), va_Nw.of rfl (hts (.declares (Bundle.init0 "java/lang/Exception")) (List.mem_of_getElem? (i := 349) rfl)), va_Nw.of rfl (hts (.declares (Bundle.init0 Bundle.tN)) (List.mem_of_getElem? (i := 351) rfl)), va_Nw.of rfl (hts (.castable "java/lang/IndexOutOfBoundsException" "java/lang/IndexOutOfBoundsException") (List.mem_of_getElem? (i := 346) rfl)), va_Nw.of rfl (hts (.castable "java/lang/IllegalArgumentException" "java/lang/IllegalArgumentException") (List.mem_of_getElem? (i := 410) rfl)), va_Nw.of rfl (hts (.castable "java/lang/UnsupportedOperationException" "java/lang/UnsupportedOperationException") (List.mem_of_getElem? (i := 425) rfl)), va_Nw.of rfl (hts (.castable "java/util/NoSuchElementException" "java/util/NoSuchElementException") (List.mem_of_getElem? (i := 600) rfl))⟩
set_option maxRecDepth 100000 in
theorem OW_of (hts : ∀ w ∈ lw_tbl, w.before args s = true) : OW s := ⟨va_AO.of (hts (.arrayOver (.object RX0)) (List.mem_of_getElem? (i := 184) rfl)), va_AO.of (hts (.arrayOver (.object RX2)) (List.mem_of_getElem? (i := 73) rfl))⟩
theorem arr_of {ty : FieldType} (h : (Cond.arrayClass ty).before args s = true) : ∃ c : ClassId, ArrOfT s c ty ∧ s.vm.findClass ("[" ++ ty.toString) = some c := by
  obtain ⟨c, k, comp, h1, h2, h3⟩ := Cond.arrayClass_spec h
  exact ⟨c, fun n z => ⟨fun k h => (by cases h), k, h2, comp, h3⟩, h1⟩
theorem arro_of {C : String} (h : (Cond.arrayOver (.object C)).before args s = true) : ∃ c : ClassId, ArrOfT s c (.object C) ∧ va_RA s c (.object C) := by
  obtain ⟨comp, c, k, h1, h2, h3, h4, h5⟩ := Cond.arrayOver_spec h
  exact ⟨c, fun n z => ⟨fun k h => (by cases h), k, h3, comp, h4⟩, k, comp, h3, h4, h1, h5⟩
set_option maxRecDepth 100000 in
set_option maxHeartbeats 4000000 in
theorem KW_of (hts : ∀ w ∈ lw_tbl, w.before args s = true) : ∃ (dC : Nat → ClassId) (dI : Nat → Nat → Nat) (y : Nat → ClassId), KW dC dI y s := by
  obtain ⟨c0, iS0, hKn0⟩ := u_known (C := RX0) (T := TX0) (N := 4) (n := 4) hts inX0 (hts (.instantiable RX0 4) (List.mem_of_getElem? (i := 115) rfl))
  obtain ⟨c1, iS1, hKn1⟩ := u_known (C := RX1) (T := TX1) (N := 8) (n := 8) hts inX1 (hts (.instantiable RX1 8) (List.mem_of_getElem? (i := 75) rfl))
  obtain ⟨c2, iS2, hKn2⟩ := u_known (C := RX2) (T := TX2) (N := 15) (n := 15) hts inX2 (hts (.instantiable RX2 15) (List.mem_of_getElem? (i := 178) rfl))
  obtain ⟨c3, iS3, hKn3⟩ := u_known (C := RX3) (T := TX3) (N := 9) (n := 9) hts inX3 (hts (.instantiable RX3 9) (List.mem_of_getElem? (i := 109) rfl))
  obtain ⟨c4, iS4, hKn4⟩ := u_known (C := RX4) (T := TX4) (N := 7) (n := 7) hts inX4 (hts (.instantiable RX4 7) (List.mem_of_getElem? (i := 65) rfl))
  obtain ⟨c5, iS5, hKn5⟩ := u_known (C := RX5) (T := TX5) (N := 35) (n := 35) hts inX5 (hts (.instantiable RX5 35) (List.mem_of_getElem? (i := 642) rfl))
  obtain ⟨a0, A0, B0⟩ := arr_of (hts (.arrayClass .int) (List.mem_of_getElem? (i := 107) rfl))
  obtain ⟨a1, A1, B1⟩ := arr_of (hts (.arrayClass .long) (List.mem_of_getElem? (i := 754) rfl))
  obtain ⟨a2, A2, B2⟩ := arr_of (hts (.arrayClass .boolean) (List.mem_of_getElem? (i := 753) rfl))
  obtain ⟨a3, A3, B3⟩ := arro_of (hts (.arrayOver (.object RX0)) (List.mem_of_getElem? (i := 184) rfl))
  obtain ⟨a4, A4, B4⟩ := arro_of (hts (.arrayOver (.object RX2)) (List.mem_of_getElem? (i := 73) rfl))
  refine ⟨fun k => if k = 0 then c0 else if k = 1 then c1 else if k = 2 then c2 else if k = 3 then c3 else if k = 4 then c4 else c5, fun k => if k = 0 then iS0 else if k = 1 then iS1 else if k = 2 then iS2 else if k = 3 then iS3 else if k = 4 then iS4 else iS5, fun k => if k = 0 then a0 else if k = 1 then a1 else if k = 2 then a2 else if k = 3 then a3 else a4, ⟨?_, ?_⟩, NW_of hts⟩
  · intro k q hq
    match k, hq with
    | 0, hq => cases hq; exact hKn0
    | 1, hq => cases hq; exact hKn1
    | 2, hq => cases hq; exact hKn2
    | 3, hq => cases hq; exact hKn3
    | 4, hq => cases hq; exact hKn4
    | 5, hq => cases hq; exact hKn5
    | k + 6, hq => simp [vwCl] at hq
  · intro k q hq
    match k, hq with
    | 0, hq => cases hq; exact ⟨A0, B0⟩
    | 1, hq => cases hq; exact ⟨A1, B1⟩
    | 2, hq => cases hq; exact ⟨A2, B2⟩
    | 3, hq => cases hq; exact ⟨A3, B3⟩
    | 4, hq => cases hq; exact ⟨A4, B4⟩
    | k + 5, hq => simp [ty5] at hq
set_option maxRecDepth 100000 in
theorem CW_of (h : (Jvm.Cond.and given_1 narrow_1).before args s = true) : CW s := by
  have hs := flat_of_before _ h
  exact ⟨va_Nc.of (hs (.not (.castable "java/lang/IllegalArgumentException" "java/lang/IndexOutOfBoundsException")) (by decide +kernel)), va_Nc.of (hs (.not (.castable "java/lang/UnsupportedOperationException" "java/lang/IndexOutOfBoundsException")) (by decide +kernel)), va_Nc.of (hs (.not (.castable "java/lang/UnsupportedOperationException" "java/lang/IllegalArgumentException")) (by decide +kernel)), va_Nc.of (hs (.not (.castable "java/util/NoSuchElementException" "java/lang/IndexOutOfBoundsException")) (by decide +kernel))⟩
set_option maxRecDepth 100000 in
theorem ZW_of (hts : ∀ w ∈ lw_tbl, w.before args s = true) (h : (Jvm.Cond.and given_1 narrow_1).before args s = true) : ZW (fun q : Nat => s.heap.size ≤ q) s s.heap := by
  have hs := flat_of_before _ h
  have hi := hts (.initialized Bundle.tN) (List.mem_of_getElem? (i := 56) rfl)
  exact ⟨vx_Zqof (hts (.laysStatic Bundle.tN "UNASSIGNED_STACK" Bundle.steD) (List.mem_of_getElem? (i := 371) rfl)) hi (hs (.isRef (.static Bundle.tN "UNASSIGNED_STACK" Bundle.steD)) (by decide +kernel)) (fun a h => Nat.not_le.mpr h), vx_Zqof (hts (.laysStatic Bundle.tN "SUPPRESSED_SENTINEL" Bundle.listD) (List.mem_of_getElem? (i := 373) rfl)) hi (hs (.isRef (.static Bundle.tN "SUPPRESSED_SENTINEL" Bundle.listD)) (by decide +kernel)) (fun a h => Nat.not_le.mpr h)⟩
end LS
theorem dfltX4 : ∀ j, j < 7 → defaultValue (tyX4 j) = vp_V [.null, .int 0, .int 0, .null, .int 0, .null, .null] j := by
  intro j hj
  rcases (show j = 0 ∨ j = 1 ∨ j = 2 ∨ j = 3 ∨ j = 4 ∨ j = 5 ∨ j = 6 by omega) with rfl | rfl | rfl | rfl | rfl | rfl | rfl <;> rfl
theorem dfltX5 : ∀ j, j < 35 → defaultValue (tyX5 j) = vp_V [.int 0, .int 0, .int 0, .null, .null, .null, .null, .null, .null, .null, .null, .null, .null, .null, .null, .null, .null, .null, .null, .null, .null, .null, .null, .null, .int 0, .null, .null, .null, .null, .null, .null, .null, .int 0, .null, .int 0] j := by
  intro j hj
  rcases (show j = 0 ∨ j = 1 ∨ j = 2 ∨ j = 3 ∨ j = 4 ∨ j = 5 ∨ j = 6 ∨ j = 7 ∨ j = 8 ∨ j = 9 ∨ j = 10 ∨ j = 11 ∨ j = 12 ∨ j = 13 ∨ j = 14 ∨ j = 15 ∨ j = 16 ∨ j = 17 ∨ j = 18 ∨ j = 19 ∨ j = 20 ∨ j = 21 ∨ j = 22 ∨ j = 23 ∨ j = 24 ∨ j = 25 ∨ j = 26 ∨ j = 27 ∨ j = 28 ∨ j = 29 ∨ j = 30 ∨ j = 31 ∨ j = 32 ∨ j = 33 ∨ j = 34 by omega) with rfl | rfl | rfl | rfl | rfl | rfl | rfl | rfl | rfl | rfl | rfl | rfl | rfl | rfl | rfl | rfl | rfl | rfl | rfl | rfl | rfl | rfl | rfl | rfl | rfl | rfl | rfl | rfl | rfl | rfl | rfl | rfl | rfl | rfl | rfl <;> rfl
theorem va_D.swap3 {A : Nat → Prop} {w1 w2 w3 : va_W} (h : va_D A ((w1 ++ w2) ++ w3)) : va_D A (w1 ++ (w3 ++ w2)) := by
  refine va_D.app h.left.left (va_D.app h.right h.left.right (fun i j p q hi hj e => h.apart (i := w1.length + j) (by rw [List.getElem?_append_right (Nat.le_add_right _ _), Nat.add_sub_cancel_left]; exact hj) hi e.symm)) (fun i j p q hi hj e => ?_)
  by_cases hl : j < w3.length
  · rw [List.getElem?_append_left hl] at hj
    exact h.apart (i := i) (by rw [List.getElem?_append_left (List.getElem?_eq_some_iff.mp hi).1]; exact hi) hj e
  · rw [List.getElem?_append_right (by omega)] at hj
    exact h.left.apart hi hj e
set_option maxHeartbeats 4000000 in
set_option maxRecDepth 100000 in
/-- THE LAW, from its entry, where class and reference go together -/
theorem start_open {p : Program} {e : Env} {s : State} {m : MethodId} {below : List Frame} {meth : Method} {c : Code} (l : Launch) {b L : Nat} {xs : Nat → Int32} {Sm : Nat → WireS → ModelS → Prop} (hOK : OKall Sm) (hSm0 : Sm 0 wireI modelI) (hst : l.stackTraces = false) (hL : L ≤ 3584) (C0 : lw_At p s m meth c b L xs) : W p l e room_1 s m #[Value.ref b] below meth c s.heap [] 0 0 (lw_Z below #[Value.ref b] s) (entryFrame m ([Value.ref b] : List Value).toArray 8) := by
  obtain ⟨hx, hb, hr, hml, hown, hts0, hX, hbl, hlocks, hgv⟩ := id C0
  have hts := fun w h => hts0 w (wsL_law_in w h)
  have hA : ∀ q : Nat, s.heap.size ≤ q → (fun q : Nat => s.heap.size ≤ q) q := fun _ h => h
  have hbA : ¬ (fun q : Nat => s.heap.size ≤ q) b := Nat.not_le.mpr hbl
  obtain ⟨dC, dI, y, hK⟩ := KW_of hts0
  have hO := OW_of hts0
  have hLC : LCx l dC dI y s := ⟨hK, XW_of hts0, CW_of hgv, hO, ZW_of hts0 hgv, hst⟩
  have hS : va_S (fun q : Nat => s.heap.size ≤ q) s.heap s.heap [] := va_S.rf
  have hP : va_P (dC, dI) vwCl [] s.heap := fun k q h => by simp at h
  have hD : va_D (fun q : Nat => s.heap.size ≤ q) [] := ⟨fun i j p q h => by simp at h, fun k q h => by simp at h⟩
  have hl := lv_entry ([.ref b]) (n := 8) (Nat.le_of_ble_eq_true rfl)
  rw [lg_entry_eq]
  generalize (lg_sl ([.ref b]) ++ List.replicate (8 - (lg_sl ([.ref b])).length) Slot.unset).toArray = ls at hl ⊢
  have hl : lv_has ls 8 [(0, .ref b)] := hl
  refine va_new (ci := 4) (fs := [.null, .int 0, .int 0, .null, .int 0, .null, .null]) (C := RX4) (T := TX4) (N := 7) hx hb hts0 inX4 tyX4 tyX4_ok hown (hts (Cond.classLink RL 8 RX4) (List.mem_append_left _ (List.mem_append_left _ (List.mem_append_left _ (List.mem_append_left _ (List.mem_of_getElem? (i := 0) rfl)))))) (hts (Cond.instantiable RX4 7) (List.mem_append_left _ (List.mem_append_left _ (List.mem_append_left _ (List.mem_append_left _ (List.mem_of_getElem? (i := 1) rfl)))))) (hts (Cond.initialized RX4) (List.mem_append_left _ (List.mem_append_left _ (List.mem_append_left _ (List.mem_append_left _ (List.mem_of_getElem? (i := 2) rfl)))))) hK.1 hP hD hS hA rfl dfltX4 (Nat.le_of_ble_eq_true rfl) (Nat.le_of_ble_eq_true rfl) dL_law_0 (fun q0 H hP hD hS => ?_)
  have hP : va_P (dC, dI) vwCl [(q0, .inr (4, [.null, .int 0, .int 0, .null, .int 0, .null, .null]))] H := hP
  have hD : va_D (fun q : Nat => s.heap.size ≤ q) [(q0, .inr (4, [.null, .int 0, .int 0, .null, .int 0, .null, .null]))] := hD
  refine W.widen (k := 1) (n := 7) (Nat.le_of_ble_eq_true rfl) (Nat.le_of_ble_eq_true rfl) ?_
  refine lv_dup hx hb dL_law_3 rfl ?_
  refine kI (rest := [.ref q0]) (pre := []) (post := []) ⟨hx, hb, hml, hown, hts⟩ (c_X4_init l dC dI y q0 H.size) (cwI 0 hts gL_law_X4_init rfl rfl rfl (hts (Cond.initialized RX4) (List.mem_append_left _ (List.mem_append_left _ (List.mem_append_left _ (List.mem_append_left _ (List.mem_of_getElem? (i := 2) rfl)))))) (hts (Cond.methodLink RL 47 yX4_init) (List.mem_append_left _ (List.mem_append_left _ (List.mem_append_left _ (List.mem_append_left _ (List.mem_of_getElem? (i := 8) rfl)))))) (hts (Cond.instanceMethod yX4_init) (List.mem_append_left _ (List.mem_append_left _ (List.mem_append_left _ (List.mem_append_left _ (List.mem_of_getElem? (i := 9) rfl)))))) rfl (by decide +kernel) ⟨Nat.le_of_ble_eq_true rfl, Nat.le_of_ble_eq_true rfl⟩) hK hO hP hD hS hA hl.1 (Nat.le_of_ble_eq_true rfl) dL_law_4 ⟨Nat.le_of_ble_eq_true rfl, Nat.le_of_ble_eq_true rfl⟩ (fun u H locs hw hP2 hD2 hS2 => ?_)
  subst hw
  have hS := hS2
  have hP : va_P (dC, dI) vwCl (wrW y u.1 u.2 wireI) H := hP2
  have hD : va_D (fun q : Nat => s.heap.size ≤ q) (wrW y u.1 u.2 wireI) := hD2
  refine W.widen (k := 56) (n := 2072) (Nat.le_of_ble_eq_true rfl) (Nat.le_of_ble_eq_true rfl) ?_
  refine lv_astore_n (lv' := [(1, .ref u.1.1), (0, .ref b)]) hx hb dL_law_7 rfl hl (by decide) rfl (fun ls hl => ?_)
  refine va_new (ci := 5) (fs := [.int 0, .int 0, .int 0, .null, .null, .null, .null, .null, .null, .null, .null, .null, .null, .null, .null, .null, .null, .null, .null, .null, .null, .null, .null, .null, .int 0, .null, .null, .null, .null, .null, .null, .null, .int 0, .null, .int 0]) (C := RX5) (T := TX5) (N := 35) hx hb hts0 inX5 tyX5 tyX5_ok hown (hts (Cond.classLink RL 48 RX5) (List.mem_append_left _ (List.mem_append_left _ (List.mem_append_left _ (List.mem_append_left _ (List.mem_of_getElem? (i := 3) rfl)))))) (hts (Cond.instantiable RX5 35) (List.mem_append_left _ (List.mem_append_left _ (List.mem_append_left _ (List.mem_append_left _ (List.mem_of_getElem? (i := 4) rfl)))))) (hts (Cond.initialized RX5) (List.mem_append_left _ (List.mem_append_left _ (List.mem_append_left _ (List.mem_append_left _ (List.mem_of_getElem? (i := 5) rfl)))))) hK.1 hP hD hS hA rfl dfltX5 (Nat.le_of_ble_eq_true rfl) (Nat.le_of_ble_eq_true rfl) dL_law_8 (fun q1 H hP hD hS => ?_)
  refine W.widen (k := 57) (n := 2107) (Nat.le_of_ble_eq_true rfl) (Nat.le_of_ble_eq_true rfl) ?_
  refine lv_dup hx hb dL_law_11 rfl ?_
  have hP : va_P (dC, dI) vwCl (wrW y u.1 u.2 wireI ++ ([(q1, .inr (5, [.int 0, .int 0, .int 0, .null, .null, .null, .null, .null, .null, .null, .null, .null, .null, .null, .null, .null, .null, .null, .null, .null, .null, .null, .null, .null, .int 0, .null, .null, .null, .null, .null, .null, .null, .int 0, .null, .int 0]))] ++ [])) H := hP
  have hD : va_D (fun q : Nat => s.heap.size ≤ q) (wrW y u.1 u.2 wireI ++ ([(q1, .inr (5, [.int 0, .int 0, .int 0, .null, .null, .null, .null, .null, .null, .null, .null, .null, .null, .null, .null, .null, .null, .null, .null, .null, .null, .null, .null, .null, .int 0, .null, .null, .null, .null, .null, .null, .null, .int 0, .null, .int 0]))] ++ [])) := hD
  refine kI (rest := [.ref q1]) (pre := wrW y u.1 u.2 wireI) (post := []) ⟨hx, hb, hml, hown, hts⟩ (c_X5_init l dC dI y q1 H.size) (cwI 0 hts gL_law_X5_init rfl rfl rfl (hts (Cond.initialized RX5) (List.mem_append_left _ (List.mem_append_left _ (List.mem_append_left _ (List.mem_append_left _ (List.mem_of_getElem? (i := 5) rfl)))))) (hts (Cond.methodLink RL 50 yX5_init) (List.mem_append_left _ (List.mem_append_left _ (List.mem_append_left _ (List.mem_append_left _ (List.mem_of_getElem? (i := 86) rfl)))))) (hts (Cond.instanceMethod yX5_init) (List.mem_append_left _ (List.mem_append_left _ (List.mem_append_left _ (List.mem_append_left _ (List.mem_of_getElem? (i := 87) rfl)))))) rfl (by decide +kernel) ⟨Nat.le_of_ble_eq_true rfl, Nat.le_of_ble_eq_true rfl⟩) hK hO hP hD hS hA hl.1 (Nat.le_of_ble_eq_true rfl) dL_law_12 ⟨Nat.le_of_ble_eq_true rfl, Nat.le_of_ble_eq_true rfl⟩ (fun am H locs hw hP2 hD2 hS2 => ?_)
  subst hw
  have hS := hS2
  have hP := hP2
  have hD := hD2
  rw [List.append_nil] at hP hD
  refine W.widen (k := 86) (n := 5237) (Nat.le_of_ble_eq_true rfl) (Nat.le_of_ble_eq_true rfl) ?_
  refine lv_astore_n (lv' := [(2, .ref (am 0)), (1, .ref u.1.1), (0, .ref b)]) hx hb dL_law_15 rfl hl (by decide) rfl (fun ls hl => ?_)
  refine lv_iconst (v := 1) hx hb dL_law_16 (by decide) ?_
  refine nw_long (N' := 1) hx hb (hts (Cond.arrayClass .long) (List.mem_append_left _ (List.mem_append_left _ (List.mem_append_left _ (List.mem_append_left _ (List.mem_of_getElem? (i := 6) rfl)))))) hK hP hD hS hA (by decide) (clamp_lit 1 rfl) (Nat.le_of_ble_eq_true rfl) (Nat.le_of_ble_eq_true rfl) (Nat.le_of_ble_eq_true rfl) dL_law_17 (fun o H hP hD hS => ?_)
  refine W.widen (k := 87) (n := 5238) (Nat.le_of_ble_eq_true rfl) (Nat.le_of_ble_eq_true rfl) ?_
  have hP : va_P (dC, dI) vwCl (lwW y u.1 o am u.2 wireI (fun _ => 0) modelI) H := hP.left.left.app (hP.right.app hP.left.right)
  have hD : va_D (fun q : Nat => s.heap.size ≤ q) (lwW y u.1 o am u.2 wireI (fun _ => 0) modelI) := va_D.swap3 hD
  refine lv_astore_n (lv' := [(3, .ref o), (2, .ref (am 0)), (1, .ref u.1.1), (0, .ref b)]) hx hb dL_law_19 rfl hl (by decide) rfl (fun ls hl => ?_)
  refine lv_iconst (v := 0) hx hb dL_law_20 (by decide) ?_
  refine lv_istore (lv' := [(4, .int 0), (3, .ref o), (2, .ref (am 0)), (1, .ref u.1.1), (0, .ref b)]) hx hb dL_law_21 hl (by decide) rfl (fun ls hl => ?_)
  exact law_loop hL C0 hLC hOK u.1 o am 513 0 0 87 5238 u.2 wireI (fun _ => 0) modelI H locs ls (by omega) (by omega) nI_0.symm (by omega) (by omega) hSm0 hP hD hS (lv_sub hl [4, 3, 2, 1, 0] rfl)
