/-! the states: what the objects hold, without addresses; the worlds: their cells -/
abbrev FrameS : Type := Int32 × Int32 × Int64 × Int32
/-- bits, places, length, head, framed, alike, last, check -/
abbrev LineS : Type := (Nat → Int32) × (Nat → Int32) × Int32 × Int32 × Int32 × Int32 × Int32 × Int32
/-- taken, tail, alike, last, check, checkTaken, sizePlace, checkPlace, frame -/
abbrev ReaderS : Type := Int32 × Int32 × Int32 × Int32 × Int32 × Int32 × Int32 × Int32 × FrameS
/-- on, role, wants, sendingCount, receivingCount, framesSent, framesReceived, lastFault, found, sending, next, wanted, lastReceived, line, reader -/
abbrev NodeS : Type := Int32 × Int32 × Int32 × Int32 × Int32 × Int32 × Int32 × Int32 × Int32 × Int32 × Int32 × (Nat → FrameS) × FrameS × LineS × ReaderS
/-- state, stepsLeft, tapeLength, tapeBits, tapeLine, tapeReader, nodes -/
abbrev WireS : Type := Int32 × Int32 × Int32 × (Nat → Int32) × LineS × ReaderS × (Nat → NodeS)
/-- the reference: its ints, its rows of ints (and booleans), its rows of longs, each by the number of its field -/
abbrev ModelS : Type := (Nat → Int32) × (Nat → Nat → Int32) × (Nat → Nat → Int64)
abbrev frE (F : FrameS) : va_E := .inr (0, [.int F.1, .int F.2.1, .long F.2.2.1, .int F.2.2.2])
abbrev frW (a : Nat) (F : FrameS) : va_W := [(a, frE F)]
abbrev LineA : Type := Nat × Nat × Nat
abbrev lnW (y : Nat → ClassId) (a : LineA) (L : LineS) : va_W := [(a.1, .inr (1, [.ref a.2.1, .ref a.2.2, .int L.2.2.1, .int L.2.2.2.1, .int L.2.2.2.2.1, .int L.2.2.2.2.2.1, .int L.2.2.2.2.2.2.1, .int L.2.2.2.2.2.2.2])), (a.2.1, .inl (y 0, 160, .inl L.1)), (a.2.2, .inl (y 0, 160, .inl L.2.1))]
abbrev ReaderA : Type := Nat × Nat
abbrev rdW (a : ReaderA) (R : ReaderS) : va_W := [(a.1, .inr (3, [.ref a.2, .int R.1, .int R.2.1, .int R.2.2.1, .int R.2.2.2.1, .int R.2.2.2.2.1, .int R.2.2.2.2.2.1, .int R.2.2.2.2.2.2.1, .int R.2.2.2.2.2.2.2.1])), (a.2, frE R.2.2.2.2.2.2.2.2)]
/-- object, row of the wanted, the wanted, lastReceived, line, reader -/
abbrev NodeA : Type := Nat × Nat × (Nat → Nat) × Nat × LineA × ReaderA
abbrev ndW (y : Nat → ClassId) (a : NodeA) (N : NodeS) : va_W := [(a.1, .inr (2, [.ref a.2.1, .ref a.2.2.2.1, .ref a.2.2.2.2.1.1, .ref a.2.2.2.2.2.1, .int N.1, .int N.2.1, .int N.2.2.1, .int N.2.2.2.1, .int N.2.2.2.2.1, .int N.2.2.2.2.2.1, .int N.2.2.2.2.2.2.1, .int N.2.2.2.2.2.2.2.1, .int N.2.2.2.2.2.2.2.2.1, .int N.2.2.2.2.2.2.2.2.2.1, .int N.2.2.2.2.2.2.2.2.2.2.1])), (a.2.1, .inl (y 3, 4, .inr (.inr (.inr (.inr (fun j => some (a.2.2.1 j))))))), (a.2.2.1 0, frE (N.2.2.2.2.2.2.2.2.2.2.2.1 0)), (a.2.2.1 1, frE (N.2.2.2.2.2.2.2.2.2.2.2.1 1)), (a.2.2.1 2, frE (N.2.2.2.2.2.2.2.2.2.2.2.1 2)), (a.2.2.1 3, frE (N.2.2.2.2.2.2.2.2.2.2.2.1 3)), (a.2.2.2.1, frE N.2.2.2.2.2.2.2.2.2.2.2.2.1)] ++ (lnW y a.2.2.2.2.1 N.2.2.2.2.2.2.2.2.2.2.2.2.2.1 ++ rdW a.2.2.2.2.2 N.2.2.2.2.2.2.2.2.2.2.2.2.2.2)
/-- the node at other places of its wanted frames -/
abbrev aw (a : NodeA) (g : Nat → Nat) : NodeA := (a.1, a.2.1, g, a.2.2.2)
/-- the node's cells while its row of the wanted is g -/
abbrev ndX (y : Nat → ClassId) (a : NodeA) (g : Nat → Nat) (N : NodeS) : va_W := [(a.1, .inr (2, [.ref a.2.1, .ref a.2.2.2.1, .ref a.2.2.2.2.1.1, .ref a.2.2.2.2.2.1, .int N.1, .int N.2.1, .int N.2.2.1, .int N.2.2.2.1, .int N.2.2.2.2.1, .int N.2.2.2.2.2.1, .int N.2.2.2.2.2.2.1, .int N.2.2.2.2.2.2.2.1, .int N.2.2.2.2.2.2.2.2.1, .int N.2.2.2.2.2.2.2.2.2.1, .int N.2.2.2.2.2.2.2.2.2.2.1])), (a.2.1, .inl (y 3, 4, .inr (.inr (.inr (.inr (fun j => some (g j))))))), (a.2.2.1 0, frE (N.2.2.2.2.2.2.2.2.2.2.2.1 0)), (a.2.2.1 1, frE (N.2.2.2.2.2.2.2.2.2.2.2.1 1)), (a.2.2.1 2, frE (N.2.2.2.2.2.2.2.2.2.2.2.1 2)), (a.2.2.1 3, frE (N.2.2.2.2.2.2.2.2.2.2.2.1 3)), (a.2.2.2.1, frE N.2.2.2.2.2.2.2.2.2.2.2.2.1)] ++ (lnW y a.2.2.2.2.1 N.2.2.2.2.2.2.2.2.2.2.2.2.2.1 ++ rdW a.2.2.2.2.2 N.2.2.2.2.2.2.2.2.2.2.2.2.2.2)
/-- object, row of the nodes, row of the tape, line, reader, nodes; the nodes' wanted frames stand at gs -/
abbrev WireA : Type := Nat × Nat × Nat × LineA × ReaderA × (Nat → NodeA)
abbrev wrW (y : Nat → ClassId) (a : WireA) (gs : Nat → Nat → Nat) (S : WireS) : va_W := [(a.1, .inr (4, [.ref a.2.1, .int S.1, .int S.2.1, .ref a.2.2.1, .int S.2.2.1, .ref a.2.2.2.1.1, .ref a.2.2.2.2.1.1])), (a.2.1, .inl (y 4, 4, .inr (.inr (.inr (.inr (fun j => some (a.2.2.2.2.2 j).1)))))), (a.2.2.1, .inl (y 0, 200, .inl S.2.2.2.1))] ++ (lnW y a.2.2.2.1 S.2.2.2.2.1 ++ (rdW a.2.2.2.2.1 S.2.2.2.2.2.1 ++ (ndW y (aw (a.2.2.2.2.2 0) (gs 0)) (S.2.2.2.2.2.2 0) ++ (ndW y (aw (a.2.2.2.2.2 1) (gs 1)) (S.2.2.2.2.2.2 1) ++ (ndW y (aw (a.2.2.2.2.2 2) (gs 2)) (S.2.2.2.2.2.2 2) ++ (ndW y (aw (a.2.2.2.2.2 3) (gs 3)) (S.2.2.2.2.2.2 3)))))))
/-- the reference: its object at a 0, the row of field k at a k -/
abbrev mdW (y : Nat → ClassId) (a : Nat → Nat) (M : ModelS) : va_W := [(a 0, .inr (5, [.int (M.1 0), .int (M.1 1), .int (M.1 2), .ref (a 3), .ref (a 4), .ref (a 5), .ref (a 6), .ref (a 7), .ref (a 8), .ref (a 9), .ref (a 10), .ref (a 11), .ref (a 12), .ref (a 13), .ref (a 14), .ref (a 15), .ref (a 16), .ref (a 17), .ref (a 18), .ref (a 19), .ref (a 20), .ref (a 21), .ref (a 22), .ref (a 23), .int (M.1 24), .ref (a 25), .ref (a 26), .ref (a 27), .ref (a 28), .ref (a 29), .ref (a 30), .ref (a 31), .int (M.1 32), .ref (a 33), .int (M.1 34)])), (a 3, .inl (y 0, 4, .inl (M.2.1 3))), (a 4, .inl (y 0, 4, .inl (M.2.1 4))), (a 5, .inl (y 0, 4, .inl (M.2.1 5))), (a 6, .inl (y 0, 4, .inl (M.2.1 6))), (a 7, .inl (y 0, 4, .inl (M.2.1 7))), (a 8, .inl (y 0, 4, .inl (M.2.1 8))), (a 9, .inl (y 0, 4, .inl (M.2.1 9))), (a 10, .inl (y 2, 16, .inl (M.2.1 10))), (a 11, .inl (y 0, 16, .inl (M.2.1 11))), (a 12, .inl (y 1, 16, .inr (.inl (M.2.2 12)))), (a 13, .inl (y 0, 16, .inl (M.2.1 13))), (a 14, .inl (y 2, 4, .inl (M.2.1 14))), (a 15, .inl (y 0, 4, .inl (M.2.1 15))), (a 16, .inl (y 1, 4, .inr (.inl (M.2.2 16)))), (a 17, .inl (y 0, 4, .inl (M.2.1 17))), (a 18, .inl (y 0, 1000, .inl (M.2.1 18))), (a 19, .inl (y 0, 1000, .inl (M.2.1 19))), (a 20, .inl (y 0, 5, .inl (M.2.1 20))), (a 21, .inl (y 0, 4, .inl (M.2.1 21))), (a 22, .inl (y 0, 4, .inl (M.2.1 22))), (a 23, .inl (y 0, 16, .inl (M.2.1 23))), (a 25, .inl (y 0, 640, .inl (M.2.1 25))), (a 26, .inl (y 0, 5, .inl (M.2.1 26))), (a 27, .inl (y 0, 5, .inl (M.2.1 27))), (a 28, .inl (y 0, 5, .inl (M.2.1 28))), (a 29, .inl (y 0, 5, .inl (M.2.1 29))), (a 30, .inl (y 0, 5, .inl (M.2.1 30))), (a 31, .inl (y 0, 200, .inl (M.2.1 31))), (a 33, .inl (y 0, 128, .inl (M.2.1 33)))]
/-- what a boolean field takes as it is -/
def bz (v : Int32) : Prop := narrow .boolean (.int v) = .int v ∧ fits .boolean (.int v) = true
theorem bz_0 : bz 0 := ⟨rfl, rfl⟩
theorem bz_1 : bz 1 := ⟨rfl, rfl⟩
theorem up_some (f : Nat → Nat) (k v : Nat) : va_up (fun j => some (f j)) k (some v) = fun j => some (va_up f k v j) := by
  funext j
  unfold va_up
  split <;> rfl
/-- read-only cells of a start: they stay -/
theorem ro_at {A : Nat → Prop} {D : va_G} {cl : List vw_C} {wr : va_W} {H0 H : Heap} {locs : List Loc} (hS : va_S A H0 H locs) (hP : va_P D cl wr H0) (hn : ∀ (k : Nat) (q : Nat × va_E), wr[k]? = some q → ¬ A q.1) : va_P D cl wr H := hP.kept (fun k q hq => hS.2.1 q.1 (hP k q hq).lt (hn k q hq))
/-- what stands at a method's every point -/
def Cx (p : Program) (s : State) (m : MethodId) (args : Array Value) (meth : Method) (c : Code) (cc : ByteArray) (nL : Nat) (ret : Option FieldType) (ws : List Cond) (own : String) (A : Nat → Prop) (dC : Nat → ClassId) (dI : Nat → Nat → Nat) (y : Nat → ClassId) : Prop :=
  p.tables.exec = Jvm.exec ∧ c.code = cc ∧ meth.sig.returnType = ret ∧ c.maxLocals = nL ∧ s.vm.findClass own = some m.cls ∧ (∀ w ∈ ws, w.before args s = true) ∧ meth.locks = false ∧ (∀ q : Nat, s.heap.size ≤ q → A q) ∧ KW dC dI y s
section AR
variable {p : Program} {l : Launch} {e : Env} {R : Room} {s : State} {m : MethodId} {args : Array Value} {below : List Frame} {meth : Method} {c : Code} {H : Heap} {locs : List Loc} {cells slots : Nat} {Q : State → Prop}
variable {cc : ByteArray} {pc : Nat} {ls : Array Slot} {rest : List Value} {D : va_G} {cl : List vw_C} {A : Nat → Prop} {a : Nat} {tys : List (ClassId × FieldType)} {ws : va_W} {H0 : Heap}
theorem fold_i {x v : Int32} (h : x = v) (k : W p l e R s m args below meth c H locs cells slots Q (F0 m pc ls (.int v :: rest))) : W p l e R s m args below meth c H locs cells slots Q (F0 m pc ls (.int x :: rest)) := h ▸ k
theorem ar_ild (hexec : p.tables.exec = Jvm.exec) (hb : c.code = cc) (hK : va_K D cl tys s) (hP : va_P D cl ws H) (q0 t0 : Nat) {cA : ClassId} {n : Nat} {f : Nat → Int32} (ha : ws[q0]? = some (a, .inl (cA, n, .inl f))) (ht : tys[t0]? = some (cA, .int)) {i : Int32} {j : Nat} (hj : i.toNatClampNeg = j) (hin : vp_in i n) (hdg : decode cc pc = .ok (.iaload, 1))
    (kk : W p l e R s m args below meth c H locs cells slots Q (F0 m (pc + 1) ls (.int (f j) :: rest))) : W p l e R s m args below meth c H locs cells slots Q (F0 m pc ls (.int i :: .ref a :: rest)) := by
  subst hj
  exact va_iald hexec hb hK hP q0 t0 ha ht hin hdg kk
theorem ar_zld (hexec : p.tables.exec = Jvm.exec) (hb : c.code = cc) (hK : va_K D cl tys s) (hP : va_P D cl ws H) (q0 t0 : Nat) {cA : ClassId} {n : Nat} {f : Nat → Int32} (ha : ws[q0]? = some (a, .inl (cA, n, .inl f))) (ht : tys[t0]? = some (cA, .boolean)) {i : Int32} {j : Nat} (hj : i.toNatClampNeg = j) (hin : vp_in i n) (hdg : decode cc pc = .ok (.baload, 1))
    (kk : W p l e R s m args below meth c H locs cells slots Q (F0 m (pc + 1) ls (.int (f j) :: rest))) : W p l e R s m args below meth c H locs cells slots Q (F0 m pc ls (.int i :: .ref a :: rest)) := by
  subst hj
  exact va_zald hexec hb hK hP q0 t0 ha ht hin hdg kk
theorem ar_lld (hexec : p.tables.exec = Jvm.exec) (hb : c.code = cc) (hK : va_K D cl tys s) (hP : va_P D cl ws H) (q0 t0 : Nat) {cA : ClassId} {n : Nat} {f : Nat → Int64} (ha : ws[q0]? = some (a, .inl (cA, n, .inr (.inl f)))) (ht : tys[t0]? = some (cA, .long)) {i : Int32} {j : Nat} (hj : i.toNatClampNeg = j) (hin : vp_in i n) (hdg : decode cc pc = .ok (.laload, 1))
    (kk : W p l e R s m args below meth c H locs cells slots Q (F0 m (pc + 1) ls (.long (f j) :: rest))) : W p l e R s m args below meth c H locs cells slots Q (F0 m pc ls (.int i :: .ref a :: rest)) := by
  subst hj
  exact va_lald hexec hb hK hP q0 t0 ha ht hin hdg kk
theorem ar_qld (hexec : p.tables.exec = Jvm.exec) (hb : c.code = cc) (hK : va_K D cl tys s) (hP : va_P D cl ws H) (q0 t0 : Nat) {cA : ClassId} {C : String} {n : Nat} {f : Nat → Nat} (ha : ws[q0]? = some (a, .inl (cA, n, .inr (.inr (.inr (.inr (fun j => some (f j)))))))) (ht : tys[t0]? = some (cA, .object C)) {i : Int32} {j : Nat} (hj : i.toNatClampNeg = j) (hin : vp_in i n) (hdg : decode cc pc = .ok (.aaload, 1))
    (kk : W p l e R s m args below meth c H locs cells slots Q (F0 m (pc + 1) ls (.ref (f j) :: rest))) : W p l e R s m args below meth c H locs cells slots Q (F0 m pc ls (.int i :: .ref a :: rest)) := by
  subst hj
  exact va_aldq hexec hb hK hP q0 t0 ha ht hin hdg kk
theorem ar_ist (hexec : p.tables.exec = Jvm.exec) (hb : c.code = cc) (hK : va_K D cl tys s) (hP : va_P D cl ws H) (hD : va_D A ws) (hS : va_S A H0 H locs) (q0 t0 : Nat) {cA : ClassId} {n : Nat} {f : Nat → Int32} (ha : ws[q0]? = some (a, .inl (cA, n, .inl f))) (ht : tys[t0]? = some (cA, .int)) {i : Int32} {x : Int32} {j : Nat} (hj : i.toNatClampNeg = j) (hin : vp_in i n) (hdg : decode cc pc = .ok (.iastore, 1))
    (kk : ∀ (H1 : Heap) (locs1 : List Loc), va_P D cl (ws.set q0 (a, .inl (cA, n, .inl (upd f j x)))) H1 → va_D A (ws.set q0 (a, .inl (cA, n, .inl (upd f j x)))) → va_S A H0 H1 locs1 → W p l e R s m args below meth c H1 locs1 cells slots Q (F0 m (pc + 1) ls rest)) : W p l e R s m args below meth c H locs cells slots Q (F0 m pc ls (.int x :: .int i :: .ref a :: rest)) := by
  subst hj
  exact va_iast hexec hb hK hP hD hS q0 t0 ha ht hin hdg kk
theorem nar_bz {v : Int32} (h : bz v) : vp_nar .boolean v = v := by
  unfold vp_nar
  rw [h.1]
theorem ar_zst (hexec : p.tables.exec = Jvm.exec) (hb : c.code = cc) (hK : va_K D cl tys s) (hP : va_P D cl ws H) (hD : va_D A ws) (hS : va_S A H0 H locs) (q0 t0 : Nat) {cA : ClassId} {n : Nat} {f : Nat → Int32} (ha : ws[q0]? = some (a, .inl (cA, n, .inl f))) (ht : tys[t0]? = some (cA, .boolean)) {i : Int32} {x : Int32} {j : Nat} (hj : i.toNatClampNeg = j) (hin : vp_in i n) (hz : bz x) (hdg : decode cc pc = .ok (.bastore, 1))
    (kk : ∀ (H1 : Heap) (locs1 : List Loc), va_P D cl (ws.set q0 (a, .inl (cA, n, .inl (upd f j x)))) H1 → va_D A (ws.set q0 (a, .inl (cA, n, .inl (upd f j x)))) → va_S A H0 H1 locs1 → W p l e R s m args below meth c H1 locs1 cells slots Q (F0 m (pc + 1) ls rest)) : W p l e R s m args below meth c H locs cells slots Q (F0 m pc ls (.int x :: .int i :: .ref a :: rest)) := by
  subst hj
  refine va_zast hexec hb hK hP hD hS q0 t0 ha ht hin hdg ?_
  rw [nar_bz hz]
  exact kk
theorem ar_lst (hexec : p.tables.exec = Jvm.exec) (hb : c.code = cc) (hK : va_K D cl tys s) (hP : va_P D cl ws H) (hD : va_D A ws) (hS : va_S A H0 H locs) (q0 t0 : Nat) {cA : ClassId} {n : Nat} {f : Nat → Int64} (ha : ws[q0]? = some (a, .inl (cA, n, .inr (.inl f)))) (ht : tys[t0]? = some (cA, .long)) {i : Int32} {x : Int64} {j : Nat} (hj : i.toNatClampNeg = j) (hin : vp_in i n) (hdg : decode cc pc = .ok (.lastore, 1))
    (kk : ∀ (H1 : Heap) (locs1 : List Loc), va_P D cl (ws.set q0 (a, .inl (cA, n, .inr (.inl (vp_updL f j x))))) H1 → va_D A (ws.set q0 (a, .inl (cA, n, .inr (.inl (vp_updL f j x))))) → va_S A H0 H1 locs1 → W p l e R s m args below meth c H1 locs1 cells slots Q (F0 m (pc + 1) ls rest)) : W p l e R s m args below meth c H locs cells slots Q (F0 m pc ls (.long x :: .int i :: .ref a :: rest)) := by
  subst hj
  exact va_last hexec hb hK hP hD hS q0 t0 ha ht hin hdg kk
end AR
theorem vin_lit (k N : Nat) (h : Nat.blt k N = true) (hN : Nat.blt N 2147483648 = true) : vp_in (nI k) N := vp_in_nI (Nat.blt_eq.mp h) (Nat.blt_eq.mp hN)
theorem clamp_lit (k : Nat) (hN : Nat.blt k 2147483648 = true) : (nI k).toNatClampNeg = k := nI_clamp (Nat.blt_eq.mp hN)
