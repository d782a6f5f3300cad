/-! the law's own helpers: methods with a table, that catch -/
theorem Met_ofWH {l : Launch} {y : MethodName} {ws ws' : List Cond} {rm : Room} {Pc : Array Value → State → Prop} {Qc : Array Value → State → Outcome → State → Prop} {mc ms : Nat} {free : Addr → Prop} {cc : ByteArray} {maxL : Nat} {ret : Option FieldType} {hh : List (Nat × Nat × Nat × Nat)}
    (hy : plainName y.cls = true) (hw : ws = Cond.codeWith y cc maxL ret hh :: ws')
    (body : ∀ p e s m args below meth c s₁, BodyLoose p l y (headSpec ws rm) cc maxL ret e s m args below meth c s₁ → c.maxLocals = maxL → c.exceptionTable.toList = tableOf hh → Pc args s →
      W p l e (headSpec ws rm).room s m args below meth c s.heap [] 0 0 (MQ below Qc args s mc ms free) (entryFrame m args maxL)) : Met l y ws rm Pc Qc mc ms free := by
  refine MetFree.of_bodyS (code := cc) (maxLocals := maxL) (ret := ret) hy ?_ ?_
  · intro args s m h hn
    obtain ⟨m9, meth, c, hn9, h1, h2, h3, h4, -, h5, h6, -⟩ := Cond.codeWith_spec (atoms_spec (ws := ws) h _ (by rw [hw]; exact List.mem_cons_self))
    cases hn.symm.trans hn9
    exact ⟨meth, c, h1, h2, h3, h4, h5, h6⟩
  · intro p e s m args below meth c s₁ B hml hP _
    have hh0 : s₁.heap = s.heap := by rw [B.state]; rfl
    have ht := vx_table (x := y) B (atoms_spec (ws := ws) B.pre _ (by rw [hw]; exact List.mem_cons_self))
    obtain ⟨t, a1, o, b1, b2, b3⟩ := body p e s m args below meth c s₁ B hml ht hP s₁ hh0 (Stand.of_body B)
    exact ⟨t, o, a1, b1, b2, ⟨b3.1, b3.2⟩⟩
/-- which exceptions aren't which -/
def CW (U : State) : Prop := va_Nc "java/lang/IllegalArgumentException" "java/lang/IndexOutOfBoundsException" U ∧ va_Nc "java/lang/UnsupportedOperationException" "java/lang/IndexOutOfBoundsException" U ∧ va_Nc "java/lang/UnsupportedOperationException" "java/lang/IllegalArgumentException" U ∧ va_Nc "java/util/NoSuchElementException" "java/lang/IndexOutOfBoundsException" U
theorem CW.moved {u U : State} (hvm : u.vm.Alike U.vm) (h : CW u) : CW U := ⟨h.1.moved hvm, h.2.1.moved hvm, h.2.2.1.moved hvm, h.2.2.2.moved hvm⟩
abbrev ouW (y : Nat → ClassId) (o : Nat) (f : Nat → Int64) : va_W := [(o, .inl (y 1, 1, .inr (.inl f)))]
/-- the class's world and the law's row of one long -/
abbrev woW (y : Nat → ClassId) (a : WireA) (o : Nat) (gs : Nat → Nat → Nat) (S : WireS) (f : Nat → Int64) : va_W := wrW y a gs S ++ ouW y o f
def PL (dC : Nat → ClassId) (dI : Nat → Nat → Nat) (y : Nat → ClassId) (av : List Value) (w : va_W) (sz : Nat) : Array Value → State → Prop := va_Pc av (fun U => U.heap.size = sz ∧ va_P (dC, dI) vwCl w U.heap ∧ KW dC dI y U ∧ XW U ∧ CW U ∧ ZW (va_A w sz) U U.heap ∧ va_D (fun _ => True) w)
theorem PL.blind {dC : Nat → ClassId} {dI : Nat → Nat → Nat} {y : Nat → ClassId} {av : List Value} {w : va_W} {sz : Nat} : FrameBlind (PL dC dI y av w sz) := by
  intro a U g mk q
  obtain ⟨q0, q1, qP, qK, qX, qC, qZ, qD⟩ := q
  exact ⟨q0, q1, qP, ⟨va_K.moved (u := U) (U := U.calling g mk a) (Vm.Alike.refl U.vm) qK.1, NW.same (u := U) rfl qK.2⟩, XW.same (u := U) rfl qX, CW.moved (u := U) (U := U.calling g mk a) (Vm.Alike.refl U.vm) qC, ZW.moved (u := U) (U := U.calling g mk a) (Vm.Alike.refl U.vm) qZ, qD⟩
/-- a helper's contract: its number, the class's state, the row -/
def MW (l : Launch) (x : MethodName) (ws : List Cond) (rm : Room) (dC : Nat → ClassId) (dI : Nat → Nat → Nat) (y : Nat → ClassId) (av : List Value) (a : WireA) (o : Nat) (w : va_W) (sz : Nat) (K : Int32 → WireS → (Nat → Int64) → Prop) : Prop := Met l x ws rm (PL dC dI y av w sz) (va_Qi (fun r (u : WireS × (Nat → Nat → Nat) × (Nat → Int64)) => K r u.1 u.2.2) (BW dC dI (va_A w sz) (fun u => woW y a o u.2.1 u.1 u.2.2)) (va_A w sz)) 1 6 (va_A w sz)
section KX
variable {p : Program} {l : Launch} {e : Env} {R : Room} {s : State} {m : MethodId} {args : Array Value} {below : List Frame} {meth : Method} {c : Code} {H : Heap} {locs : List Loc} {cells slots : Nat} {Q : State → Prop}
variable {x : MethodName} {bytes cc : ByteArray} {maxL nL n index : Nat} {ret : Option FieldType} {wsc : List Cond} {rm : Room} {Ts : List Cond} {own C host : String} {b : Addr} {As rest st0 : List Value} {pc : Nat} {ls : Array Slot}
variable {dC : Nat → ClassId} {dI : Nat → Nat → Nat} {y : Nat → ClassId} {pre blk post : va_W} {A0 : Nat → Prop} {S : Type} {world : S → va_W} {KE : String → S → Prop}
theorem ZW.at {H1 : Heap} {locs1 : List Loc} (hZ : ZW A0 s s.heap) (hS : va_S A0 s.heap H1 locs1) : ZW A0 s H1 := hZ.kept (fun a h1 h2 => hS.2.1 a h1 h2)
theorem PX.of (hP : va_P (dC, dI) vwCl (pre ++ (blk ++ post)) H) (hD : va_D A0 (pre ++ (blk ++ post))) (hK : KW dC dI y s) (hXW : XW s) (hZ : ZW A0 s s.heap) (hS : va_S A0 s.heap H locs) (hF : ∀ q, va_A blk H.size q → A0 q) : ∀ U : State, U.heap = H → s.WarmedH U.vm → PX dC dI y As blk H.size As.toArray U :=
  fun U hU hW => ⟨rfl, by rw [hU], by rw [hU]; exact hP.right.left, hK.warm hW, hXW.warm hW, by rw [hU]; exact ((hZ.at hS).narrow hF).moved hW.alike, hD.right.left.weaken (fun _ _ _ _ => trivial)⟩
theorem kXi {K : Int32 → S → Prop} (Sx : CallFix p m c cc nL s args Ts own) (hM : MIX l x wsc rm dC dI y (.ref b :: As) blk H.size world K KE) (cw : CallW R s args own C index x bytes maxL ret wsc rm 1 6 n) (hK : KW dC dI y s) (hXW : XW s) (hZ : ZW A0 s s.heap)
    (hP : va_P (dC, dI) vwCl (pre ++ (blk ++ post)) H) (hD : va_D A0 (pre ++ (blk ++ post))) (hrv : ∃ cell : Cell, H[b]? = some cell ∧ cell.vm.isStatics = false ∧ s.vm.findClass C = some cell.cls) (hS : va_S A0 s.heap H locs) (hA : ∀ q, s.heap.size ≤ q → A0 q)
    (hn : As.length = n) (hsize : ls.size = nL) (hstk : st0 = As.reverse ++ .ref b :: rest) (hW : (rest.map fun v => v.category).sum ≤ 8) (hdg : decode cc pc = .ok (.invokevirtual index, 3)) (hc : cells + 1 ≤ R.cells ∧ slots + 6 ≤ R.slots)
    (kx : ∀ (E : String) (ce : Cell) (q9 : Addr) (u : S) (H1 : Heap) (locs1 : List Loc), KE E u → va_P (dC, dI) vwCl (pre ++ (world u ++ post)) H1 → va_D A0 (pre ++ (world u ++ post)) → va_S A0 s.heap H1 locs1 → H1[q9]? = some ce → ce.vm = .none → s.vm.findClass E = some ce.cls → vx_W p l e R s m args below meth c H1 locs1 (cells + 1) (slots + 6) Q (F0 m pc ls rest) q9)
    (kk : ∀ (r : Int32) (u : S) (H1 : Heap) (locs1 : List Loc), K r u → va_P (dC, dI) vwCl (pre ++ (world u ++ post)) H1 → va_D A0 (pre ++ (world u ++ post)) → va_S A0 s.heap H1 locs1 → W p l e R s m args below meth c H1 locs1 (cells + 1) (slots + 6) Q (F0 m (pc + 3) ls (.int r :: rest))) : W p l e R s m args below meth c H locs cells slots Q (F0 m pc ls st0) := by
  have hF := wj_free hD hS hA
  refine vx_calli (vx_runV (As := As) (rest := rest) Sx hM cw ⟨PX.blind, hrv, PX.of hP hD hK hXW hZ hS hF⟩ rfl hn hsize hstk (lv_room hW) hdg hc) hS (fun q _ h => hF q h) hF (fun q _ h => hF q h) (fun E ce q9 u t H1 locs1 ht hvm hw hB hz hk hS1 h1 h2 h3 => ?_) (fun r u t H1 locs1 ht hvm hw hB hz hk hS1 => ?_)
  · obtain ⟨hf, hP1, hD1⟩ := hB
    rw [ht] at hP1
    obtain ⟨hP2, hD2⟩ := wj_mid hP hD hk hF hP1 hD1
    exact kx E ce q9 u H1 locs1 hf hP2 hD2 hS1 h1 h2 h3
  · obtain ⟨hP1, hD1⟩ := hB
    rw [ht] at hP1
    obtain ⟨hP2, hD2⟩ := wj_mid hP hD hk hF hP1 hD1
    exact kk r u H1 locs1 hw hP2 hD2 hS1
theorem kXl {K : Int64 → S → Prop} (Sx : CallFix p m c cc nL s args Ts own) (hM : MLX l x wsc rm dC dI y (.ref b :: As) blk H.size world K KE) (cw : CallW R s args own C index x bytes maxL ret wsc rm 1 6 n) (hK : KW dC dI y s) (hXW : XW s) (hZ : ZW A0 s s.heap)
    (hP : va_P (dC, dI) vwCl (pre ++ (blk ++ post)) H) (hD : va_D A0 (pre ++ (blk ++ post))) (hrv : ∃ cell : Cell, H[b]? = some cell ∧ cell.vm.isStatics = false ∧ s.vm.findClass C = some cell.cls) (hS : va_S A0 s.heap H locs) (hA : ∀ q, s.heap.size ≤ q → A0 q)
    (hn : As.length = n) (hsize : ls.size = nL) (hstk : st0 = As.reverse ++ .ref b :: rest) (hW : (rest.map fun v => v.category).sum ≤ 8) (hdg : decode cc pc = .ok (.invokevirtual index, 3)) (hc : cells + 1 ≤ R.cells ∧ slots + 6 ≤ R.slots)
    (kx : ∀ (E : String) (ce : Cell) (q9 : Addr) (u : S) (H1 : Heap) (locs1 : List Loc), KE E u → va_P (dC, dI) vwCl (pre ++ (world u ++ post)) H1 → va_D A0 (pre ++ (world u ++ post)) → va_S A0 s.heap H1 locs1 → H1[q9]? = some ce → ce.vm = .none → s.vm.findClass E = some ce.cls → vx_W p l e R s m args below meth c H1 locs1 (cells + 1) (slots + 6) Q (F0 m pc ls rest) q9)
    (kk : ∀ (r : Int64) (u : S) (H1 : Heap) (locs1 : List Loc), K r u → va_P (dC, dI) vwCl (pre ++ (world u ++ post)) H1 → va_D A0 (pre ++ (world u ++ post)) → va_S A0 s.heap H1 locs1 → W p l e R s m args below meth c H1 locs1 (cells + 1) (slots + 6) Q (F0 m (pc + 3) ls (.long r :: rest))) : W p l e R s m args below meth c H locs cells slots Q (F0 m pc ls st0) := by
  have hF := wj_free hD hS hA
  refine vx_calll (vx_runV (As := As) (rest := rest) Sx hM cw ⟨PX.blind, hrv, PX.of hP hD hK hXW hZ hS hF⟩ rfl hn hsize hstk (lv_room hW) hdg hc) hS (fun q _ h => hF q h) hF (fun q _ h => hF q h) (fun E ce q9 u t H1 locs1 ht hvm hw hB hz hk hS1 h1 h2 h3 => ?_) (fun r u t H1 locs1 ht hvm hw hB hz hk hS1 => ?_)
  · obtain ⟨hf, hP1, hD1⟩ := hB
    rw [ht] at hP1
    obtain ⟨hP2, hD2⟩ := wj_mid hP hD hk hF hP1 hD1
    exact kx E ce q9 u H1 locs1 hf hP2 hD2 hS1 h1 h2 h3
  · obtain ⟨hP1, hD1⟩ := hB
    rw [ht] at hP1
    obtain ⟨hP2, hD2⟩ := wj_mid hP hD hk hF hP1 hD1
    exact kk r u H1 locs1 hw hP2 hD2 hS1
theorem kXv {K : S → Prop} (Sx : CallFix p m c cc nL s args Ts own) (hM : MVX l x wsc rm dC dI y (.ref b :: As) blk H.size world K KE) (cw : CallW R s args own C index x bytes maxL ret wsc rm 1 6 n) (hK : KW dC dI y s) (hXW : XW s) (hZ : ZW A0 s s.heap)
    (hP : va_P (dC, dI) vwCl (pre ++ (blk ++ post)) H) (hD : va_D A0 (pre ++ (blk ++ post))) (hrv : ∃ cell : Cell, H[b]? = some cell ∧ cell.vm.isStatics = false ∧ s.vm.findClass C = some cell.cls) (hS : va_S A0 s.heap H locs) (hA : ∀ q, s.heap.size ≤ q → A0 q)
    (hn : As.length = n) (hsize : ls.size = nL) (hstk : st0 = As.reverse ++ .ref b :: rest) (hW : (rest.map fun v => v.category).sum ≤ 8) (hdg : decode cc pc = .ok (.invokevirtual index, 3)) (hc : cells + 1 ≤ R.cells ∧ slots + 6 ≤ R.slots)
    (kx : ∀ (E : String) (ce : Cell) (q9 : Addr) (u : S) (H1 : Heap) (locs1 : List Loc), KE E u → va_P (dC, dI) vwCl (pre ++ (world u ++ post)) H1 → va_D A0 (pre ++ (world u ++ post)) → va_S A0 s.heap H1 locs1 → H1[q9]? = some ce → ce.vm = .none → s.vm.findClass E = some ce.cls → vx_W p l e R s m args below meth c H1 locs1 (cells + 1) (slots + 6) Q (F0 m pc ls rest) q9)
    (kk : ∀ (u : S) (H1 : Heap) (locs1 : List Loc), K u → va_P (dC, dI) vwCl (pre ++ (world u ++ post)) H1 → va_D A0 (pre ++ (world u ++ post)) → va_S A0 s.heap H1 locs1 → W p l e R s m args below meth c H1 locs1 (cells + 1) (slots + 6) Q (F0 m (pc + 3) ls rest)) : W p l e R s m args below meth c H locs cells slots Q (F0 m pc ls st0) := by
  have hF := wj_free hD hS hA
  refine vx_callv (vx_runV (As := As) (rest := rest) Sx hM cw ⟨PX.blind, hrv, PX.of hP hD hK hXW hZ hS hF⟩ rfl hn hsize hstk (lv_room hW) hdg hc) hS (fun q _ h => hF q h) hF (fun q _ h => hF q h) (fun E ce q9 u t H1 locs1 ht hvm hw hB hz hk hS1 h1 h2 h3 => ?_) (fun u t H1 locs1 ht hvm hw hB hz hk hS1 => ?_)
  · obtain ⟨hf, hP1, hD1⟩ := hB
    rw [ht] at hP1
    obtain ⟨hP2, hD2⟩ := wj_mid hP hD hk hF hP1 hD1
    exact kx E ce q9 u H1 locs1 hf hP2 hD2 hS1 h1 h2 h3
  · obtain ⟨hP1, hD1⟩ := hB
    rw [ht] at hP1
    obtain ⟨hP2, hD2⟩ := wj_mid hP hD hk hF hP1 hD1
    exact kk u H1 locs1 hw hP2 hD2 hS1
end KX
