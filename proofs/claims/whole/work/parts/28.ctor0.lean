/-! constructors: contracts that make cells, new arrays of known classes, calls of constructors -/
def OW (U : State) : Prop := va_AO RX0 U ∧ va_AO RX2 U
theorem OW.moved {u U : State} (hvm : u.vm.Alike U.vm) (h : OW u) : OW U := ⟨h.1.moved hvm, h.2.moved hvm⟩
def PC (dC : Nat → ClassId) (dI : Nat → Nat → Nat) (y : Nat → ClassId) (av : List Value) (w : va_W) (sz : Nat) : Array Value → State → Prop := va_Pc av (fun U => U.heap.size = sz ∧ va_P (dC, dI) vwCl w U.heap ∧ KW dC dI y U ∧ OW U ∧ va_D (fun _ => True) w)
theorem PC.blind {dC : Nat → ClassId} {dI : Nat → Nat → Nat} {y : Nat → ClassId} {av : List Value} {w : va_W} {sz : Nat} : FrameBlind (PC dC dI y av w sz) := by
  intro a U g mk q
  obtain ⟨q0, q1, qP, qK, qO, qD⟩ := q
  exact ⟨q0, q1, qP, ⟨va_K.moved (u := U) (U := U.calling g mk a) (Vm.Alike.refl U.vm) qK.1, NW.same (u := U) rfl qK.2⟩, OW.moved (u := U) (U := U.calling g mk a) (Vm.Alike.refl U.vm) qO, qD⟩
/-- a constructor: mc cells of ms slots come; the world of u -/
def MC {S : Type} (l : Launch) (x : MethodName) (ws : List Cond) (rm : Room) (dC : Nat → ClassId) (dI : Nat → Nat → Nat) (y : Nat → ClassId) (av : List Value) (w : va_W) (sz : Nat) (world : S → va_W) (K : S → Prop) (mc ms : Nat) : Prop := Met l x ws rm (PC dC dI y av w sz) (va_Qv K (BW dC dI (va_A w sz) world) (va_A w sz)) mc ms (va_A w sz)
theorem PC.of {dC : Nat → ClassId} {dI : Nat → Nat → Nat} {y : Nat → ClassId} {As : List Value} {pre blk post : va_W} {A0 : Nat → Prop} {s : State} {H : Heap} (hP : va_P (dC, dI) vwCl (pre ++ (blk ++ post)) H) (hD : va_D A0 (pre ++ (blk ++ post))) (hK : KW dC dI y s) (hO : OW s) : ∀ U : State, U.heap = H → s.WarmedH U.vm → PC dC dI y As blk H.size As.toArray U :=
  fun U hU hW => ⟨rfl, by rw [hU], by rw [hU]; exact hP.right.left, hK.warm hW, hO.moved hW.alike, hD.right.left.weaken (fun _ _ _ _ => trivial)⟩
theorem arrq_ext (cA : ClassId) {n : Nat} {f g : Nat → Option Nat} (h : ∀ j, j < n → f j = g j) : vp_cell cA (n, .inr (.inr (.inr (.inr f)))) = vp_cell cA (n, .inr (.inr (.inr (.inr g)))) := by
  rw [vp_cell_q, vp_cell_q]
  unfold arrV
  congr 1
  refine Array.ext (by simp) (fun i h1 h2 => ?_)
  simp only [Array.getElem_ofFn]
  rw [h i (by simpa using h1)]
/-- a row of references told by another function, the same where the row is -/
theorem va_P.rowq {D : va_G} {cl : List vw_C} {w1 w2 : va_W} {a : Nat} {cA : ClassId} {n : Nat} {f g : Nat → Option Nat} {H : Heap} (hP : va_P D cl (w1 ++ (a, .inl (cA, n, .inr (.inr (.inr (.inr f))))) :: w2) H) (h : ∀ j, j < n → f j = g j) : va_P D cl (w1 ++ (a, .inl (cA, n, .inr (.inr (.inr (.inr g))))) :: w2) H := by
  intro k q hk
  by_cases hl : k < w1.length
  · rw [List.getElem?_append_left hl] at hk
    exact hP k q (by rw [List.getElem?_append_left hl]; exact hk)
  · rw [List.getElem?_append_right (by omega)] at hk
    cases hj : k - w1.length with
    | zero =>
      rw [hj, List.getElem?_cons_zero] at hk
      cases hk
      have h1 := hP k (a, .inl (cA, n, .inr (.inr (.inr (.inr f))))) (by rw [List.getElem?_append_right (by omega), hj, List.getElem?_cons_zero])
      show H[a]? = some (vp_cell cA (n, .inr (.inr (.inr (.inr g)))))
      rw [← arrq_ext cA h]
      exact h1
    | succ j =>
      rw [hj, List.getElem?_cons_succ] at hk
      exact hP k q (by rw [List.getElem?_append_right (by omega), hj, List.getElem?_cons_succ]; exact hk)
theorem va_D.rowq {A : Nat → Prop} {w1 w2 : va_W} {a : Nat} {e0 e1 : va_E} (hD : va_D A (w1 ++ (a, e0) :: w2)) : va_D A (w1 ++ (a, e1) :: w2) := by
  have h := hD.set (p := w1.length) (a := a) (e0 := e0) (e := e1) (by rw [List.getElem?_append_right (Nat.le_refl _), Nat.sub_self, List.getElem?_cons_zero])
  rwa [List.set_append_right _ _ (Nat.le_refl _), Nat.sub_self, List.set_cons_zero] at h
section CT
variable {p : Program} {l : Launch} {e : Env} {R : Room} {s : State} {m : MethodId} {args : Array Value} {below : List Frame} {meth : Method} {c : Code} {H : Heap} {locs : List Loc} {cells slots : Nat} {Q : State → Prop}
variable {cc : ByteArray} {pc : Nat} {ls : Array Slot} {rest st0 : List Value} {dC : Nat → ClassId} {dI : Nat → Nat → Nat} {y : Nat → ClassId} {A : Nat → Prop} {H0 : Heap} {ws : va_W}
theorem nw_int (hexec : p.tables.exec = Jvm.exec) (hb : c.code = cc) (harr : (Cond.arrayClass .int).before args s = true) (hK : KW dC dI y s) (hP : va_P (dC, dI) vwCl ws H) (hD : va_D A ws) (hS : va_S A H0 H locs) (hA : ∀ q, H0.size ≤ q → A q) {n : Int32} {N' : Nat} (hn : ¬ n < 0) (hN : n.toNatClampNeg = N') (hbytes : N' * componentBytes .int ≤ 536870912) (hcells : cells + 1 ≤ R.cells) (hslots : slots + N' ≤ R.slots) (hdg : decode cc pc = .ok (.newarray .int, 2))
    (kk : ∀ (q : Nat) (H1 : Heap), va_P (dC, dI) vwCl (ws ++ [(q, .inl (y 0, N', .inl (fun _ => 0)))]) H1 → va_D A (ws ++ [(q, .inl (y 0, N', .inl (fun _ => 0)))]) → va_S A H0 H1 locs → W p l e R s m args below meth c H1 locs (cells + 1) (slots + N') Q (F0 m (pc + 2) ls (.ref q :: rest))) : W p l e R s m args below meth c H locs cells slots Q (F0 m pc ls (.int n :: rest)) := by
  refine va_newa (atype := .int) (ty := .int) hexec hb harr rfl hK.1 hP hD hS hA (a0 := (N', .inl (fun _ => 0))) (fun _ => rfl) hn hN hbytes hcells hslots hdg (fun q cA H1 hK' h1 h2 h3 => ?_)
  have e9 : cA = y 0 := Option.some.inj ((show s.vm.findClass _ = some cA from (hK'.2 5 (cA, .int) rfl).2).symm.trans (hK.1.2 0 (y 0, .int) rfl).2)
  subst e9
  exact kk q H1 h1 h2 h3
theorem nw_long (hexec : p.tables.exec = Jvm.exec) (hb : c.code = cc) (harr : (Cond.arrayClass .long).before args s = true) (hK : KW dC dI y s) (hP : va_P (dC, dI) vwCl ws H) (hD : va_D A ws) (hS : va_S A H0 H locs) (hA : ∀ q, H0.size ≤ q → A q) {n : Int32} {N' : Nat} (hn : ¬ n < 0) (hN : n.toNatClampNeg = N') (hbytes : N' * componentBytes .long ≤ 536870912) (hcells : cells + 1 ≤ R.cells) (hslots : slots + N' ≤ R.slots) (hdg : decode cc pc = .ok (.newarray .long, 2))
    (kk : ∀ (q : Nat) (H1 : Heap), va_P (dC, dI) vwCl (ws ++ [(q, .inl (y 1, N', .inr (.inl (fun _ => 0))))]) H1 → va_D A (ws ++ [(q, .inl (y 1, N', .inr (.inl (fun _ => 0))))]) → va_S A H0 H1 locs → W p l e R s m args below meth c H1 locs (cells + 1) (slots + N') Q (F0 m (pc + 2) ls (.ref q :: rest))) : W p l e R s m args below meth c H locs cells slots Q (F0 m pc ls (.int n :: rest)) := by
  refine va_newa (atype := .long) (ty := .long) hexec hb harr rfl hK.1 hP hD hS hA (a0 := (N', .inr (.inl (fun _ => 0)))) (fun _ => rfl) hn hN hbytes hcells hslots hdg (fun q cA H1 hK' h1 h2 h3 => ?_)
  have e9 : cA = y 1 := Option.some.inj ((show s.vm.findClass _ = some cA from (hK'.2 5 (cA, .long) rfl).2).symm.trans (hK.1.2 1 (y 1, .long) rfl).2)
  subst e9
  exact kk q H1 h1 h2 h3
theorem nw_bool (hexec : p.tables.exec = Jvm.exec) (hb : c.code = cc) (harr : (Cond.arrayClass .boolean).before args s = true) (hK : KW dC dI y s) (hP : va_P (dC, dI) vwCl ws H) (hD : va_D A ws) (hS : va_S A H0 H locs) (hA : ∀ q, H0.size ≤ q → A q) {n : Int32} {N' : Nat} (hn : ¬ n < 0) (hN : n.toNatClampNeg = N') (hbytes : N' * componentBytes .boolean ≤ 536870912) (hcells : cells + 1 ≤ R.cells) (hslots : slots + N' ≤ R.slots) (hdg : decode cc pc = .ok (.newarray .boolean, 2))
    (kk : ∀ (q : Nat) (H1 : Heap), va_P (dC, dI) vwCl (ws ++ [(q, .inl (y 2, N', .inl (fun _ => 0)))]) H1 → va_D A (ws ++ [(q, .inl (y 2, N', .inl (fun _ => 0)))]) → va_S A H0 H1 locs → W p l e R s m args below meth c H1 locs (cells + 1) (slots + N') Q (F0 m (pc + 2) ls (.ref q :: rest))) : W p l e R s m args below meth c H locs cells slots Q (F0 m pc ls (.int n :: rest)) := by
  refine va_newa (atype := .boolean) (ty := .boolean) hexec hb harr rfl hK.1 hP hD hS hA (a0 := (N', .inl (fun _ => 0))) (fun _ => rfl) hn hN hbytes hcells hslots hdg (fun q cA H1 hK' h1 h2 h3 => ?_)
  have e9 : cA = y 2 := Option.some.inj ((show s.vm.findClass _ = some cA from (hK'.2 5 (cA, .boolean) rfl).2).symm.trans (hK.1.2 2 (y 2, .boolean) rfl).2)
  subst e9
  exact kk q H1 h1 h2 h3
theorem nw_q {own C : String} {index t0 : Nat} (ht0 : (ty5 y)[t0]? = some (y t0, .object C)) (hexec : p.tables.exec = Jvm.exec) (hb : c.code = cc) (hown : s.vm.findClass own = some m.cls) (hclink : (Cond.classLink own index C).before args s = true) (hover : va_AO C s) (hK : KW dC dI y s) (hP : va_P (dC, dI) vwCl ws H) (hD : va_D A ws) (hS : va_S A H0 H locs) (hA : ∀ q, H0.size ≤ q → A q) {n : Int32} {N' : Nat} (hn : ¬ n < 0) (hN : n.toNatClampNeg = N') (hbytes : N' * 4 ≤ 536870912) (hcells : cells + 1 ≤ R.cells) (hslots : slots + N' ≤ R.slots) (hdg : decode cc pc = .ok (.anewarray index, 3))
    (kk : ∀ (q : Nat) (H1 : Heap), va_P (dC, dI) vwCl (ws ++ [(q, .inl (y t0, N', .inr (.inr (.inr (.inr (fun _ => none))))))]) H1 → va_D A (ws ++ [(q, .inl (y t0, N', .inr (.inr (.inr (.inr (fun _ => none))))))]) → va_S A H0 H1 locs → W p l e R s m args below meth c H1 locs (cells + 1) (slots + N') Q (F0 m (pc + 3) ls (.ref q :: rest))) : W p l e R s m args below meth c H locs cells slots Q (F0 m pc ls (.int n :: rest)) := by
  refine va_newq hexec hb hown hclink hover hK.1 hP hD hS hA hn hN hbytes hcells hslots hdg (fun q cA H1 hK' h1 h2 h3 => ?_)
  have e9 : cA = y t0 := by
    obtain ⟨k1, c1, a1, a2, a3, a4⟩ := (hK'.2 5 (cA, .object C) rfl).2
    obtain ⟨k2, c2, b1, b2, b3, b4⟩ := (hK.1.2 t0 (y t0, .object C) ht0).2
    exact Option.some.inj (a4.symm.trans b4)
  subst e9
  exact kk q H1 h1 h2 h3
variable {x : MethodName} {bytes : ByteArray} {maxL nL index mc ms : Nat} {wsc : List Cond} {rm : Room} {Ts : List Cond} {own host : String} {b : Addr} {pre blk post : va_W} {S : Type} {world : S → va_W}
/-- a constructor is called; its object is the block -/
theorem kIN {K : S → Prop} (Sx : CallFix p m c cc nL s args Ts own) (hM : MC l x wsc rm dC dI y [.ref b] blk H.size world K mc ms) (cw : va_CN R s args own index x host bytes maxL none wsc rm mc ms 0 ∧ x.name = "<init>" ∧ (Cond.instanceMethod x).before args s = true) (hK : KW dC dI y s) (hO : OW s)
    (hP : va_P (dC, dI) vwCl (pre ++ (blk ++ post)) H) (hD : va_D A (pre ++ (blk ++ post))) (hS : va_S A H0 H locs) (hA : ∀ q, H0.size ≤ q → A q)
    (hsize : ls.size = nL) (hW : (rest.map fun v => v.category).sum ≤ 8) (hdg : decode cc pc = .ok (.invokespecial index, 3)) (hc : cells + mc ≤ R.cells ∧ slots + ms ≤ R.slots)
    (kk : ∀ (u : S) (H1 : Heap) (locs1 : List Loc), K u → va_P (dC, dI) vwCl (pre ++ (world u ++ post)) H1 → va_D A (pre ++ (world u ++ post)) → va_S A H0 H1 locs1 → W p l e R s m args below meth c H1 locs1 (cells + mc) (slots + ms) Q (F0 m (pc + 3) ls rest)) : W p l e R s m args below meth c H locs cells slots Q (F0 m pc ls (.ref b :: rest)) := by
  have hF := wj_free hD hS hA
  refine va_callv (va_runIN (As := []) (rest := rest) Sx hM cw ⟨PC.blind, PC.of hP hD hK hO⟩ rfl rfl hsize rfl (lv_room hW) hdg hc) hS (fun q _ h => hF q h) hF (fun u t H1 locs1 ht hvm hw hB hz hk hS1 => ?_)
  obtain ⟨hP1, hD1⟩ := hB
  rw [ht] at hP1
  obtain ⟨hP2, hD2⟩ := wj_mid hP hD hk hF hP1 hD1
  exact kk u H1 locs1 hw hP2 hD2 hS1
theorem kI {K : S → Prop} (Sx : CallFix p m c cc nL s args Ts own) (hM : MC l x wsc rm dC dI y [.ref b] blk H.size world K mc ms) (cw : CallB R s args own index x bytes maxL none wsc rm mc ms 0 ∧ x.name = "<init>" ∧ (Cond.instanceMethod x).before args s = true) (hK : KW dC dI y s) (hO : OW s)
    (hP : va_P (dC, dI) vwCl (pre ++ (blk ++ post)) H) (hD : va_D A (pre ++ (blk ++ post))) (hS : va_S A H0 H locs) (hA : ∀ q, H0.size ≤ q → A q)
    (hsize : ls.size = nL) (hW : (rest.map fun v => v.category).sum ≤ 8) (hdg : decode cc pc = .ok (.invokespecial index, 3)) (hc : cells + mc ≤ R.cells ∧ slots + ms ≤ R.slots)
    (kk : ∀ (u : S) (H1 : Heap) (locs1 : List Loc), K u → va_P (dC, dI) vwCl (pre ++ (world u ++ post)) H1 → va_D A (pre ++ (world u ++ post)) → va_S A H0 H1 locs1 → W p l e R s m args below meth c H1 locs1 (cells + mc) (slots + ms) Q (F0 m (pc + 3) ls rest)) : W p l e R s m args below meth c H locs cells slots Q (F0 m pc ls (.ref b :: rest)) := by
  have hF := wj_free hD hS hA
  refine va_callv (va_runI (As := []) (rest := rest) Sx hM cw ⟨PC.blind, PC.of hP hD hK hO⟩ rfl rfl hsize rfl (lv_room hW) hdg hc) hS (fun q _ h => hF q h) hF (fun u t H1 locs1 ht hvm hw hB hz hk hS1 => ?_)
  obtain ⟨hP1, hD1⟩ := hB
  rw [ht] at hP1
  obtain ⟨hP2, hD2⟩ := wj_mid hP hD hk hF hP1 hD1
  exact kk u H1 locs1 hw hP2 hD2 hS1
end CT
abbrev frameI : FrameS := (0, 0, 0, 0)
abbrev lineI : LineS := (fun _ => 0, fun _ => 0, 0, 0, 0, 0, -1, 0)
abbrev readerI : ReaderS := (0, 0, 0, -1, 0, 0, 15, 19, frameI)
abbrev nodeI : NodeS := (1, 1, 0, 0, 0, 0, 0, 0, 0, 0, 0, fun _ => frameI, frameI, lineI, readerI)
abbrev wireI : WireS := (0, 0, 0, fun _ => 0, lineI, readerI, fun _ => nodeI)
abbrev modelI : ModelS := (fun _ => 0, va_up (fun _ _ => 0) 3 (upd (upd (upd (upd (fun _ => 0) 0 1) 1 1) 2 1) 3 1), fun _ _ => 0)
