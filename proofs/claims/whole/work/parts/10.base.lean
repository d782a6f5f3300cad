/-! the base: array classes, nest words, worlds side by side, contracts, calls -/
/-- array classes: 0 int, 1 long, 2 boolean, 3 Frame, 4 Node -/
abbrev ty5 (y : Nat → ClassId) : List (ClassId × FieldType) := [(y 0, .int), (y 1, .long), (y 2, .boolean), (y 3, .object RX0), (y 4, .object RX2)]
def NW (U : State) : Prop := va_Nw (.methodLinkNest RX4 31 yX1_init RX4) U ∧ va_Nw (.methodLinkNest RX4 38 yX3_init RX4) U ∧ va_Nw (.methodLinkNest RX3 11 yX0_init RX4) U ∧ va_Nw (.methodLinkNest RX2 17 yX0_init RX4) U ∧ va_Nw (.methodLinkNest RX2 24 yX1_init RX4) U ∧ va_Nw (.methodLinkNest RX2 31 yX3_init RX4) U ∧ va_Nw (.methodLinkNest RX3 59 yX4_nextCheck RX4) U ∧ va_Nw (.methodLinkNest RX1 65 yX4_nextCheck RX4) U
theorem NW.warm {s U : State} (hW : s.WarmedH U.vm) (h : NW s) : NW U := by
  obtain ⟨h1, h2, h3, h4, h5, h6, h7, h8⟩ := h
  exact ⟨va_Nw.warmM hW h1, va_Nw.warmM hW h2, va_Nw.warmM hW h3, va_Nw.warmM hW h4, va_Nw.warmM hW h5, va_Nw.warmM hW h6, va_Nw.warmM hW h7, va_Nw.warmM hW h8⟩
theorem NW.same {u U : State} (hv : u.vm = U.vm) (h : NW u) : NW U := by
  obtain ⟨h1, h2, h3, h4, h5, h6, h7, h8⟩ := h
  exact ⟨va_Nw.same rfl hv h1, va_Nw.same rfl hv h2, va_Nw.same rfl hv h3, va_Nw.same rfl hv h4, va_Nw.same rfl hv h5, va_Nw.same rfl hv h6, va_Nw.same rfl hv h7, va_Nw.same rfl hv h8⟩
/-- what the tables say: classes, array classes, nest words -/
def KW (dC : Nat → ClassId) (dI : Nat → Nat → Nat) (y : Nat → ClassId) (U : State) : Prop := va_K (dC, dI) vwCl (ty5 y) U ∧ NW U
theorem KW.warm {dC : Nat → ClassId} {dI : Nat → Nat → Nat} {y : Nat → ClassId} {s U : State} (hW : s.WarmedH U.vm) (h : KW dC dI y s) : KW dC dI y U := ⟨va_K.moved hW.alike h.1, h.2.warm hW⟩
/-- a contract's start: the world w at the heap of size sz -/
def PW (dC : Nat → ClassId) (dI : Nat → Nat → Nat) (y : Nat → ClassId) (av : List Value) (w : va_W) (sz : Nat) : Array Value → State → Prop := va_Pc av (fun U => U.heap.size = sz ∧ va_P (dC, dI) vwCl w U.heap ∧ KW dC dI y U ∧ va_D (fun _ => True) w)
theorem PW.blind {dC : Nat → ClassId} {dI : Nat → Nat → Nat} {y : Nat → ClassId} {av : List Value} {w : va_W} {sz : Nat} : FrameBlind (PW dC dI y av w sz) := by
  intro a U g mk q
  obtain ⟨q0, q1, qP, qK, qD⟩ := q
  exact ⟨q0, q1, qP, ⟨va_K.moved (u := U) (U := U.calling g mk a) (Vm.Alike.refl U.vm) qK.1, NW.same (u := U) rfl qK.2⟩, qD⟩
/-- a contract's end: the world of u -/
def BW {S : Type} (dC : Nat → ClassId) (dI : Nat → Nat → Nat) (A : Nat → Prop) (world : S → va_W) : S → State → Prop := fun u t => va_P (dC, dI) vwCl (world u) t.heap ∧ va_D A (world u)
def MI {S : Type} (l : Launch) (x : MethodName) (ws : List Cond) (rm : Room) (dC : Nat → ClassId) (dI : Nat → Nat → Nat) (y : Nat → ClassId) (av : List Value) (w : va_W) (sz : Nat) (world : S → va_W) (K : Int32 → S → Prop) : Prop := Met l x ws rm (PW dC dI y av w sz) (va_Qi K (BW dC dI (va_A w sz) world) (va_A w sz)) 0 0 (va_A w sz)
def ML {S : Type} (l : Launch) (x : MethodName) (ws : List Cond) (rm : Room) (dC : Nat → ClassId) (dI : Nat → Nat → Nat) (y : Nat → ClassId) (av : List Value) (w : va_W) (sz : Nat) (world : S → va_W) (K : Int64 → S → Prop) : Prop := Met l x ws rm (PW dC dI y av w sz) (va_Ql K (BW dC dI (va_A w sz) world) (va_A w sz)) 0 0 (va_A w sz)
def MV {S : Type} (l : Launch) (x : MethodName) (ws : List Cond) (rm : Room) (dC : Nat → ClassId) (dI : Nat → Nat → Nat) (y : Nat → ClassId) (av : List Value) (w : va_W) (sz : Nat) (world : S → va_W) (K : S → Prop) : Prop := Met l x ws rm (PW dC dI y av w sz) (va_Qv K (BW dC dI (va_A w sz) world) (va_A w sz)) 0 0 (va_A w sz)
/-! worlds side by side -/
theorem va_P.left {D : va_G} {cl : List vw_C} {w1 w2 : va_W} {H : Heap} (h : va_P D cl (w1 ++ w2) H) : va_P D cl w1 H := fun k q hk => h k q (by rw [List.getElem?_append_left (List.getElem?_eq_some_iff.mp hk).1]; exact hk)
theorem va_P.right {D : va_G} {cl : List vw_C} {w1 w2 : va_W} {H : Heap} (h : va_P D cl (w1 ++ w2) H) : va_P D cl w2 H := fun k q hk => h (w1.length + k) q (by rw [List.getElem?_append_right (Nat.le_add_right _ _), Nat.add_sub_cancel_left]; exact hk)
theorem va_D.left {A : Nat → Prop} {w1 w2 : va_W} (h : va_D A (w1 ++ w2)) : va_D A w1 := by
  have e : ∀ (k : Nat) (q : Nat × va_E), w1[k]? = some q → (w1 ++ w2)[k]? = some q := fun k q hk => by rw [List.getElem?_append_left (List.getElem?_eq_some_iff.mp hk).1]; exact hk
  exact ⟨fun i j p q hi hj hpq => h.1 i j p q (e i p hi) (e j q hj) hpq, fun k q hk => h.2 k q (e k q hk)⟩
theorem va_D.right {A : Nat → Prop} {w1 w2 : va_W} (h : va_D A (w1 ++ w2)) : va_D A w2 := by
  have e : ∀ (k : Nat) (q : Nat × va_E), w2[k]? = some q → (w1 ++ w2)[w1.length + k]? = some q := fun k q hk => by rw [List.getElem?_append_right (Nat.le_add_right _ _), Nat.add_sub_cancel_left]; exact hk
  exact ⟨fun i j p q hi hj hpq => by have := h.1 _ _ p q (e i p hi) (e j q hj) hpq; omega, fun k q hk => h.2 _ q (e k q hk)⟩
theorem va_D.apart {A : Nat → Prop} {w1 w2 : va_W} (h : va_D A (w1 ++ w2)) {i j : Nat} {p q : Nat × va_E} (hi : w1[i]? = some p) (hj : w2[j]? = some q) : p.1 ≠ q.1 := by
  intro hpq
  have hl := (List.getElem?_eq_some_iff.mp hi).1
  have := h.1 i (w1.length + j) p q (by rw [List.getElem?_append_left hl]; exact hi) (by rw [List.getElem?_append_right (Nat.le_add_right _ _), Nat.add_sub_cancel_left]; exact hj) hpq
  omega
/-- what stands beside a block stays, if only the block's cells (and new ones) change -/
theorem wj_keep {D : va_G} {cl : List vw_C} {blk oth : va_W} {H H1 : Heap} (hP : va_P D cl oth H) (hap : ∀ (i j : Nat) (p q : Nat × va_E), oth[i]? = some p → blk[j]? = some q → p.1 ≠ q.1) (hk : ∀ q : Nat, q < H.size → ¬ va_A blk H.size q → H1[q]? = H[q]?) :
    va_P D cl oth H1 ∧ ∀ (k : Nat) (q : Nat × va_E), oth[k]? = some q → ¬ va_A blk H.size q.1 := by
  have key : ∀ (k : Nat) (q : Nat × va_E), oth[k]? = some q → ¬ va_A blk H.size q.1 := by
    intro k q hq h
    have hl := (hP k q hq).lt
    rcases h with ⟨j, e, h⟩ | h
    · exact hap k j q (q.1, e) hq h rfl
    · omega
  exact ⟨fun k q hq => (hP k q hq).kept (hk q.1 (hP k q hq).lt (key k q hq)), key⟩
theorem wj_mid {A0 : Nat → Prop} {D : va_G} {cl : List vw_C} {pre blk post w1 : va_W} {H H1 : Heap} (hP : va_P D cl (pre ++ (blk ++ post)) H) (hD : va_D A0 (pre ++ (blk ++ post))) (hk : ∀ q : Nat, q < H.size → ¬ va_A blk H.size q → H1[q]? = H[q]?) (hF : ∀ q, va_A blk H.size q → A0 q) (hP1 : va_P D cl w1 H1) (hD1 : va_D (va_A blk H.size) w1) :
    va_P D cl (pre ++ (w1 ++ post)) H1 ∧ va_D A0 (pre ++ (w1 ++ post)) := by
  have apre : ∀ (i j : Nat) (p q : Nat × va_E), pre[i]? = some p → blk[j]? = some q → p.1 ≠ q.1 := fun i j p q hi hj => hD.apart hi (by rw [List.getElem?_append_left (List.getElem?_eq_some_iff.mp hj).1]; exact hj)
  have apost : ∀ (i j : Nat) (p q : Nat × va_E), post[i]? = some p → blk[j]? = some q → p.1 ≠ q.1 := fun i j p q hi hj h => hD.right.apart hj hi h.symm
  obtain ⟨k1, n1⟩ := wj_keep hP.left apre hk
  obtain ⟨k2, n2⟩ := wj_keep hP.right.right apost hk
  have d1 : va_D A0 w1 := hD1.weaken (fun _ _ _ h => hF _ h)
  have dr : va_D A0 (w1 ++ post) := va_D.app d1 hD.right.right (fun i j p q hi hj h => n2 j q hj (by rw [← h]; exact hD1.2 i p hi))
  refine ⟨k1.app (hP1.app k2), va_D.app hD.left dr (fun i j p q hi hj h => ?_)⟩
  by_cases hl : j < w1.length
  · rw [List.getElem?_append_left hl] at hj
    exact n1 i p hi (by rw [h]; exact hD1.2 j q hj)
  · rw [List.getElem?_append_right (by omega)] at hj
    exact hD.apart hi (j := blk.length + (j - w1.length)) (by rw [List.getElem?_append_right (Nat.le_add_right _ _), Nat.add_sub_cancel_left]; exact hj) h
theorem wj_free {A0 : Nat → Prop} {pre blk post : va_W} {H0 H : Heap} {locs : List Loc} (hD : va_D A0 (pre ++ (blk ++ post))) (hS : va_S A0 H0 H locs) (hA : ∀ q, H0.size ≤ q → A0 q) : ∀ q, va_A blk H.size q → A0 q := by
  intro q h
  rcases h with ⟨k, e, h⟩ | h
  · exact hD.right.left.2 k (q, e) h
  · exact hA q (Nat.le_trans hS.1 h)
theorem PW.of {dC : Nat → ClassId} {dI : Nat → Nat → Nat} {y : Nat → ClassId} {As : List Value} {pre blk post : va_W} {A0 : Nat → Prop} {s : State} {H : Heap} (hP : va_P (dC, dI) vwCl (pre ++ (blk ++ post)) H) (hD : va_D A0 (pre ++ (blk ++ post))) (hK : KW dC dI y s) : ∀ U : State, U.heap = H → s.WarmedH U.vm → PW dC dI y As blk H.size As.toArray U :=
  fun U hU hW => ⟨rfl, by rw [hU], by rw [hU]; exact hP.right.left, hK.warm hW, hD.right.left.weaken (fun _ _ _ _ => trivial)⟩
section KC
variable {p : Program} {l : Launch} {e : Env} {R : Room} {s : State} {m : MethodId} {args : Array Value} {below : List Frame} {meth : Method} {c : Code} {H : Heap} {locs : List Loc} {cells slots : Nat} {Q : State → Prop}
variable {x : MethodName} {bytes cc : ByteArray} {maxL nL n index : Nat} {ret : Option FieldType} {wsc : List Cond} {rm : Room} {Ts : List Cond} {own C host : String} {b : Addr} {As rest st0 : List Value} {pc : Nat} {ls : Array Slot}
variable {dC : Nat → ClassId} {dI : Nat → Nat → Nat} {y : Nat → ClassId} {pre blk post : va_W} {A0 : Nat → Prop} {H0 : Heap} {S : Type} {world : S → va_W}
theorem kVi {K : Int32 → S → Prop} (Sx : CallFix p m c cc nL s args Ts own) (hM : MI l x wsc rm dC dI y (.ref b :: As) blk H.size world K) (cw : CallW R s args own C index x bytes maxL ret wsc rm 0 0 n) (hK : KW dC dI y s)
    (hP : va_P (dC, dI) vwCl (pre ++ (blk ++ post)) H) (hD : va_D A0 (pre ++ (blk ++ post))) (hrv : ∃ cell : Cell, H[b]? = some cell ∧ cell.vm.isStatics = false ∧ s.vm.findClass C = some cell.cls) (hS : va_S A0 H0 H locs) (hA : ∀ q, H0.size ≤ q → A0 q)
    (hn : As.length = n) (hsize : ls.size = nL) (hstk : st0 = As.reverse ++ .ref b :: rest) (hW : (rest.map fun v => v.category).sum ≤ 8) (hdg : decode cc pc = .ok (.invokevirtual index, 3)) (hc : cells ≤ R.cells ∧ slots ≤ R.slots)
    (kk : ∀ (r : Int32) (u : S) (H1 : Heap) (locs1 : List Loc), K r u → va_P (dC, dI) vwCl (pre ++ (world u ++ post)) H1 → va_D A0 (pre ++ (world u ++ post)) → va_S A0 H0 H1 locs1 → W p l e R s m args below meth c H1 locs1 cells slots Q (F0 m (pc + 3) ls (.int r :: rest))) : W p l e R s m args below meth c H locs cells slots Q (F0 m pc ls st0) := by
  have hF := wj_free hD hS hA
  refine va_calli (va_runV (As := As) (rest := rest) Sx hM cw ⟨PW.blind, hrv, PW.of hP hD hK⟩ rfl hn hsize hstk (lv_room hW) hdg hc) hS (fun q _ h => hF q h) hF (fun r u t H1 locs1 ht hvm hw hB hz hk hS1 => ?_)
  obtain ⟨hP1, hD1⟩ := hB
  rw [ht] at hP1
  obtain ⟨hP2, hD2⟩ := wj_mid hP hD hk hF hP1 hD1
  exact kk r u H1 locs1 hw hP2 hD2 hS1
theorem kVl {K : Int64 → S → Prop} (Sx : CallFix p m c cc nL s args Ts own) (hM : ML l x wsc rm dC dI y (.ref b :: As) blk H.size world K) (cw : CallW R s args own C index x bytes maxL ret wsc rm 0 0 n) (hK : KW dC dI y s)
    (hP : va_P (dC, dI) vwCl (pre ++ (blk ++ post)) H) (hD : va_D A0 (pre ++ (blk ++ post))) (hrv : ∃ cell : Cell, H[b]? = some cell ∧ cell.vm.isStatics = false ∧ s.vm.findClass C = some cell.cls) (hS : va_S A0 H0 H locs) (hA : ∀ q, H0.size ≤ q → A0 q)
    (hn : As.length = n) (hsize : ls.size = nL) (hstk : st0 = As.reverse ++ .ref b :: rest) (hW : (rest.map fun v => v.category).sum ≤ 8) (hdg : decode cc pc = .ok (.invokevirtual index, 3)) (hc : cells ≤ R.cells ∧ slots ≤ R.slots)
    (kk : ∀ (r : Int64) (u : S) (H1 : Heap) (locs1 : List Loc), K r u → va_P (dC, dI) vwCl (pre ++ (world u ++ post)) H1 → va_D A0 (pre ++ (world u ++ post)) → va_S A0 H0 H1 locs1 → W p l e R s m args below meth c H1 locs1 cells slots Q (F0 m (pc + 3) ls (.long r :: rest))) : W p l e R s m args below meth c H locs cells slots Q (F0 m pc ls st0) := by
  have hF := wj_free hD hS hA
  refine va_calll (va_runV (As := As) (rest := rest) Sx hM cw ⟨PW.blind, hrv, PW.of hP hD hK⟩ rfl hn hsize hstk (lv_room hW) hdg hc) hS (fun q _ h => hF q h) hF (fun r u t H1 locs1 ht hvm hw hB hz hk hS1 => ?_)
  obtain ⟨hP1, hD1⟩ := hB
  rw [ht] at hP1
  obtain ⟨hP2, hD2⟩ := wj_mid hP hD hk hF hP1 hD1
  exact kk r u H1 locs1 hw hP2 hD2 hS1
theorem kVv {K : S → Prop} (Sx : CallFix p m c cc nL s args Ts own) (hM : MV l x wsc rm dC dI y (.ref b :: As) blk H.size world K) (cw : CallW R s args own C index x bytes maxL ret wsc rm 0 0 n) (hK : KW dC dI y s)
    (hP : va_P (dC, dI) vwCl (pre ++ (blk ++ post)) H) (hD : va_D A0 (pre ++ (blk ++ post))) (hrv : ∃ cell : Cell, H[b]? = some cell ∧ cell.vm.isStatics = false ∧ s.vm.findClass C = some cell.cls) (hS : va_S A0 H0 H locs) (hA : ∀ q, H0.size ≤ q → A0 q)
    (hn : As.length = n) (hsize : ls.size = nL) (hstk : st0 = As.reverse ++ .ref b :: rest) (hW : (rest.map fun v => v.category).sum ≤ 8) (hdg : decode cc pc = .ok (.invokevirtual index, 3)) (hc : cells ≤ R.cells ∧ slots ≤ R.slots)
    (kk : ∀ (u : S) (H1 : Heap) (locs1 : List Loc), K u → va_P (dC, dI) vwCl (pre ++ (world u ++ post)) H1 → va_D A0 (pre ++ (world u ++ post)) → va_S A0 H0 H1 locs1 → W p l e R s m args below meth c H1 locs1 cells slots Q (F0 m (pc + 3) ls rest)) : W p l e R s m args below meth c H locs cells slots Q (F0 m pc ls st0) := by
  have hF := wj_free hD hS hA
  refine va_callv (va_runV (As := As) (rest := rest) Sx hM cw ⟨PW.blind, hrv, PW.of hP hD hK⟩ rfl hn hsize hstk (lv_room hW) hdg hc) hS (fun q _ h => hF q h) hF (fun u t H1 locs1 ht hvm hw hB hz hk hS1 => ?_)
  obtain ⟨hP1, hD1⟩ := hB
  rw [ht] at hP1
  obtain ⟨hP2, hD2⟩ := wj_mid hP hD hk hF hP1 hD1
  exact kk u H1 locs1 hw hP2 hD2 hS1
/-- a static method that sees no cell -/
def MS (l : Launch) (x : MethodName) (ws : List Cond) (rm : Room) (dC : Nat → ClassId) (dI : Nat → Nat → Nat) (y : Nat → ClassId) (av : List Value) (sz : Nat) (K : Int32 → Prop) : Prop := MI (S := Unit) l x ws rm dC dI y av [] sz (fun _ => []) (fun r _ => K r)
theorem wj_nil {A0 : Nat → Prop} {D : va_G} {cl : List vw_C} {ws : va_W} {H H1 : Heap} (hP : va_P D cl ws H) (hk : ∀ q : Nat, q < H.size → ¬ va_A [] H.size q → H1[q]? = H[q]?) : va_P D cl ws H1 :=
  (wj_keep (blk := []) hP (fun _ _ _ _ _ hj => by simp at hj) hk).1
theorem kSi {K : Int32 → Prop} {ws : va_W} (Sx : CallFix p m c cc nL s args Ts own) (hM : MS l x wsc rm dC dI y As H.size K) (cw : CallB R s args own index x bytes maxL ret wsc rm 0 0 n ∧ (Cond.static x).before args s = true) (hK : KW dC dI y s)
    (hP : va_P (dC, dI) vwCl ws H) (hD : va_D A0 ws) (hS : va_S A0 H0 H locs) (hA : ∀ q, H0.size ≤ q → A0 q)
    (hn : As.length = n) (hsize : ls.size = nL) (hstk : st0 = As.reverse ++ rest) (hW : (rest.map fun v => v.category).sum ≤ 8) (hdg : decode cc pc = .ok (.invokestatic index, 3)) (hc : cells ≤ R.cells ∧ slots ≤ R.slots)
    (kk : ∀ (r : Int32) (H1 : Heap) (locs1 : List Loc), K r → va_P (dC, dI) vwCl ws H1 → va_D A0 ws → va_S A0 H0 H1 locs1 → W p l e R s m args below meth c H1 locs1 cells slots Q (F0 m (pc + 3) ls (.int r :: rest))) : W p l e R s m args below meth c H locs cells slots Q (F0 m pc ls st0) := by
  have hF : ∀ q, va_A [] H.size q → A0 q := fun q h => by
    rcases h with ⟨k, e, h⟩ | h
    · simp at h
    · exact hA q (Nat.le_trans hS.1 h)
  refine va_calli (va_runS (As := As) (rest := rest) Sx hM cw ⟨PW.blind, fun U hU hW => ⟨rfl, by rw [hU], fun k q h => by simp at h, hK.warm hW, ⟨fun i j p q h => by simp at h, fun k q h => by simp at h⟩⟩⟩ rfl hn hsize hstk (lv_room hW) hdg hc) hS (fun q _ h => hF q h) hF (fun r u t H1 locs1 ht hvm hw hB hz hk hS1 => ?_)
  exact kk r H1 locs1 hw (wj_nil (A0 := A0) hP hk) hD hS1
theorem kSNi {K : Int32 → Prop} {ws : va_W} (Sx : CallFix p m c cc nL s args Ts own) (hM : MS l x wsc rm dC dI y As H.size K) (cw : va_CN R s args own index x host bytes maxL ret wsc rm 0 0 n ∧ (Cond.static x).before args s = true ∧ True) (hK : KW dC dI y s)
    (hP : va_P (dC, dI) vwCl ws H) (hD : va_D A0 ws) (hS : va_S A0 H0 H locs) (hA : ∀ q, H0.size ≤ q → A0 q)
    (hn : As.length = n) (hsize : ls.size = nL) (hstk : st0 = As.reverse ++ rest) (hW : (rest.map fun v => v.category).sum ≤ 8) (hdg : decode cc pc = .ok (.invokestatic index, 3)) (hc : cells ≤ R.cells ∧ slots ≤ R.slots)
    (kk : ∀ (r : Int32) (H1 : Heap) (locs1 : List Loc), K r → va_P (dC, dI) vwCl ws H1 → va_D A0 ws → va_S A0 H0 H1 locs1 → W p l e R s m args below meth c H1 locs1 cells slots Q (F0 m (pc + 3) ls (.int r :: rest))) : W p l e R s m args below meth c H locs cells slots Q (F0 m pc ls st0) := by
  have hF : ∀ q, va_A [] H.size q → A0 q := fun q h => by
    rcases h with ⟨k, e, h⟩ | h
    · simp at h
    · exact hA q (Nat.le_trans hS.1 h)
  refine va_calli (va_runSN (As := As) (rest := rest) Sx hM cw ⟨PW.blind, fun U hU hW => ⟨rfl, by rw [hU], fun k q h => by simp at h, hK.warm hW, ⟨fun i j p q h => by simp at h, fun k q h => by simp at h⟩⟩⟩ rfl hn hsize hstk (lv_room hW) hdg hc) hS (fun q _ h => hF q h) hF (fun r u t H1 locs1 ht hvm hw hB hz hk hS1 => ?_)
  exact kk r H1 locs1 hw (wj_nil (A0 := A0) hP hk) hD hS1
end KC
