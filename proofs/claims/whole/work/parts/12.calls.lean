/-! calls of a method over the caller's whole world; contracts with a read-only world; small rows -/
theorem vin4 {x : Int32} (h : vp_in x 4) : x = 0 ∨ x = 1 ∨ x = 2 ∨ x = 3 := by
  obtain ⟨j, hj, rfl⟩ := vp_in_of h (by decide)
  rcases (show j = 0 ∨ j = 1 ∨ j = 2 ∨ j = 3 by omega) with rfl | rfl | rfl | rfl
  · exact Or.inl rfl
  · exact Or.inr (Or.inl rfl)
  · exact Or.inr (Or.inr (Or.inl rfl))
  · exact Or.inr (Or.inr (Or.inr rfl))
/-- a contract's start with read-only cells wr beside its world -/
def PWR (dC : Nat → ClassId) (dI : Nat → Nat → Nat) (y : Nat → ClassId) (av : List Value) (w wr : va_W) (sz : Nat) : Array Value → State → Prop := va_Pc av (fun U => U.heap.size = sz ∧ va_P (dC, dI) vwCl w U.heap ∧ va_P (dC, dI) vwCl wr U.heap ∧ KW dC dI y U ∧ va_D (fun _ => True) (w ++ wr))
theorem PWR.blind {dC : Nat → ClassId} {dI : Nat → Nat → Nat} {y : Nat → ClassId} {av : List Value} {w wr : va_W} {sz : Nat} : FrameBlind (PWR dC dI y av w wr sz) := by
  intro a U g mk q
  obtain ⟨q0, q1, qP, qR, qK, qD⟩ := q
  exact ⟨q0, q1, qP, qR, ⟨va_K.moved (u := U) (U := U.calling g mk a) (Vm.Alike.refl U.vm) qK.1, NW.same (u := U) rfl qK.2⟩, qD⟩
def MVR {S : Type} (l : Launch) (x : MethodName) (ws : List Cond) (rm : Room) (dC : Nat → ClassId) (dI : Nat → Nat → Nat) (y : Nat → ClassId) (av : List Value) (w wr : va_W) (sz : Nat) (world : S → va_W) (K : S → Prop) : Prop := Met l x ws rm (PWR dC dI y av w wr sz) (va_Qv K (BW dC dI (va_A w sz) world) (va_A w sz)) 0 0 (va_A w sz)
theorem ro_not {D : va_G} {cl : List vw_C} {w wr : va_W} {H : Heap} {A : Nat → Prop} (hR : va_P D cl wr H) (hD : va_D A (w ++ wr)) : ∀ (k : Nat) (q : Nat × va_E), wr[k]? = some q → ¬ va_A w H.size q.1 := by
  intro k q hq h
  rcases h with ⟨j, e, h⟩ | h
  · exact hD.apart h hq rfl
  · have := (hR k q hq).lt
    omega
section KD
variable {p : Program} {l : Launch} {e : Env} {R : Room} {s : State} {m : MethodId} {args : Array Value} {below : List Frame} {meth : Method} {c : Code} {H : Heap} {locs : List Loc} {cells slots : Nat} {Q : State → Prop}
variable {x : MethodName} {bytes cc : ByteArray} {maxL nL n index : Nat} {ret : Option FieldType} {wsc : List Cond} {rm : Room} {Ts : List Cond} {own C host : String} {b : Addr} {As rest st0 : List Value} {pc : Nat} {ls : Array Slot}
variable {dC : Nat → ClassId} {dI : Nat → Nat → Nat} {y : Nat → ClassId} {pre blk post wr : va_W} {A0 : Nat → Prop} {H0 : Heap} {S : Type} {world : S → va_W}
theorem k0i {K : Int32 → S → Prop} (Sx : CallFix p m c cc nL s args Ts own) (hM : MI l x wsc rm dC dI y (.ref b :: As) blk H.size world K) (cw : CallW R s args own C index x bytes maxL ret wsc rm 0 0 n) (hK : KW dC dI y s)
    (hP : va_P (dC, dI) vwCl blk H) (hD : va_D A0 blk) (hrv : ∃ cell : Cell, H[b]? = some cell ∧ cell.vm.isStatics = false ∧ s.vm.findClass C = some cell.cls) (hS : va_S A0 H0 H locs) (hA : ∀ q, H0.size ≤ q → A0 q)
    (hn : As.length = n) (hsize : ls.size = nL) (hstk : st0 = As.reverse ++ .ref b :: rest) (hW : (rest.map fun v => v.category).sum ≤ 8) (hdg : decode cc pc = .ok (.invokevirtual index, 3)) (hc : cells ≤ R.cells ∧ slots ≤ R.slots)
    (kk : ∀ (r : Int32) (u : S) (H1 : Heap) (locs1 : List Loc), K r u → va_P (dC, dI) vwCl (world u) H1 → va_D A0 (world u) → va_S A0 H0 H1 locs1 → W p l e R s m args below meth c H1 locs1 cells slots Q (F0 m (pc + 3) ls (.int r :: rest))) : W p l e R s m args below meth c H locs cells slots Q (F0 m pc ls st0) := by
  refine kVi (pre := []) (post := []) Sx hM cw hK (by rw [List.nil_append, List.append_nil]; exact hP) (by rw [List.nil_append, List.append_nil]; exact hD) hrv hS hA hn hsize hstk hW hdg hc (fun r u H1 locs1 h1 h2 h3 h4 => ?_)
  rw [List.nil_append, List.append_nil] at h2 h3
  exact kk r u H1 locs1 h1 h2 h3 h4
theorem k0l {K : Int64 → S → Prop} (Sx : CallFix p m c cc nL s args Ts own) (hM : ML l x wsc rm dC dI y (.ref b :: As) blk H.size world K) (cw : CallW R s args own C index x bytes maxL ret wsc rm 0 0 n) (hK : KW dC dI y s)
    (hP : va_P (dC, dI) vwCl blk H) (hD : va_D A0 blk) (hrv : ∃ cell : Cell, H[b]? = some cell ∧ cell.vm.isStatics = false ∧ s.vm.findClass C = some cell.cls) (hS : va_S A0 H0 H locs) (hA : ∀ q, H0.size ≤ q → A0 q)
    (hn : As.length = n) (hsize : ls.size = nL) (hstk : st0 = As.reverse ++ .ref b :: rest) (hW : (rest.map fun v => v.category).sum ≤ 8) (hdg : decode cc pc = .ok (.invokevirtual index, 3)) (hc : cells ≤ R.cells ∧ slots ≤ R.slots)
    (kk : ∀ (r : Int64) (u : S) (H1 : Heap) (locs1 : List Loc), K r u → va_P (dC, dI) vwCl (world u) H1 → va_D A0 (world u) → va_S A0 H0 H1 locs1 → W p l e R s m args below meth c H1 locs1 cells slots Q (F0 m (pc + 3) ls (.long r :: rest))) : W p l e R s m args below meth c H locs cells slots Q (F0 m pc ls st0) := by
  refine kVl (pre := []) (post := []) Sx hM cw hK (by rw [List.nil_append, List.append_nil]; exact hP) (by rw [List.nil_append, List.append_nil]; exact hD) hrv hS hA hn hsize hstk hW hdg hc (fun r u H1 locs1 h1 h2 h3 h4 => ?_)
  rw [List.nil_append, List.append_nil] at h2 h3
  exact kk r u H1 locs1 h1 h2 h3 h4
theorem k0v {K : S → Prop} (Sx : CallFix p m c cc nL s args Ts own) (hM : MV l x wsc rm dC dI y (.ref b :: As) blk H.size world K) (cw : CallW R s args own C index x bytes maxL ret wsc rm 0 0 n) (hK : KW dC dI y s)
    (hP : va_P (dC, dI) vwCl blk H) (hD : va_D A0 blk) (hrv : ∃ cell : Cell, H[b]? = some cell ∧ cell.vm.isStatics = false ∧ s.vm.findClass C = some cell.cls) (hS : va_S A0 H0 H locs) (hA : ∀ q, H0.size ≤ q → A0 q)
    (hn : As.length = n) (hsize : ls.size = nL) (hstk : st0 = As.reverse ++ .ref b :: rest) (hW : (rest.map fun v => v.category).sum ≤ 8) (hdg : decode cc pc = .ok (.invokevirtual index, 3)) (hc : cells ≤ R.cells ∧ slots ≤ R.slots)
    (kk : ∀ (u : S) (H1 : Heap) (locs1 : List Loc), K u → va_P (dC, dI) vwCl (world u) H1 → va_D A0 (world u) → va_S A0 H0 H1 locs1 → W p l e R s m args below meth c H1 locs1 cells slots Q (F0 m (pc + 3) ls rest)) : W p l e R s m args below meth c H locs cells slots Q (F0 m pc ls st0) := by
  refine kVv (pre := []) (post := []) Sx hM cw hK (by rw [List.nil_append, List.append_nil]; exact hP) (by rw [List.nil_append, List.append_nil]; exact hD) hrv hS hA hn hsize hstk hW hdg hc (fun u H1 locs1 h1 h2 h3 h4 => ?_)
  rw [List.nil_append, List.append_nil] at h2 h3
  exact kk u H1 locs1 h1 h2 h3 h4
/-- a callee with read-only cells -/
theorem kVvR {K : S → Prop} (Sx : CallFix p m c cc nL s args Ts own) (hM : MVR l x wsc rm dC dI y (.ref b :: As) blk wr H.size world K) (cw : CallW R s args own C index x bytes maxL ret wsc rm 0 0 n) (hK : KW dC dI y s)
    (hP : va_P (dC, dI) vwCl (pre ++ (blk ++ post)) H) (hD : va_D A0 (pre ++ (blk ++ post))) (hwr : va_P (dC, dI) vwCl wr H) (hap : va_D A0 (blk ++ wr)) (hrv : ∃ cell : Cell, H[b]? = some cell ∧ cell.vm.isStatics = false ∧ s.vm.findClass C = some cell.cls) (hS : va_S A0 H0 H locs) (hA : ∀ q, H0.size ≤ q → A0 q)
    (hn : As.length = n) (hsize : ls.size = nL) (hstk : st0 = As.reverse ++ .ref b :: rest) (hW : (rest.map fun v => v.category).sum ≤ 8) (hdg : decode cc pc = .ok (.invokevirtual index, 3)) (hc : cells ≤ R.cells ∧ slots ≤ R.slots)
    (kk : ∀ (u : S) (H1 : Heap) (locs1 : List Loc), K u → va_P (dC, dI) vwCl (pre ++ (world u ++ post)) H1 → va_D A0 (pre ++ (world u ++ post)) → va_S A0 H0 H1 locs1 → W p l e R s m args below meth c H1 locs1 cells slots Q (F0 m (pc + 3) ls rest)) : W p l e R s m args below meth c H locs cells slots Q (F0 m pc ls st0) := by
  have hF := wj_free hD hS hA
  refine va_callv (va_runV (As := As) (rest := rest) Sx hM cw ⟨PWR.blind, hrv, fun U hU hW => ⟨rfl, by rw [hU], by rw [hU]; exact hP.right.left, by rw [hU]; exact hwr, hK.warm hW, hap.weaken (fun _ _ _ _ => trivial)⟩⟩ rfl hn hsize hstk (lv_room hW) hdg hc) hS (fun q _ h => hF q h) hF (fun u t H1 locs1 ht hvm hw hB hz hk hS1 => ?_)
  obtain ⟨hP1, hD1⟩ := hB
  rw [ht] at hP1
  obtain ⟨hP2, hD2⟩ := wj_mid hP hD hk hF hP1 hD1
  exact kk u H1 locs1 hw hP2 hD2 hS1
end KD
