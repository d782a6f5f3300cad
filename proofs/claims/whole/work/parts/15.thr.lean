/-! methods that may throw: premises, contracts, ends -/
def XW (U : State) : Prop := va_Nw (.declares (Bundle.init0 "java/lang/RuntimeException")) U ∧ va_Nw (.declares (Bundle.init0 "java/lang/Exception")) U ∧ va_Nw (.declares (Bundle.init0 Bundle.tN)) U ∧ va_Nw (.castable "java/lang/IndexOutOfBoundsException" "java/lang/IndexOutOfBoundsException") U ∧ va_Nw (.castable "java/lang/IllegalArgumentException" "java/lang/IllegalArgumentException") U ∧ va_Nw (.castable "java/lang/UnsupportedOperationException" "java/lang/UnsupportedOperationException") U ∧ va_Nw (.castable "java/util/NoSuchElementException" "java/util/NoSuchElementException") U
theorem XW.warm {s U : State} (hW : s.WarmedH U.vm) (h : XW s) : XW U := by
  obtain ⟨h1, h2, h3, h4, h5, h6, h7⟩ := h
  exact ⟨va_Nw.warmD hW h1, va_Nw.warmD hW h2, va_Nw.warmD hW h3, va_Nw.warmC hW h4, va_Nw.warmC hW h5, va_Nw.warmC hW h6, va_Nw.warmC hW h7⟩
theorem XW.same {u U : State} (hv : u.vm = U.vm) (h : XW u) : XW U := by
  obtain ⟨h1, h2, h3, h4, h5, h6, h7⟩ := h
  exact ⟨va_Nw.same rfl hv h1, va_Nw.same rfl hv h2, va_Nw.same rfl hv h3, va_Nw.same rfl hv h4, va_Nw.same rfl hv h5, va_Nw.same rfl hv h6, va_Nw.same rfl hv h7⟩
/-- Throwable's two statics lie outside A -/
def ZW (A : Nat → Prop) (U : State) (H : Heap) : Prop := vx_Zq Bundle.tN "UNASSIGNED_STACK" Bundle.steD A U H ∧ vx_Zq Bundle.tN "SUPPRESSED_SENTINEL" Bundle.listD A U H
theorem ZW.moved {A : Nat → Prop} {u U : State} {H : Heap} (hvm : u.vm.Alike U.vm) (h : ZW A u H) : ZW A U H := ⟨h.1.moved hvm, h.2.moved hvm⟩
theorem ZW.kept {A : Nat → Prop} {U : State} {H H1 : Heap} (h : ZW A U H) (hq : ∀ a : Nat, a < H.size → ¬ A a → H1[a]? = H[a]?) : ZW A U H1 := ⟨h.1.kept hq, h.2.kept hq⟩
theorem ZW.narrow {A B : Nat → Prop} {U : State} {H : Heap} (h : ZW A U H) (hAB : ∀ q, B q → A q) : ZW B U H := ⟨h.1.narrow hAB, h.2.narrow hAB⟩
def PX (dC : Nat → ClassId) (dI : Nat → Nat → Nat) (y : Nat → ClassId) (av : List Value) (w : va_W) (sz : Nat) : Array Value → State → Prop := va_Pc av (fun U => U.heap.size = sz ∧ va_P (dC, dI) vwCl w U.heap ∧ KW dC dI y U ∧ XW U ∧ ZW (va_A w sz) U U.heap ∧ va_D (fun _ => True) w)
theorem PX.blind {dC : Nat → ClassId} {dI : Nat → Nat → Nat} {y : Nat → ClassId} {av : List Value} {w : va_W} {sz : Nat} : FrameBlind (PX dC dI y av w sz) := by
  intro a U g mk q
  obtain ⟨q0, q1, qP, qK, qX, qZ, qD⟩ := q
  exact ⟨q0, q1, qP, ⟨va_K.moved (u := U) (U := U.calling g mk a) (Vm.Alike.refl U.vm) qK.1, NW.same (u := U) rfl qK.2⟩, XW.same (u := U) rfl qX, ZW.moved (u := U) (U := U.calling g mk a) (Vm.Alike.refl U.vm) qZ, qD⟩
/-- how it may leave: which exception, over which world -/
def XE {S : Type} (dC : Nat → ClassId) (dI : Nat → Nat → Nat) (A : Nat → Prop) (world : S → va_W) (KE : String → S → Prop) : String → State → State → Prop := vx_X (fun _ : S => True) (fun E u t => KE E u ∧ va_P (dC, dI) vwCl (world u) t.heap ∧ va_D A (world u)) A
def MIX {S : Type} (l : Launch) (x : MethodName) (ws : List Cond) (rm : Room) (dC : Nat → ClassId) (dI : Nat → Nat → Nat) (y : Nat → ClassId) (av : List Value) (w : va_W) (sz : Nat) (world : S → va_W) (K : Int32 → S → Prop) (KE : String → S → Prop) : Prop := vx_Met l x ws rm (PX dC dI y av w sz) (va_Qi K (BW dC dI (va_A w sz) world) (va_A w sz)) (XE dC dI (va_A w sz) world KE) 1 6 (va_A w sz)
def MLX {S : Type} (l : Launch) (x : MethodName) (ws : List Cond) (rm : Room) (dC : Nat → ClassId) (dI : Nat → Nat → Nat) (y : Nat → ClassId) (av : List Value) (w : va_W) (sz : Nat) (world : S → va_W) (K : Int64 → S → Prop) (KE : String → S → Prop) : Prop := vx_Met l x ws rm (PX dC dI y av w sz) (va_Ql K (BW dC dI (va_A w sz) world) (va_A w sz)) (XE dC dI (va_A w sz) world KE) 1 6 (va_A w sz)
def MVX {S : Type} (l : Launch) (x : MethodName) (ws : List Cond) (rm : Room) (dC : Nat → ClassId) (dI : Nat → Nat → Nat) (y : Nat → ClassId) (av : List Value) (w : va_W) (sz : Nat) (world : S → va_W) (K : S → Prop) (KE : String → S → Prop) : Prop := vx_Met l x ws rm (PX dC dI y av w sz) (va_Qv K (BW dC dI (va_A w sz) world) (va_A w sz)) (XE dC dI (va_A w sz) world KE) 1 6 (va_A w sz)
theorem xe_of {S : Type} {dC : Nat → ClassId} {dI : Nat → Nat → Nat} {A : Nat → Prop} {world : S → va_W} {KE : String → S → Prop} {s t : State} {H : Heap} {locs : List Loc} {E : String} (u : S) (hf : KE E u) (hP : va_P (dC, dI) vwCl (world u) H) (hD : va_D A (world u)) (hS : va_S A s.heap H locs) (hz : H.size ≤ t.heap.size) (hk : ∀ q : Nat, q < H.size → t.heap[q]? = H[q]?) : XE dC dI A world KE E s t :=
  ⟨u, trivial, ⟨hf, hP.kept (fun k q hq => hk q.1 (hP k q hq).lt), hD⟩, Nat.le_trans hS.1 hz, fun q h1 h2 => (hk q (Nat.lt_of_lt_of_le h1 hS.1)).trans (hS.2.1 q h1 h2)⟩
abbrev exN : List String := ["java/lang/RuntimeException", "java/lang/Exception"]
set_option maxRecDepth 20000 in
theorem hat_50 {args : Array Value} {s : State} (h1 : ∀ w ∈ (vx_at0 RX4 50 "java/lang/IndexOutOfBoundsException" exN).filter goodWord, w.before args s = true) (hX : XW s) : ∀ w ∈ vx_at0 RX4 50 "java/lang/IndexOutOfBoundsException" exN, w.before args s = true :=
  vx_hat (B := [.declares (Bundle.init0 "java/lang/RuntimeException"), .declares (Bundle.init0 "java/lang/Exception"), .declares (Bundle.init0 Bundle.tN), .castable "java/lang/IndexOutOfBoundsException" "java/lang/IndexOutOfBoundsException"]) h1 (by decide +kernel) (vx_c (va_Nw.use rfl hX.1) (vx_c (va_Nw.use rfl hX.2.1) (vx_c (va_Nw.use rfl hX.2.2.1) (vx_c (va_Nw.use rfl hX.2.2.2.1) vx_n))))
set_option maxRecDepth 20000 in
theorem hat_53 {args : Array Value} {s : State} (h1 : ∀ w ∈ (vx_at0 RX4 53 "java/lang/IllegalArgumentException" exN).filter goodWord, w.before args s = true) (hX : XW s) : ∀ w ∈ vx_at0 RX4 53 "java/lang/IllegalArgumentException" exN, w.before args s = true :=
  vx_hat (B := [.declares (Bundle.init0 "java/lang/RuntimeException"), .declares (Bundle.init0 "java/lang/Exception"), .declares (Bundle.init0 Bundle.tN), .castable "java/lang/IllegalArgumentException" "java/lang/IllegalArgumentException"]) h1 (by decide +kernel) (vx_c (va_Nw.use rfl hX.1) (vx_c (va_Nw.use rfl hX.2.1) (vx_c (va_Nw.use rfl hX.2.2.1) (vx_c (va_Nw.use rfl hX.2.2.2.2.1) vx_n))))
set_option maxRecDepth 20000 in
theorem hat_59 {args : Array Value} {s : State} (h1 : ∀ w ∈ (vx_at0 RX4 59 "java/lang/UnsupportedOperationException" exN).filter goodWord, w.before args s = true) (hX : XW s) : ∀ w ∈ vx_at0 RX4 59 "java/lang/UnsupportedOperationException" exN, w.before args s = true :=
  vx_hat (B := [.declares (Bundle.init0 "java/lang/RuntimeException"), .declares (Bundle.init0 "java/lang/Exception"), .declares (Bundle.init0 Bundle.tN), .castable "java/lang/UnsupportedOperationException" "java/lang/UnsupportedOperationException"]) h1 (by decide +kernel) (vx_c (va_Nw.use rfl hX.1) (vx_c (va_Nw.use rfl hX.2.1) (vx_c (va_Nw.use rfl hX.2.2.1) (vx_c (va_Nw.use rfl hX.2.2.2.2.2.1) vx_n))))
set_option maxRecDepth 20000 in
theorem hat_95 {args : Array Value} {s : State} (h1 : ∀ w ∈ (vx_at0 RX4 95 "java/util/NoSuchElementException" exN).filter goodWord, w.before args s = true) (hX : XW s) : ∀ w ∈ vx_at0 RX4 95 "java/util/NoSuchElementException" exN, w.before args s = true :=
  vx_hat (B := [.declares (Bundle.init0 "java/lang/RuntimeException"), .declares (Bundle.init0 "java/lang/Exception"), .declares (Bundle.init0 Bundle.tN), .castable "java/util/NoSuchElementException" "java/util/NoSuchElementException"]) h1 (by decide +kernel) (vx_c (va_Nw.use rfl hX.1) (vx_c (va_Nw.use rfl hX.2.1) (vx_c (va_Nw.use rfl hX.2.2.1) (vx_c (va_Nw.use rfl hX.2.2.2.2.2.2) vx_n))))
set_option maxRecDepth 20000 in
theorem got_50 : ∀ w ∈ Cond.classLink RX4 48 "java/lang/IndexOutOfBoundsException" :: Cond.initialized "java/lang/IndexOutOfBoundsException" :: vx_at0 RX4 50 "java/lang/IndexOutOfBoundsException" exN, vx_ot w = true := by decide +kernel
set_option maxRecDepth 20000 in
theorem got_53 : ∀ w ∈ Cond.classLink RX4 51 "java/lang/IllegalArgumentException" :: Cond.initialized "java/lang/IllegalArgumentException" :: vx_at0 RX4 53 "java/lang/IllegalArgumentException" exN, vx_ot w = true := by decide +kernel
set_option maxRecDepth 20000 in
theorem got_59 : ∀ w ∈ Cond.classLink RX4 57 "java/lang/UnsupportedOperationException" :: Cond.initialized "java/lang/UnsupportedOperationException" :: vx_at0 RX4 59 "java/lang/UnsupportedOperationException" exN, vx_ot w = true := by decide +kernel
set_option maxRecDepth 20000 in
theorem got_95 : ∀ w ∈ Cond.classLink RX4 93 "java/util/NoSuchElementException" :: Cond.initialized "java/util/NoSuchElementException" :: vx_at0 RX4 95 "java/util/NoSuchElementException" exN, vx_ot w = true := by decide +kernel
