/-! the law's own calls: its world is the class's, the row of one long, the reference's -/
abbrev lwW (y : Nat → ClassId) (a : WireA) (o : Nat) (am : Nat → Nat) (gs : Nat → Nat → Nat) (S : WireS) (f : Nat → Int64) (M : ModelS) : va_W := wrW y a gs S ++ (ouW y o f ++ mdW y am M)
section KL
variable {p : Program} {l : Launch} {e : Env} {R : Room} {s : State} {m : MethodId} {args : Array Value} {below : List Frame} {meth : Method} {c : Code} {H : Heap} {locs : List Loc} {cells slots : Nat} {Q : State → Prop}
variable {x : MethodName} {bytes cc : ByteArray} {maxL nL n index : Nat} {ret : Option FieldType} {hh : List (Nat × Nat × Nat × Nat)} {wsc : List Cond} {rm : Room} {Ts : List Cond} {own C : String} {b : Addr} {As rest st0 : List Value} {pc : Nat} {ls : Array Slot}
variable {dC : Nat → ClassId} {dI : Nat → Nat → Nat} {y : Nat → ClassId} {a : WireA} {o : Nat} {am : Nat → Nat} {gs : Nat → Nat → Nat} {S : WireS} {f : Nat → Int64} {M : ModelS} {A0 : Nat → Prop}
/-- a helper is called -/
theorem kLW {K : Int32 → WireS → (Nat → Int64) → Prop} (Sx : CallFix p m c cc nL s args Ts own) (hM : MW l x wsc rm dC dI y As a o (woW y a o gs S f) H.size K) (cw : vx_CSW R s args own index x bytes maxL ret hh wsc rm 1 6 n) (hK : KW dC dI y s) (hXW : XW s) (hCW : CW s) (hZ : ZW A0 s s.heap)
    (hP : va_P (dC, dI) vwCl (lwW y a o am gs S f M) H) (hD : va_D A0 (lwW y a o am gs S f M)) (hS : va_S A0 s.heap H locs) (hA : ∀ q, s.heap.size ≤ q → A0 q)
    (hn : As.length = n) (hsize : ls.size = nL) (hstk : st0 = As.reverse ++ rest) (hW : (rest.map fun v => v.category).sum ≤ 8) (hdg : decode cc pc = .ok (.invokestatic index, 3)) (hc : cells + 1 ≤ R.cells ∧ slots + 6 ≤ R.slots)
    (kk : ∀ (r : Int32) (S1 : WireS) (gs1 : Nat → Nat → Nat) (f1 : Nat → Int64) (H1 : Heap) (locs1 : List Loc), K r S1 f1 → va_P (dC, dI) vwCl (lwW y a o am gs1 S1 f1 M) H1 → va_D A0 (lwW y a o am gs1 S1 f1 M) → va_S A0 s.heap H1 locs1 → W p l e R s m args below meth c H1 locs1 (cells + 1) (slots + 6) Q (F0 m (pc + 3) ls (.int r :: rest))) : W p l e R s m args below meth c H locs cells slots Q (F0 m pc ls st0) := by
  have hP0 : va_P (dC, dI) vwCl ([] ++ (woW y a o gs S f ++ mdW y am M)) H := by
    rw [List.nil_append, List.append_assoc]; exact hP
  have hD0 : va_D A0 ([] ++ (woW y a o gs S f ++ mdW y am M)) := by
    rw [List.nil_append, List.append_assoc]; exact hD
  have hF := wj_free hD0 hS hA
  refine va_calli (vx_runSW (As := As) (rest := rest) Sx hM cw ⟨PL.blind, fun U hU hW => ⟨rfl, by rw [hU], by rw [hU]; exact hP0.right.left, hK.warm hW, hXW.warm hW, hCW.moved hW.alike, by rw [hU]; exact ((hZ.at hS).narrow hF).moved hW.alike, hD0.right.left.weaken (fun _ _ _ _ => trivial)⟩⟩ rfl hn hsize hstk (lv_room hW) hdg hc) hS (fun q _ h => hF q h) hF (fun r u t H1 locs1 ht hvm hw hB hz hk hS1 => ?_)
  obtain ⟨hP1, hD1⟩ := hB
  rw [ht] at hP1
  obtain ⟨hP2, hD2⟩ := wj_mid hP0 hD0 hk hF hP1 hD1
  rw [List.nil_append, List.append_assoc] at hP2 hD2
  exact kk r u.1 u.2.1 u.2.2 H1 locs1 hw hP2 hD2 hS1
/-- the class is called, without a throw -/
theorem kLi {K : Int32 → WireS → Prop} (Sx : CallFix p m c cc nL s args Ts own) (hM : MI l x wsc rm dC dI y (.ref b :: As) (wrW y a gs S) H.size (fun u => wrW y a gs u) K) (cw : CallW R s args own C index x bytes maxL ret wsc rm 0 0 n) (hK : KW dC dI y s)
    (hP : va_P (dC, dI) vwCl (lwW y a o am gs S f M) H) (hD : va_D A0 (lwW y a o am gs S f M)) (hrv : ∃ cell : Cell, H[b]? = some cell ∧ cell.vm.isStatics = false ∧ s.vm.findClass C = some cell.cls) (hS : va_S A0 s.heap H locs) (hA : ∀ q, s.heap.size ≤ q → A0 q)
    (hn : As.length = n) (hsize : ls.size = nL) (hstk : st0 = As.reverse ++ .ref b :: rest) (hW : (rest.map fun v => v.category).sum ≤ 8) (hdg : decode cc pc = .ok (.invokevirtual index, 3)) (hc : cells ≤ R.cells ∧ slots ≤ R.slots)
    (kk : ∀ (r : Int32) (S1 : WireS) (H1 : Heap) (locs1 : List Loc), K r S1 → va_P (dC, dI) vwCl (lwW y a o am gs S1 f M) H1 → va_D A0 (lwW y a o am gs S1 f M) → va_S A0 s.heap H1 locs1 → W p l e R s m args below meth c H1 locs1 cells slots Q (F0 m (pc + 3) ls (.int r :: rest))) : W p l e R s m args below meth c H locs cells slots Q (F0 m pc ls st0) :=
  kVi (pre := []) (post := ouW y o f ++ mdW y am M) Sx hM cw hK hP hD hrv hS hA hn hsize hstk hW hdg hc kk
/-- the reference is called -/
theorem mid3 {D : va_G} {cl : List vw_C} {w1 w2 w3 : va_W} {H : Heap} (hP : va_P D cl (w1 ++ (w2 ++ w3)) H) : va_P D cl ((w1 ++ w2) ++ (w3 ++ [])) H := by
  rw [List.append_nil, List.append_assoc]; exact hP
theorem mid3D {A : Nat → Prop} {w1 w2 w3 : va_W} (hD : va_D A (w1 ++ (w2 ++ w3))) : va_D A ((w1 ++ w2) ++ (w3 ++ [])) := by
  rw [List.append_nil, List.append_assoc]; exact hD
theorem kMi {K : Int32 → ModelS → Prop} (Sx : CallFix p m c cc nL s args Ts own) (hM : MI l x wsc rm dC dI y (.ref b :: As) (mdW y am M) H.size (fun u => mdW y am u) K) (cw : CallW R s args own C index x bytes maxL ret wsc rm 0 0 n) (hK : KW dC dI y s)
    (hP : va_P (dC, dI) vwCl (lwW y a o am gs S f M) H) (hD : va_D A0 (lwW y a o am gs S f M)) (hrv : ∃ cell : Cell, H[b]? = some cell ∧ cell.vm.isStatics = false ∧ s.vm.findClass C = some cell.cls) (hS : va_S A0 s.heap H locs) (hA : ∀ q, s.heap.size ≤ q → A0 q)
    (hn : As.length = n) (hsize : ls.size = nL) (hstk : st0 = As.reverse ++ .ref b :: rest) (hW : (rest.map fun v => v.category).sum ≤ 8) (hdg : decode cc pc = .ok (.invokevirtual index, 3)) (hc : cells ≤ R.cells ∧ slots ≤ R.slots)
    (kk : ∀ (r : Int32) (M1 : ModelS) (H1 : Heap) (locs1 : List Loc), K r M1 → va_P (dC, dI) vwCl (lwW y a o am gs S f M1) H1 → va_D A0 (lwW y a o am gs S f M1) → va_S A0 s.heap H1 locs1 → W p l e R s m args below meth c H1 locs1 cells slots Q (F0 m (pc + 3) ls (.int r :: rest))) : W p l e R s m args below meth c H locs cells slots Q (F0 m pc ls st0) := by
  refine kVi (pre := wrW y a gs S ++ ouW y o f) (post := []) Sx hM cw hK (mid3 hP) (mid3D hD) hrv hS hA hn hsize hstk hW hdg hc (fun r u H1 locs1 h1 h2 h3 h4 => ?_)
  rw [List.append_nil, List.append_assoc] at h2 h3
  exact kk r u H1 locs1 h1 h2 h3 h4
theorem kMl {K : Int64 → ModelS → Prop} (Sx : CallFix p m c cc nL s args Ts own) (hM : ML l x wsc rm dC dI y (.ref b :: As) (mdW y am M) H.size (fun u => mdW y am u) K) (cw : CallW R s args own C index x bytes maxL ret wsc rm 0 0 n) (hK : KW dC dI y s)
    (hP : va_P (dC, dI) vwCl (lwW y a o am gs S f M) H) (hD : va_D A0 (lwW y a o am gs S f M)) (hrv : ∃ cell : Cell, H[b]? = some cell ∧ cell.vm.isStatics = false ∧ s.vm.findClass C = some cell.cls) (hS : va_S A0 s.heap H locs) (hA : ∀ q, s.heap.size ≤ q → A0 q)
    (hn : As.length = n) (hsize : ls.size = nL) (hstk : st0 = As.reverse ++ .ref b :: rest) (hW : (rest.map fun v => v.category).sum ≤ 8) (hdg : decode cc pc = .ok (.invokevirtual index, 3)) (hc : cells ≤ R.cells ∧ slots ≤ R.slots)
    (kk : ∀ (r : Int64) (M1 : ModelS) (H1 : Heap) (locs1 : List Loc), K r M1 → va_P (dC, dI) vwCl (lwW y a o am gs S f M1) H1 → va_D A0 (lwW y a o am gs S f M1) → va_S A0 s.heap H1 locs1 → W p l e R s m args below meth c H1 locs1 cells slots Q (F0 m (pc + 3) ls (.long r :: rest))) : W p l e R s m args below meth c H locs cells slots Q (F0 m pc ls st0) := by
  refine kVl (pre := wrW y a gs S ++ ouW y o f) (post := []) Sx hM cw hK (mid3 hP) (mid3D hD) hrv hS hA hn hsize hstk hW hdg hc (fun r u H1 locs1 h1 h2 h3 h4 => ?_)
  rw [List.append_nil, List.append_assoc] at h2 h3
  exact kk r u H1 locs1 h1 h2 h3 h4
theorem kMv {K : ModelS → Prop} (Sx : CallFix p m c cc nL s args Ts own) (hM : MV l x wsc rm dC dI y (.ref b :: As) (mdW y am M) H.size (fun u => mdW y am u) K) (cw : CallW R s args own C index x bytes maxL ret wsc rm 0 0 n) (hK : KW dC dI y s)
    (hP : va_P (dC, dI) vwCl (lwW y a o am gs S f M) H) (hD : va_D A0 (lwW y a o am gs S f M)) (hrv : ∃ cell : Cell, H[b]? = some cell ∧ cell.vm.isStatics = false ∧ s.vm.findClass C = some cell.cls) (hS : va_S A0 s.heap H locs) (hA : ∀ q, s.heap.size ≤ q → A0 q)
    (hn : As.length = n) (hsize : ls.size = nL) (hstk : st0 = As.reverse ++ .ref b :: rest) (hW : (rest.map fun v => v.category).sum ≤ 8) (hdg : decode cc pc = .ok (.invokevirtual index, 3)) (hc : cells ≤ R.cells ∧ slots ≤ R.slots)
    (kk : ∀ (M1 : ModelS) (H1 : Heap) (locs1 : List Loc), K M1 → va_P (dC, dI) vwCl (lwW y a o am gs S f M1) H1 → va_D A0 (lwW y a o am gs S f M1) → va_S A0 s.heap H1 locs1 → W p l e R s m args below meth c H1 locs1 cells slots Q (F0 m (pc + 3) ls rest)) : W p l e R s m args below meth c H locs cells slots Q (F0 m pc ls st0) := by
  refine kVv (pre := wrW y a gs S ++ ouW y o f) (post := []) Sx hM cw hK (mid3 hP) (mid3D hD) hrv hS hA hn hsize hstk hW hdg hc (fun u H1 locs1 h1 h2 h3 h4 => ?_)
  rw [List.append_nil, List.append_assoc] at h2 h3
  exact kk u H1 locs1 h1 h2 h3 h4
theorem wo_at : (lwW y a o am gs S f M)[56]? = some (o, .inl (y 1, 1, .inr (.inl f))) := rfl
theorem md_at : (lwW y a o am gs S f M)[57]? = (mdW y am M)[0]? := rfl
end KL
theorem vo {x4 : Int32} {i L : Nat} (hx : x4 = nI i) (hi : i + 7 ≤ L) (hL : L ≤ 3584) (j : Nat) (hj : j < 7) : vp_in (x4 + nI j) L := by
  rw [hx, nI_add]
  exact vp_in_nI (by omega) (by omega)
theorem vo0 {x4 : Int32} {i L : Nat} (hx : x4 = nI i) (hi : i + 7 ≤ L) (hL : L ≤ 3584) : vp_in x4 L := by
  rw [hx]
  exact vp_in_nI (by omega) (by omega)
theorem cmp0 (x : Int64) : lg_cmp x x = 0 := by
  unfold lg_cmp
  simp
/-! what each call owes: class and reference side by side -/
def OKwant (Sm : Nat → WireS → ModelS → Prop) : Prop := ∀ n, n < 512 → ∀ (S : WireS) (M : ModelS) (f : Nat → Int64) (p0 p1 p2 : Int32) (p3 : Int64) (p4 : Int32), (p1 = 0 ∨ p1 = 1) → Sm n S M → wl_want S f p0 p1 p2 p3 p4 (fun k S1 f1 => wp_X5_want M p0 p1 p2 p3 p4 (fun b M1 => Sm (n + 1) S1 M1 ∧ M1.1 0 = k ∧ (k = 0 → f1 0 = b.toInt64)))
def OKstep (Sm : Nat → WireS → ModelS → Prop) : Prop := ∀ n, n < 512 → ∀ (S : WireS) (M : ModelS) (f : Nat → Int64) (p0 p1 : Int32), Sm n S M → wl_step S f p0 p1 (fun k S1 f1 => wp_X5_step M p0 p1 (fun b M1 => Sm (n + 1) S1 M1 ∧ M1.1 0 = k ∧ (k = 0 → f1 0 = b.toInt64)))
def OKjoin (Sm : Nat → WireS → ModelS → Prop) : Prop := ∀ n, n < 512 → ∀ (S : WireS) (M : ModelS) (f : Nat → Int64) (p0 : Int32), Sm n S M → wl_join S f p0 (fun k S1 f1 => wp_X5_join M p0 (fun b M1 => Sm (n + 1) S1 M1 ∧ M1.1 0 = k ∧ (k = 0 → (b = 0 → f1 0 = 0) ∧ (¬ b = 0 → f1 0 = 1))))
def OKwire (Sm : Nat → WireS → ModelS → Prop) : Prop := ∀ n, n < 512 → ∀ (S : WireS) (M : ModelS), Sm n S M → wp_X4_wire S (fun r => wp_X5_wire M (fun b M1 => Sm (n + 1) S M1 ∧ r = b))
def OKnode (Sm : Nat → WireS → ModelS → Prop) : Prop := ∀ n, n < 512 → ∀ (S : WireS) (M : ModelS) (f : Nat → Int64) (p0 p1 : Int32), Sm n S M → wl_node S f p0 p1 (fun k S1 f1 => wp_X5_node M p0 p1 (fun b M1 => Sm (n + 1) S1 M1 ∧ M1.1 0 = k ∧ (k = 0 → f1 0 = b.toInt64)))
def OKreceived (Sm : Nat → WireS → ModelS → Prop) : Prop := ∀ n, n < 512 → ∀ (S : WireS) (M : ModelS) (f : Nat → Int64) (p0 p1 : Int32), Sm n S M → wl_received S f p0 p1 (fun k S1 f1 => wp_X5_received M p0 p1 (fun b M1 => Sm (n + 1) S1 M1 ∧ M1.1 0 = k ∧ (k = 0 → f1 0 = b)))
def OKtape (Sm : Nat → WireS → ModelS → Prop) : Prop := ∀ n, n < 512 → ∀ (S : WireS) (M : ModelS) (f : Nat → Int64) (p0 : Int32), Sm n S M → wl_tape S f p0 (fun k S1 f1 => wp_X5_tape M p0 (fun b M1 => Sm (n + 1) S1 M1 ∧ M1.1 0 = k ∧ (k = 0 → f1 0 = b.toInt64)))
def OKput (Sm : Nat → WireS → ModelS → Prop) : Prop := ∀ n, n < 512 → ∀ (S : WireS) (M : ModelS) (w : Int64) (p1 : Int32), Sm n S M → wp_X4_put S w p1 (fun r S1 => wp_X5_put M w p1 (fun b M1 => Sm (n + 1) S1 M1 ∧ r = b))
def OKbit (Sm : Nat → WireS → ModelS → Prop) : Prop := ∀ n, n < 512 → ∀ (S : WireS) (M : ModelS) (f : Nat → Int64) (p0 : Int32), Sm n S M → wl_bit S f p0 (fun k S1 f1 => wp_X5_bit M p0 (fun b M1 => Sm (n + 1) S1 M1 ∧ M1.1 0 = k ∧ (k = 0 → f1 0 = b.toInt64)))
def OKflip (Sm : Nat → WireS → ModelS → Prop) : Prop := ∀ n, n < 512 → ∀ (S : WireS) (M : ModelS) (f : Nat → Int64) (p0 : Int32), Sm n S M → wl_flip S f p0 (fun k S1 _ => wp_X5_flip M p0 (fun M1 => Sm (n + 1) S1 M1 ∧ M1.1 0 = k))
def OKwipe (Sm : Nat → WireS → ModelS → Prop) : Prop := ∀ n, n < 512 → ∀ (S : WireS) (M : ModelS), Sm n S M → wp_X4_wipe S (fun r S1 => wp_X5_wipe M (fun b M1 => Sm (n + 1) S1 M1 ∧ r = b))
def OKread (Sm : Nat → WireS → ModelS → Prop) : Prop := ∀ n, n < 512 → ∀ (S : WireS) (M : ModelS), Sm n S M → wp_X4_read S (fun r S1 => wp_X5_read M (fun b M1 => Sm (n + 1) S1 M1 ∧ r = b))
def OKall (Sm : Nat → WireS → ModelS → Prop) : Prop := (∀ n S M, Sm n S M → Sm (n + 1) S M) ∧ OKwant Sm ∧ OKstep Sm ∧ OKjoin Sm ∧ OKwire Sm ∧ OKnode Sm ∧ OKreceived Sm ∧ OKtape Sm ∧ OKput Sm ∧ OKbit Sm ∧ OKflip Sm ∧ OKwipe Sm ∧ OKread Sm
