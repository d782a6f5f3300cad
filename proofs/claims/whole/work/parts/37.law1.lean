theorem fold_l {p : Program} {l : Launch} {e : Env} {R : Room} {s : State} {m : MethodId} {args : Array Value} {below : List Frame} {meth : Method} {c : Code} {H : Heap} {locs : List Loc} {cells slots : Nat} {Q : State → Prop} {pc : Nat} {ls : Array Slot} {rest : List Value} {x v : Int64} (h : x = v) (k : W p l e R s m args below meth c H locs cells slots Q (F0 m pc ls (.long v :: rest))) : W p l e R s m args below meth c H locs cells slots Q (F0 m pc ls (.long x :: rest)) := h ▸ k
theorem th_ok (M : ModelS) : wp_X5_thrown M (fun r => r = M.1 0) := by
  obtain ⟨mI, mA, mL⟩ := M
  exact rfl
/-- what the tables and the start give the law -/
def LCx (l : Launch) (dC : Nat → ClassId) (dI : Nat → Nat → Nat) (y : Nat → ClassId) (s : State) : Prop := KW dC dI y s ∧ XW s ∧ CW s ∧ OW s ∧ ZW (fun q : Nat => s.heap.size ≤ q) s s.heap ∧ l.stackTraces = false
set_option maxHeartbeats 4000000 in
set_option maxRecDepth 100000 in
theorem law_want {p : Program} {l : Launch} {e : Env} {s : State} {m : MethodId} {below : List Frame} {meth : Method} {c : Code} {dC : Nat → ClassId} {dI : Nat → Nat → Nat} {y : Nat → ClassId} {b L : Nat} {xs : Nat → Int32} {Sm : Nat → WireS → ModelS → Prop} (hL : L ≤ 3584) (C0 : lw_At p s m meth c b L xs) (hLC : LCx l dC dI y s) (hOK : OKall Sm) (a : WireA) (o : Nat) (am : Nat → Nat) (n i : Nat) (x4 : Int32) (hn : n < 512) (ex4 : x4 = nI i) (hi : i + 7 ≤ L) (cells slots : Nat) (hcs : cells + 1 ≤ 601024 ∧ slots + 6 ≤ 7293033) (gs : Nat → Nat → Nat) (S : WireS) (f : Nat → Int64) (M : ModelS) (hSm : Sm n S M) (H : Heap) (locs : List Loc) (ls : Array Slot) (hP : va_P (dC, dI) vwCl (lwW y a o am gs S f M) H) (hD : va_D (fun q : Nat => s.heap.size ≤ q) (lwW y a o am gs S f M)) (hS : va_S (fun q : Nat => s.heap.size ≤ q) s.heap H locs) (hl : lv_has ls 8 [(0, .ref b), (1, .ref a.1), (2, .ref (am 0)), (3, .ref o), (4, .int x4)]) (hk : ∀ (gs1 : Nat → Nat → Nat) (S1 : WireS) (f1 : Nat → Int64) (M1 : ModelS) (H1 : Heap) (locs1 : List Loc) (ls1 : Array Slot), Sm (n + 1) S1 M1 → va_P (dC, dI) vwCl (lwW y a o am gs1 S1 f1 M1) H1 → va_D (fun q : Nat => s.heap.size ≤ q) (lwW y a o am gs1 S1 f1 M1) → va_S (fun q : Nat => s.heap.size ≤ q) s.heap H1 locs1 → lv_has ls1 8 [(0, .ref b), (1, .ref a.1), (2, .ref (am 0)), (3, .ref o), (4, .int x4)] → W p l e room_1 s m #[Value.ref b] below meth c H1 locs1 (cells + 1) (slots + 6) (lw_Z below #[Value.ref b] s) (F0 m 780 ls1 [])) : W p l e room_1 s m #[Value.ref b] below meth c H locs cells slots (lw_Z below #[Value.ref b] s) (F0 m 104 ls []) := by
  obtain ⟨hx, hb, hr, hml, hown, hts0, hX, hbl, hlocks, hgv⟩ := id C0
  obtain ⟨hK, hXW, hCW, hO, hZ, hst⟩ := id hLC
  have hts := fun w h => hts0 w (wsL_law_in w h)
  have hA : ∀ q : Nat, s.heap.size ≤ q → (fun q : Nat => s.heap.size ≤ q) q := fun _ h => h
  have hbA : ¬ (fun q : Nat => s.heap.size ≤ q) b := Nat.not_le.mpr hbl
  have hcs0 : cells ≤ 601024 ∧ slots ≤ 7293033 := ⟨by omega, by omega⟩
  obtain ⟨z1, ez1⟩ : ∃ z : Int32, xs (x4 + 1).toNatClampNeg = z := ⟨_, rfl⟩
  obtain ⟨z2, ez2⟩ : ∃ z : Int32, xs (x4 + 2).toNatClampNeg = z := ⟨_, rfl⟩
  obtain ⟨z3, ez3⟩ : ∃ z : Int32, xs (x4 + 3).toNatClampNeg = z := ⟨_, rfl⟩
  obtain ⟨z4, ez4⟩ : ∃ z : Int32, xs (x4 + 4).toNatClampNeg = z := ⟨_, rfl⟩
  obtain ⟨z5, ez5⟩ : ∃ z : Int32, xs (x4 + 5).toNatClampNeg = z := ⟨_, rfl⟩
  obtain ⟨z6, ez6⟩ : ∃ z : Int32, xs (x4 + 6).toNatClampNeg = z := ⟨_, rfl⟩
  obtain ⟨w, ew⟩ : ∃ w : Int64, (z4.toInt64 <<< ((32 : Int32).toInt64 &&& 63)) ||| (z5.toInt64 &&& 4294967295) = w := ⟨_, rfl⟩
  by_cases hb2 : z2 = 0
  · refine lv_aload_n hx hb dL_law_104 rfl (lv_at hl 1 rfl) ?_
    refine lv_aload_n hx hb dL_law_105 rfl (lv_at hl 0 rfl) ?_
    refine lv_iload hx hb dL_law_106 (lv_at hl 4 rfl) ?_
    refine lv_iconst (v := 1) hx hb dL_law_108 (by decide) ?_
    refine lv_iadd hx hb dL_law_109 ?_
    refine va_sld hx hb hX hbl hbA hS (vo ex4 hi hL 1 (by decide)) dL_law_110 ?_
    refine fold_i ez1 ?_
    refine lv_aload_n hx hb dL_law_111 rfl (lv_at hl 0 rfl) ?_
    refine lv_iload hx hb dL_law_112 (lv_at hl 4 rfl) ?_
    refine lv_iconst (v := 2) hx hb dL_law_114 (by decide) ?_
    refine lv_iadd hx hb dL_law_115 ?_
    refine va_sld hx hb hX hbl hbA hS (vo ex4 hi hL 2 (by decide)) dL_law_116 ?_
    refine fold_i ez2 ?_
    refine lv_if_eq (tgt := 124) hx hb dL_law_117 (by decide) (fun _ => ?_) (fun c9 => absurd hb2 c9)
    refine lv_iconst (v := 0) hx hb dL_law_124 (by decide) ?_
    refine lv_aload_n hx hb dL_law_125 rfl (lv_at hl 0 rfl) ?_
    refine lv_iload hx hb dL_law_126 (lv_at hl 4 rfl) ?_
    refine lv_iconst (v := 3) hx hb dL_law_128 (by decide) ?_
    refine lv_iadd hx hb dL_law_129 ?_
    refine va_sld hx hb hX hbl hbA hS (vo ex4 hi hL 3 (by decide)) dL_law_130 ?_
    refine fold_i ez3 ?_
    refine lv_aload_n hx hb dL_law_131 rfl (lv_at hl 0 rfl) ?_
    refine lv_iload hx hb dL_law_132 (lv_at hl 4 rfl) ?_
    refine lv_iconst (v := 4) hx hb dL_law_134 (by decide) ?_
    refine lv_iadd hx hb dL_law_135 ?_
    refine va_sld hx hb hX hbl hbA hS (vo ex4 hi hL 4 (by decide)) dL_law_136 ?_
    refine fold_i ez4 ?_
    refine lv_i2l (v := z4.toInt64) hx hb dL_law_137 rfl ?_
    refine lv_bipush (v := 32) hx hb dL_law_138 (by decide) ?_
    refine lv_lshl (v := z4.toInt64 <<< ((32 : Int32).toInt64 &&& 63)) hx hb dL_law_140 rfl ?_
    refine lv_aload_n hx hb dL_law_141 rfl (lv_at hl 0 rfl) ?_
    refine lv_iload hx hb dL_law_142 (lv_at hl 4 rfl) ?_
    refine lv_iconst (v := 5) hx hb dL_law_144 (by decide) ?_
    refine lv_iadd hx hb dL_law_145 ?_
    refine va_sld hx hb hX hbl hbA hS (vo ex4 hi hL 5 (by decide)) dL_law_146 ?_
    refine fold_i ez5 ?_
    refine lv_i2l (v := z5.toInt64) hx hb dL_law_147 rfl ?_
    refine lv_ldc2 (v := 4294967295) hx hb hown (hts (Cond.constantLong RL 51 (4294967295)) (List.mem_append_left _ (List.mem_append_left _ (List.mem_append_left _ (List.mem_append_left _ (List.mem_of_getElem? (i := 7) rfl)))))) dL_law_148 ?_
    refine lv_land hx hb dL_law_151 ?_
    refine lv_lor hx hb dL_law_152 ?_
    refine fold_l ew ?_
    refine lv_aload_n hx hb dL_law_153 rfl (lv_at hl 0 rfl) ?_
    refine lv_iload hx hb dL_law_154 (lv_at hl 4 rfl) ?_
    refine lv_bipush (v := 6) hx hb dL_law_156 (by decide) ?_
    refine lv_iadd hx hb dL_law_158 ?_
    refine va_sld hx hb hX hbl hbA hS (vo ex4 hi hL 6 (by decide)) dL_law_159 ?_
    refine fold_i ez6 ?_
    refine lv_aload_n hx hb dL_law_160 rfl (lv_at hl 3 rfl) ?_
    have hf := hOK.2.1 n hn S M f z1 0 z3 w z6 (Or.inl rfl) hSm
    refine kLW (As := [.ref a.1, .int z1, .int 0, .int z3, .long w, .int z6, .ref o]) (rest := []) ⟨hx, hb, hml, hown, hts⟩ (c_L_want l dC dI y a gs o H.size S f z1 0 z3 w z6 _ hst hf) (vx_cwSW 7 hts gL_law_L_want rfl rfl rfl (by decide +kernel) ⟨Nat.le_of_ble_eq_true rfl, Nat.le_of_ble_eq_true rfl⟩) hK hXW hCW hZ hP hD hS hA rfl hl.1 rfl (Nat.le_of_ble_eq_true rfl) dL_law_161 hcs (fun k S1 gs1 f1 H locs hf hP hD hS => ?_)
    refine lv_istore (lv' := [(5, .int k), (0, .ref b), (1, .ref a.1), (2, .ref (am 0)), (3, .ref o), (4, .int x4)]) hx hb dL_law_164 hl (by decide) rfl (fun ls hl => ?_)
    refine lv_aload_n hx hb dL_law_166 rfl (lv_at hl 3 rfl) ?_
    refine lv_aload_n hx hb dL_law_167 rfl (lv_at hl 1 rfl) ?_
    refine lv_iload hx hb dL_law_168 (lv_at hl 5 rfl) ?_
    refine lv_iconst (v := 1) hx hb dL_law_170 (by decide) ?_
    refine lv_iadd hx hb dL_law_171 ?_
    refine va_sld hx hb hX hbl hbA hS (vo ex4 hi hL 1 (by decide)) dL_law_172 ?_
    refine fold_i ez1 ?_
    refine lv_aload_n hx hb dL_law_173 rfl (lv_at hl 1 rfl) ?_
    refine lv_iload hx hb dL_law_174 (lv_at hl 5 rfl) ?_
    refine lv_iconst (v := 2) hx hb dL_law_176 (by decide) ?_
    refine lv_iadd hx hb dL_law_177 ?_
    refine va_sld hx hb hX hbl hbA hS (vo ex4 hi hL 2 (by decide)) dL_law_178 ?_
    refine fold_i ez2 ?_
    refine lv_if_eq (tgt := 186) hx hb dL_law_179 (by decide) (fun _ => ?_) (fun c9 => absurd hb2 c9)
    refine lv_iconst (v := 0) hx hb dL_law_186 (by decide) ?_
    refine lv_aload_n hx hb dL_law_187 rfl (lv_at hl 1 rfl) ?_
    refine lv_iload hx hb dL_law_188 (lv_at hl 5 rfl) ?_
    refine lv_iconst (v := 3) hx hb dL_law_190 (by decide) ?_
    refine lv_iadd hx hb dL_law_191 ?_
    refine va_sld hx hb hX hbl hbA hS (vo ex4 hi hL 3 (by decide)) dL_law_192 ?_
    refine fold_i ez3 ?_
    refine lv_aload_n hx hb dL_law_193 rfl (lv_at hl 1 rfl) ?_
    refine lv_iload hx hb dL_law_194 (lv_at hl 5 rfl) ?_
    refine lv_iconst (v := 4) hx hb dL_law_196 (by decide) ?_
    refine lv_iadd hx hb dL_law_197 ?_
    refine va_sld hx hb hX hbl hbA hS (vo ex4 hi hL 4 (by decide)) dL_law_198 ?_
    refine fold_i ez4 ?_
    refine lv_i2l (v := z4.toInt64) hx hb dL_law_199 rfl ?_
    refine lv_bipush (v := 32) hx hb dL_law_200 (by decide) ?_
    refine lv_lshl (v := z4.toInt64 <<< ((32 : Int32).toInt64 &&& 63)) hx hb dL_law_202 rfl ?_
    refine lv_aload_n hx hb dL_law_203 rfl (lv_at hl 1 rfl) ?_
    refine lv_iload hx hb dL_law_204 (lv_at hl 5 rfl) ?_
    refine lv_iconst (v := 5) hx hb dL_law_206 (by decide) ?_
    refine lv_iadd hx hb dL_law_207 ?_
    refine va_sld hx hb hX hbl hbA hS (vo ex4 hi hL 5 (by decide)) dL_law_208 ?_
    refine fold_i ez5 ?_
    refine lv_i2l (v := z5.toInt64) hx hb dL_law_209 rfl ?_
    refine lv_ldc2 (v := 4294967295) hx hb hown (hts (Cond.constantLong RL 51 (4294967295)) (List.mem_append_left _ (List.mem_append_left _ (List.mem_append_left _ (List.mem_append_left _ (List.mem_of_getElem? (i := 7) rfl)))))) dL_law_210 ?_
    refine lv_land hx hb dL_law_213 ?_
    refine lv_lor hx hb dL_law_214 ?_
    refine fold_l ew ?_
    refine lv_aload_n hx hb dL_law_215 rfl (lv_at hl 1 rfl) ?_
    refine lv_iload hx hb dL_law_216 (lv_at hl 5 rfl) ?_
    refine lv_bipush (v := 6) hx hb dL_law_218 (by decide) ?_
    refine lv_iadd hx hb dL_law_220 ?_
    refine va_sld hx hb hX hbl hbA hS (vo ex4 hi hL 6 (by decide)) dL_law_221 ?_
    refine fold_i ez6 ?_
    refine kMi (As := [.int z1, .int 0, .int z3, .long w, .int z6]) (rest := []) ⟨hx, hb, hml, hown, hts⟩ (c_X5_want l dC dI y am H.size M z1 0 z3 w z6 _ hf) (cwV 5 hts gL_law_X5_want rfl rfl rfl (by decide +kernel) ⟨Nat.le_of_ble_eq_true rfl, Nat.le_of_ble_eq_true rfl⟩) hK hP hD (va_recv hK.1 hP (ci := 5) (q0 := 57) rfl rfl) hS hA rfl hl.1 rfl (Nat.le_of_ble_eq_true rfl) dL_law_222 hcs (fun b1 M1 H locs hf hP hD hS => ?_)
    obtain ⟨hSm1, hth, hval⟩ := hf
    refine lv_istore (lv' := [(6, .int b1), (5, .int k), (0, .ref b), (1, .ref a.1), (2, .ref (am 0)), (3, .ref o), (4, .int x4)]) hx hb dL_law_225 hl (by decide) rfl (fun ls hl => ?_)
    refine lv_aload_n hx hb dL_law_227 rfl (lv_at hl 4 rfl) ?_
    refine kMi (As := []) (rest := []) ⟨hx, hb, hml, hown, hts⟩ (c_X5_thrown l dC dI y am H.size M1 _ (th_ok M1)) (cwV 0 hts gL_law_X5_thrown rfl rfl rfl (by decide +kernel) ⟨Nat.le_of_ble_eq_true rfl, Nat.le_of_ble_eq_true rfl⟩) hK hP hD (va_recv hK.1 hP (ci := 5) (q0 := 57) rfl rfl) hS hA rfl hl.1 rfl (Nat.le_of_ble_eq_true rfl) dL_law_228 hcs (fun r M2 H locs hf hP hD hS => ?_)
    obtain ⟨hr9, e9⟩ := hf
    have e9 := e9.symm
    subst e9
    refine lv_iload hx hb dL_law_231 (lv_at hl 1 rfl) ?_
    refine lv_icmp_eq (tgt := 238) hx hb dL_law_233 (by decide) (fun _ => ?_) (fun c9 => absurd (hr9.trans hth) c9)
    refine lv_iload hx hb dL_law_238 (lv_at hl 1 rfl) ?_
    refine lv_if_ne (tgt := 255) hx hb dL_law_240 (by decide) (fun ck => ?_) (fun ck => ?_)
    · refine lv_goto (tgt := 780) hx hb dL_law_255 (by decide) ?_
      exact hk gs1 S1 f1 M1 H locs ls hSm1 hP hD hS (lv_sub hl [2, 3, 4, 5, 6] rfl)
    · have hv := hval ck
      refine lv_aload_n hx hb dL_law_243 rfl (lv_at hl 5 rfl) ?_
      refine lv_iconst (v := 0) hx hb dL_law_244 (by decide) ?_
      refine ar_lld (f := f1) (j := 0) hx hb hK.1 hP 56 1 wo_at rfl (clamp_lit 0 rfl) (vin_lit 0 1 rfl rfl) dL_law_245 ?_
      refine lv_iload hx hb dL_law_246 (lv_at hl 0 rfl) ?_
      refine lv_i2l (v := b1.toInt64) hx hb dL_law_248 rfl ?_
      refine W.lcmp hx hb dL_law_249 ?_
      refine fold_i (v := 0) (by rw [hv]; exact cmp0 _) ?_
      refine lv_if_eq (tgt := 255) hx hb dL_law_250 (by decide) (fun _ => ?_) (fun c9 => absurd rfl c9)
      refine lv_goto (tgt := 780) hx hb dL_law_255 (by decide) ?_
      exact hk gs1 S1 f1 M1 H locs ls hSm1 hP hD hS (lv_sub hl [2, 3, 4, 5, 6] rfl)
  · refine lv_aload_n hx hb dL_law_104 rfl (lv_at hl 1 rfl) ?_
    refine lv_aload_n hx hb dL_law_105 rfl (lv_at hl 0 rfl) ?_
    refine lv_iload hx hb dL_law_106 (lv_at hl 4 rfl) ?_
    refine lv_iconst (v := 1) hx hb dL_law_108 (by decide) ?_
    refine lv_iadd hx hb dL_law_109 ?_
    refine va_sld hx hb hX hbl hbA hS (vo ex4 hi hL 1 (by decide)) dL_law_110 ?_
    refine fold_i ez1 ?_
    refine lv_aload_n hx hb dL_law_111 rfl (lv_at hl 0 rfl) ?_
    refine lv_iload hx hb dL_law_112 (lv_at hl 4 rfl) ?_
    refine lv_iconst (v := 2) hx hb dL_law_114 (by decide) ?_
    refine lv_iadd hx hb dL_law_115 ?_
    refine va_sld hx hb hX hbl hbA hS (vo ex4 hi hL 2 (by decide)) dL_law_116 ?_
    refine fold_i ez2 ?_
    refine lv_if_eq (tgt := 124) hx hb dL_law_117 (by decide) (fun c9 => absurd c9 hb2) (fun _ => ?_)
    refine lv_iconst (v := 1) hx hb dL_law_120 (by decide) ?_
    refine lv_goto (tgt := 125) hx hb dL_law_121 (by decide) ?_
    refine lv_aload_n hx hb dL_law_125 rfl (lv_at hl 0 rfl) ?_
    refine lv_iload hx hb dL_law_126 (lv_at hl 4 rfl) ?_
    refine lv_iconst (v := 3) hx hb dL_law_128 (by decide) ?_
    refine lv_iadd hx hb dL_law_129 ?_
    refine va_sld hx hb hX hbl hbA hS (vo ex4 hi hL 3 (by decide)) dL_law_130 ?_
    refine fold_i ez3 ?_
    refine lv_aload_n hx hb dL_law_131 rfl (lv_at hl 0 rfl) ?_
    refine lv_iload hx hb dL_law_132 (lv_at hl 4 rfl) ?_
    refine lv_iconst (v := 4) hx hb dL_law_134 (by decide) ?_
    refine lv_iadd hx hb dL_law_135 ?_
    refine va_sld hx hb hX hbl hbA hS (vo ex4 hi hL 4 (by decide)) dL_law_136 ?_
    refine fold_i ez4 ?_
    refine lv_i2l (v := z4.toInt64) hx hb dL_law_137 rfl ?_
    refine lv_bipush (v := 32) hx hb dL_law_138 (by decide) ?_
    refine lv_lshl (v := z4.toInt64 <<< ((32 : Int32).toInt64 &&& 63)) hx hb dL_law_140 rfl ?_
    refine lv_aload_n hx hb dL_law_141 rfl (lv_at hl 0 rfl) ?_
    refine lv_iload hx hb dL_law_142 (lv_at hl 4 rfl) ?_
    refine lv_iconst (v := 5) hx hb dL_law_144 (by decide) ?_
    refine lv_iadd hx hb dL_law_145 ?_
    refine va_sld hx hb hX hbl hbA hS (vo ex4 hi hL 5 (by decide)) dL_law_146 ?_
    refine fold_i ez5 ?_
    refine lv_i2l (v := z5.toInt64) hx hb dL_law_147 rfl ?_
    refine lv_ldc2 (v := 4294967295) hx hb hown (hts (Cond.constantLong RL 51 (4294967295)) (List.mem_append_left _ (List.mem_append_left _ (List.mem_append_left _ (List.mem_append_left _ (List.mem_of_getElem? (i := 7) rfl)))))) dL_law_148 ?_
    refine lv_land hx hb dL_law_151 ?_
    refine lv_lor hx hb dL_law_152 ?_
    refine fold_l ew ?_
    refine lv_aload_n hx hb dL_law_153 rfl (lv_at hl 0 rfl) ?_
    refine lv_iload hx hb dL_law_154 (lv_at hl 4 rfl) ?_
    refine lv_bipush (v := 6) hx hb dL_law_156 (by decide) ?_
    refine lv_iadd hx hb dL_law_158 ?_
    refine va_sld hx hb hX hbl hbA hS (vo ex4 hi hL 6 (by decide)) dL_law_159 ?_
    refine fold_i ez6 ?_
    refine lv_aload_n hx hb dL_law_160 rfl (lv_at hl 3 rfl) ?_
    have hf := hOK.2.1 n hn S M f z1 1 z3 w z6 (Or.inr rfl) hSm
    refine kLW (As := [.ref a.1, .int z1, .int 1, .int z3, .long w, .int z6, .ref o]) (rest := []) ⟨hx, hb, hml, hown, hts⟩ (c_L_want l dC dI y a gs o H.size S f z1 1 z3 w z6 _ hst hf) (vx_cwSW 7 hts gL_law_L_want rfl rfl rfl (by decide +kernel) ⟨Nat.le_of_ble_eq_true rfl, Nat.le_of_ble_eq_true rfl⟩) hK hXW hCW hZ hP hD hS hA rfl hl.1 rfl (Nat.le_of_ble_eq_true rfl) dL_law_161 hcs (fun k S1 gs1 f1 H locs hf hP hD hS => ?_)
    refine lv_istore (lv' := [(5, .int k), (0, .ref b), (1, .ref a.1), (2, .ref (am 0)), (3, .ref o), (4, .int x4)]) hx hb dL_law_164 hl (by decide) rfl (fun ls hl => ?_)
    refine lv_aload_n hx hb dL_law_166 rfl (lv_at hl 3 rfl) ?_
    refine lv_aload_n hx hb dL_law_167 rfl (lv_at hl 1 rfl) ?_
    refine lv_iload hx hb dL_law_168 (lv_at hl 5 rfl) ?_
    refine lv_iconst (v := 1) hx hb dL_law_170 (by decide) ?_
    refine lv_iadd hx hb dL_law_171 ?_
    refine va_sld hx hb hX hbl hbA hS (vo ex4 hi hL 1 (by decide)) dL_law_172 ?_
    refine fold_i ez1 ?_
    refine lv_aload_n hx hb dL_law_173 rfl (lv_at hl 1 rfl) ?_
    refine lv_iload hx hb dL_law_174 (lv_at hl 5 rfl) ?_
    refine lv_iconst (v := 2) hx hb dL_law_176 (by decide) ?_
    refine lv_iadd hx hb dL_law_177 ?_
    refine va_sld hx hb hX hbl hbA hS (vo ex4 hi hL 2 (by decide)) dL_law_178 ?_
    refine fold_i ez2 ?_
    refine lv_if_eq (tgt := 186) hx hb dL_law_179 (by decide) (fun c9 => absurd c9 hb2) (fun _ => ?_)
    refine lv_iconst (v := 1) hx hb dL_law_182 (by decide) ?_
    refine lv_goto (tgt := 187) hx hb dL_law_183 (by decide) ?_
    refine lv_aload_n hx hb dL_law_187 rfl (lv_at hl 1 rfl) ?_
    refine lv_iload hx hb dL_law_188 (lv_at hl 5 rfl) ?_
    refine lv_iconst (v := 3) hx hb dL_law_190 (by decide) ?_
    refine lv_iadd hx hb dL_law_191 ?_
    refine va_sld hx hb hX hbl hbA hS (vo ex4 hi hL 3 (by decide)) dL_law_192 ?_
    refine fold_i ez3 ?_
    refine lv_aload_n hx hb dL_law_193 rfl (lv_at hl 1 rfl) ?_
    refine lv_iload hx hb dL_law_194 (lv_at hl 5 rfl) ?_
    refine lv_iconst (v := 4) hx hb dL_law_196 (by decide) ?_
    refine lv_iadd hx hb dL_law_197 ?_
    refine va_sld hx hb hX hbl hbA hS (vo ex4 hi hL 4 (by decide)) dL_law_198 ?_
    refine fold_i ez4 ?_
    refine lv_i2l (v := z4.toInt64) hx hb dL_law_199 rfl ?_
    refine lv_bipush (v := 32) hx hb dL_law_200 (by decide) ?_
    refine lv_lshl (v := z4.toInt64 <<< ((32 : Int32).toInt64 &&& 63)) hx hb dL_law_202 rfl ?_
    refine lv_aload_n hx hb dL_law_203 rfl (lv_at hl 1 rfl) ?_
    refine lv_iload hx hb dL_law_204 (lv_at hl 5 rfl) ?_
    refine lv_iconst (v := 5) hx hb dL_law_206 (by decide) ?_
    refine lv_iadd hx hb dL_law_207 ?_
    refine va_sld hx hb hX hbl hbA hS (vo ex4 hi hL 5 (by decide)) dL_law_208 ?_
    refine fold_i ez5 ?_
    refine lv_i2l (v := z5.toInt64) hx hb dL_law_209 rfl ?_
    refine lv_ldc2 (v := 4294967295) hx hb hown (hts (Cond.constantLong RL 51 (4294967295)) (List.mem_append_left _ (List.mem_append_left _ (List.mem_append_left _ (List.mem_append_left _ (List.mem_of_getElem? (i := 7) rfl)))))) dL_law_210 ?_
    refine lv_land hx hb dL_law_213 ?_
    refine lv_lor hx hb dL_law_214 ?_
    refine fold_l ew ?_
    refine lv_aload_n hx hb dL_law_215 rfl (lv_at hl 1 rfl) ?_
    refine lv_iload hx hb dL_law_216 (lv_at hl 5 rfl) ?_
    refine lv_bipush (v := 6) hx hb dL_law_218 (by decide) ?_
    refine lv_iadd hx hb dL_law_220 ?_
    refine va_sld hx hb hX hbl hbA hS (vo ex4 hi hL 6 (by decide)) dL_law_221 ?_
    refine fold_i ez6 ?_
    refine kMi (As := [.int z1, .int 1, .int z3, .long w, .int z6]) (rest := []) ⟨hx, hb, hml, hown, hts⟩ (c_X5_want l dC dI y am H.size M z1 1 z3 w z6 _ hf) (cwV 5 hts gL_law_X5_want rfl rfl rfl (by decide +kernel) ⟨Nat.le_of_ble_eq_true rfl, Nat.le_of_ble_eq_true rfl⟩) hK hP hD (va_recv hK.1 hP (ci := 5) (q0 := 57) rfl rfl) hS hA rfl hl.1 rfl (Nat.le_of_ble_eq_true rfl) dL_law_222 hcs (fun b1 M1 H locs hf hP hD hS => ?_)
    obtain ⟨hSm1, hth, hval⟩ := hf
    refine lv_istore (lv' := [(6, .int b1), (5, .int k), (0, .ref b), (1, .ref a.1), (2, .ref (am 0)), (3, .ref o), (4, .int x4)]) hx hb dL_law_225 hl (by decide) rfl (fun ls hl => ?_)
    refine lv_aload_n hx hb dL_law_227 rfl (lv_at hl 4 rfl) ?_
    refine kMi (As := []) (rest := []) ⟨hx, hb, hml, hown, hts⟩ (c_X5_thrown l dC dI y am H.size M1 _ (th_ok M1)) (cwV 0 hts gL_law_X5_thrown rfl rfl rfl (by decide +kernel) ⟨Nat.le_of_ble_eq_true rfl, Nat.le_of_ble_eq_true rfl⟩) hK hP hD (va_recv hK.1 hP (ci := 5) (q0 := 57) rfl rfl) hS hA rfl hl.1 rfl (Nat.le_of_ble_eq_true rfl) dL_law_228 hcs (fun r M2 H locs hf hP hD hS => ?_)
    obtain ⟨hr9, e9⟩ := hf
    have e9 := e9.symm
    subst e9
    refine lv_iload hx hb dL_law_231 (lv_at hl 1 rfl) ?_
    refine lv_icmp_eq (tgt := 238) hx hb dL_law_233 (by decide) (fun _ => ?_) (fun c9 => absurd (hr9.trans hth) c9)
    refine lv_iload hx hb dL_law_238 (lv_at hl 1 rfl) ?_
    refine lv_if_ne (tgt := 255) hx hb dL_law_240 (by decide) (fun ck => ?_) (fun ck => ?_)
    · refine lv_goto (tgt := 780) hx hb dL_law_255 (by decide) ?_
      exact hk gs1 S1 f1 M1 H locs ls hSm1 hP hD hS (lv_sub hl [2, 3, 4, 5, 6] rfl)
    · have hv := hval ck
      refine lv_aload_n hx hb dL_law_243 rfl (lv_at hl 5 rfl) ?_
      refine lv_iconst (v := 0) hx hb dL_law_244 (by decide) ?_
      refine ar_lld (f := f1) (j := 0) hx hb hK.1 hP 56 1 wo_at rfl (clamp_lit 0 rfl) (vin_lit 0 1 rfl rfl) dL_law_245 ?_
      refine lv_iload hx hb dL_law_246 (lv_at hl 0 rfl) ?_
      refine lv_i2l (v := b1.toInt64) hx hb dL_law_248 rfl ?_
      refine W.lcmp hx hb dL_law_249 ?_
      refine fold_i (v := 0) (by rw [hv]; exact cmp0 _) ?_
      refine lv_if_eq (tgt := 255) hx hb dL_law_250 (by decide) (fun _ => ?_) (fun c9 => absurd rfl c9)
      refine lv_goto (tgt := 780) hx hb dL_law_255 (by decide) ?_
      exact hk gs1 S1 f1 M1 H locs ls hSm1 hP hD hS (lv_sub hl [2, 3, 4, 5, 6] rfl)

set_option maxHeartbeats 4000000 in
set_option maxRecDepth 100000 in
theorem law_step {p : Program} {l : Launch} {e : Env} {s : State} {m : MethodId} {below : List Frame} {meth : Method} {c : Code} {dC : Nat → ClassId} {dI : Nat → Nat → Nat} {y : Nat → ClassId} {b L : Nat} {xs : Nat → Int32} {Sm : Nat → WireS → ModelS → Prop} (hL : L ≤ 3584) (C0 : lw_At p s m meth c b L xs) (hLC : LCx l dC dI y s) (hOK : OKall Sm) (a : WireA) (o : Nat) (am : Nat → Nat) (n i : Nat) (x4 : Int32) (hn : n < 512) (ex4 : x4 = nI i) (hi : i + 7 ≤ L) (cells slots : Nat) (hcs : cells + 1 ≤ 601024 ∧ slots + 6 ≤ 7293033) (gs : Nat → Nat → Nat) (S : WireS) (f : Nat → Int64) (M : ModelS) (hSm : Sm n S M) (H : Heap) (locs : List Loc) (ls : Array Slot) (hP : va_P (dC, dI) vwCl (lwW y a o am gs S f M) H) (hD : va_D (fun q : Nat => s.heap.size ≤ q) (lwW y a o am gs S f M)) (hS : va_S (fun q : Nat => s.heap.size ≤ q) s.heap H locs) (hl : lv_has ls 8 [(0, .ref b), (1, .ref a.1), (2, .ref (am 0)), (3, .ref o), (4, .int x4)]) (hk : ∀ (gs1 : Nat → Nat → Nat) (S1 : WireS) (f1 : Nat → Int64) (M1 : ModelS) (H1 : Heap) (locs1 : List Loc) (ls1 : Array Slot), Sm (n + 1) S1 M1 → va_P (dC, dI) vwCl (lwW y a o am gs1 S1 f1 M1) H1 → va_D (fun q : Nat => s.heap.size ≤ q) (lwW y a o am gs1 S1 f1 M1) → va_S (fun q : Nat => s.heap.size ≤ q) s.heap H1 locs1 → lv_has ls1 8 [(0, .ref b), (1, .ref a.1), (2, .ref (am 0)), (3, .ref o), (4, .int x4)] → W p l e room_1 s m #[Value.ref b] below meth c H1 locs1 (cells + 1) (slots + 6) (lw_Z below #[Value.ref b] s) (F0 m 780 ls1 [])) : W p l e room_1 s m #[Value.ref b] below meth c H locs cells slots (lw_Z below #[Value.ref b] s) (F0 m 258 ls []) := by
  obtain ⟨hx, hb, hr, hml, hown, hts0, hX, hbl, hlocks, hgv⟩ := id C0
  obtain ⟨hK, hXW, hCW, hO, hZ, hst⟩ := id hLC
  have hts := fun w h => hts0 w (wsL_law_in w h)
  have hA : ∀ q : Nat, s.heap.size ≤ q → (fun q : Nat => s.heap.size ≤ q) q := fun _ h => h
  have hbA : ¬ (fun q : Nat => s.heap.size ≤ q) b := Nat.not_le.mpr hbl
  have hcs0 : cells ≤ 601024 ∧ slots ≤ 7293033 := ⟨by omega, by omega⟩
  obtain ⟨z1, ez1⟩ : ∃ z : Int32, xs (x4 + 1).toNatClampNeg = z := ⟨_, rfl⟩
  obtain ⟨z2, ez2⟩ : ∃ z : Int32, xs (x4 + 2).toNatClampNeg = z := ⟨_, rfl⟩
  refine lv_aload_n hx hb dL_law_258 rfl (lv_at hl 1 rfl) ?_
  refine lv_aload_n hx hb dL_law_259 rfl (lv_at hl 0 rfl) ?_
  refine lv_iload hx hb dL_law_260 (lv_at hl 4 rfl) ?_
  refine lv_iconst (v := 1) hx hb dL_law_262 (by decide) ?_
  refine lv_iadd hx hb dL_law_263 ?_
  refine va_sld hx hb hX hbl hbA hS (vo ex4 hi hL 1 (by decide)) dL_law_264 ?_
  refine fold_i ez1 ?_
  refine lv_aload_n hx hb dL_law_265 rfl (lv_at hl 0 rfl) ?_
  refine lv_iload hx hb dL_law_266 (lv_at hl 4 rfl) ?_
  refine lv_iconst (v := 2) hx hb dL_law_268 (by decide) ?_
  refine lv_iadd hx hb dL_law_269 ?_
  refine va_sld hx hb hX hbl hbA hS (vo ex4 hi hL 2 (by decide)) dL_law_270 ?_
  refine fold_i ez2 ?_
  refine lv_aload_n hx hb dL_law_271 rfl (lv_at hl 3 rfl) ?_
  have hf := hOK.2.2.1 n hn S M f z1 z2 hSm
  refine kLW (As := [.ref a.1, .int z1, .int z2, .ref o]) (rest := []) ⟨hx, hb, hml, hown, hts⟩ (c_L_step l dC dI y a gs o H.size S f z1 z2 _ hst hf) (vx_cwSW 4 hts gL_law_L_step rfl rfl rfl (by decide +kernel) ⟨Nat.le_of_ble_eq_true rfl, Nat.le_of_ble_eq_true rfl⟩) hK hXW hCW hZ hP hD hS hA rfl hl.1 rfl (Nat.le_of_ble_eq_true rfl) dL_law_272 hcs (fun k S1 gs1 f1 H locs hf hP hD hS => ?_)
  refine lv_istore (lv' := [(5, .int k), (0, .ref b), (1, .ref a.1), (2, .ref (am 0)), (3, .ref o), (4, .int x4)]) hx hb dL_law_275 hl (by decide) rfl (fun ls hl => ?_)
  refine lv_aload_n hx hb dL_law_277 rfl (lv_at hl 3 rfl) ?_
  refine lv_aload_n hx hb dL_law_278 rfl (lv_at hl 1 rfl) ?_
  refine lv_iload hx hb dL_law_279 (lv_at hl 5 rfl) ?_
  refine lv_iconst (v := 1) hx hb dL_law_281 (by decide) ?_
  refine lv_iadd hx hb dL_law_282 ?_
  refine va_sld hx hb hX hbl hbA hS (vo ex4 hi hL 1 (by decide)) dL_law_283 ?_
  refine fold_i ez1 ?_
  refine lv_aload_n hx hb dL_law_284 rfl (lv_at hl 1 rfl) ?_
  refine lv_iload hx hb dL_law_285 (lv_at hl 5 rfl) ?_
  refine lv_iconst (v := 2) hx hb dL_law_287 (by decide) ?_
  refine lv_iadd hx hb dL_law_288 ?_
  refine va_sld hx hb hX hbl hbA hS (vo ex4 hi hL 2 (by decide)) dL_law_289 ?_
  refine fold_i ez2 ?_
  refine kMi (As := [.int z1, .int z2]) (rest := []) ⟨hx, hb, hml, hown, hts⟩ (c_X5_step l dC dI y am H.size M z1 z2 _ hf) (cwV 2 hts gL_law_X5_step rfl rfl rfl (by decide +kernel) ⟨Nat.le_of_ble_eq_true rfl, Nat.le_of_ble_eq_true rfl⟩) hK hP hD (va_recv hK.1 hP (ci := 5) (q0 := 57) rfl rfl) hS hA rfl hl.1 rfl (Nat.le_of_ble_eq_true rfl) dL_law_290 hcs (fun b1 M1 H locs hf hP hD hS => ?_)
  obtain ⟨hSm1, hth, hval⟩ := hf
  refine lv_istore (lv' := [(6, .int b1), (5, .int k), (0, .ref b), (1, .ref a.1), (2, .ref (am 0)), (3, .ref o), (4, .int x4)]) hx hb dL_law_293 hl (by decide) rfl (fun ls hl => ?_)
  refine lv_aload_n hx hb dL_law_295 rfl (lv_at hl 4 rfl) ?_
  refine kMi (As := []) (rest := []) ⟨hx, hb, hml, hown, hts⟩ (c_X5_thrown l dC dI y am H.size M1 _ (th_ok M1)) (cwV 0 hts gL_law_X5_thrown rfl rfl rfl (by decide +kernel) ⟨Nat.le_of_ble_eq_true rfl, Nat.le_of_ble_eq_true rfl⟩) hK hP hD (va_recv hK.1 hP (ci := 5) (q0 := 57) rfl rfl) hS hA rfl hl.1 rfl (Nat.le_of_ble_eq_true rfl) dL_law_296 hcs (fun r M2 H locs hf hP hD hS => ?_)
  obtain ⟨hr9, e9⟩ := hf
  have e9 := e9.symm
  subst e9
  refine lv_iload hx hb dL_law_299 (lv_at hl 1 rfl) ?_
  refine lv_icmp_eq (tgt := 306) hx hb dL_law_301 (by decide) (fun _ => ?_) (fun c9 => absurd (hr9.trans hth) c9)
  refine lv_iload hx hb dL_law_306 (lv_at hl 1 rfl) ?_
  refine lv_if_ne (tgt := 323) hx hb dL_law_308 (by decide) (fun ck => ?_) (fun ck => ?_)
  · refine lv_goto (tgt := 780) hx hb dL_law_323 (by decide) ?_
    exact hk gs1 S1 f1 M1 H locs ls hSm1 hP hD hS (lv_sub hl [2, 3, 4, 5, 6] rfl)
  · have hv := hval ck
    refine lv_aload_n hx hb dL_law_311 rfl (lv_at hl 5 rfl) ?_
    refine lv_iconst (v := 0) hx hb dL_law_312 (by decide) ?_
    refine ar_lld (f := f1) (j := 0) hx hb hK.1 hP 56 1 wo_at rfl (clamp_lit 0 rfl) (vin_lit 0 1 rfl rfl) dL_law_313 ?_
    refine lv_iload hx hb dL_law_314 (lv_at hl 0 rfl) ?_
    refine lv_i2l (v := b1.toInt64) hx hb dL_law_316 rfl ?_
    refine W.lcmp hx hb dL_law_317 ?_
    refine fold_i (v := 0) (by rw [hv]; exact cmp0 _) ?_
    refine lv_if_eq (tgt := 323) hx hb dL_law_318 (by decide) (fun _ => ?_) (fun c9 => absurd rfl c9)
    refine lv_goto (tgt := 780) hx hb dL_law_323 (by decide) ?_
    exact hk gs1 S1 f1 M1 H locs ls hSm1 hP hD hS (lv_sub hl [2, 3, 4, 5, 6] rfl)

set_option maxHeartbeats 4000000 in
set_option maxRecDepth 100000 in
theorem law_join {p : Program} {l : Launch} {e : Env} {s : State} {m : MethodId} {below : List Frame} {meth : Method} {c : Code} {dC : Nat → ClassId} {dI : Nat → Nat → Nat} {y : Nat → ClassId} {b L : Nat} {xs : Nat → Int32} {Sm : Nat → WireS → ModelS → Prop} (hL : L ≤ 3584) (C0 : lw_At p s m meth c b L xs) (hLC : LCx l dC dI y s) (hOK : OKall Sm) (a : WireA) (o : Nat) (am : Nat → Nat) (n i : Nat) (x4 : Int32) (hn : n < 512) (ex4 : x4 = nI i) (hi : i + 7 ≤ L) (cells slots : Nat) (hcs : cells + 1 ≤ 601024 ∧ slots + 6 ≤ 7293033) (gs : Nat → Nat → Nat) (S : WireS) (f : Nat → Int64) (M : ModelS) (hSm : Sm n S M) (H : Heap) (locs : List Loc) (ls : Array Slot) (hP : va_P (dC, dI) vwCl (lwW y a o am gs S f M) H) (hD : va_D (fun q : Nat => s.heap.size ≤ q) (lwW y a o am gs S f M)) (hS : va_S (fun q : Nat => s.heap.size ≤ q) s.heap H locs) (hl : lv_has ls 8 [(0, .ref b), (1, .ref a.1), (2, .ref (am 0)), (3, .ref o), (4, .int x4)]) (hk : ∀ (gs1 : Nat → Nat → Nat) (S1 : WireS) (f1 : Nat → Int64) (M1 : ModelS) (H1 : Heap) (locs1 : List Loc) (ls1 : Array Slot), Sm (n + 1) S1 M1 → va_P (dC, dI) vwCl (lwW y a o am gs1 S1 f1 M1) H1 → va_D (fun q : Nat => s.heap.size ≤ q) (lwW y a o am gs1 S1 f1 M1) → va_S (fun q : Nat => s.heap.size ≤ q) s.heap H1 locs1 → lv_has ls1 8 [(0, .ref b), (1, .ref a.1), (2, .ref (am 0)), (3, .ref o), (4, .int x4)] → W p l e room_1 s m #[Value.ref b] below meth c H1 locs1 (cells + 1) (slots + 6) (lw_Z below #[Value.ref b] s) (F0 m 780 ls1 [])) : W p l e room_1 s m #[Value.ref b] below meth c H locs cells slots (lw_Z below #[Value.ref b] s) (F0 m 326 ls []) := by
  obtain ⟨hx, hb, hr, hml, hown, hts0, hX, hbl, hlocks, hgv⟩ := id C0
  obtain ⟨hK, hXW, hCW, hO, hZ, hst⟩ := id hLC
  have hts := fun w h => hts0 w (wsL_law_in w h)
  have hA : ∀ q : Nat, s.heap.size ≤ q → (fun q : Nat => s.heap.size ≤ q) q := fun _ h => h
  have hbA : ¬ (fun q : Nat => s.heap.size ≤ q) b := Nat.not_le.mpr hbl
  have hcs0 : cells ≤ 601024 ∧ slots ≤ 7293033 := ⟨by omega, by omega⟩
  obtain ⟨z1, ez1⟩ : ∃ z : Int32, xs (x4 + 1).toNatClampNeg = z := ⟨_, rfl⟩
  refine lv_aload_n hx hb dL_law_326 rfl (lv_at hl 1 rfl) ?_
  refine lv_aload_n hx hb dL_law_327 rfl (lv_at hl 0 rfl) ?_
  refine lv_iload hx hb dL_law_328 (lv_at hl 4 rfl) ?_
  refine lv_iconst (v := 1) hx hb dL_law_330 (by decide) ?_
  refine lv_iadd hx hb dL_law_331 ?_
  refine va_sld hx hb hX hbl hbA hS (vo ex4 hi hL 1 (by decide)) dL_law_332 ?_
  refine fold_i ez1 ?_
  refine lv_aload_n hx hb dL_law_333 rfl (lv_at hl 3 rfl) ?_
  have hf := hOK.2.2.2.1 n hn S M f z1 hSm
  refine kLW (As := [.ref a.1, .int z1, .ref o]) (rest := []) ⟨hx, hb, hml, hown, hts⟩ (c_L_join l dC dI y a gs o H.size S f z1 _ hst hf) (vx_cwSW 3 hts gL_law_L_join rfl rfl rfl (by decide +kernel) ⟨Nat.le_of_ble_eq_true rfl, Nat.le_of_ble_eq_true rfl⟩) hK hXW hCW hZ hP hD hS hA rfl hl.1 rfl (Nat.le_of_ble_eq_true rfl) dL_law_334 hcs (fun k S1 gs1 f1 H locs hf hP hD hS => ?_)
  refine lv_istore (lv' := [(5, .int k), (0, .ref b), (1, .ref a.1), (2, .ref (am 0)), (3, .ref o), (4, .int x4)]) hx hb dL_law_337 hl (by decide) rfl (fun ls hl => ?_)
  refine lv_aload_n hx hb dL_law_339 rfl (lv_at hl 3 rfl) ?_
  refine lv_aload_n hx hb dL_law_340 rfl (lv_at hl 1 rfl) ?_
  refine lv_iload hx hb dL_law_341 (lv_at hl 5 rfl) ?_
  refine lv_iconst (v := 1) hx hb dL_law_343 (by decide) ?_
  refine lv_iadd hx hb dL_law_344 ?_
  refine va_sld hx hb hX hbl hbA hS (vo ex4 hi hL 1 (by decide)) dL_law_345 ?_
  refine fold_i ez1 ?_
  refine kMi (As := [.int z1]) (rest := []) ⟨hx, hb, hml, hown, hts⟩ (c_X5_join l dC dI y am H.size M z1 _ hf) (cwV 1 hts gL_law_X5_join rfl rfl rfl (by decide +kernel) ⟨Nat.le_of_ble_eq_true rfl, Nat.le_of_ble_eq_true rfl⟩) hK hP hD (va_recv hK.1 hP (ci := 5) (q0 := 57) rfl rfl) hS hA rfl hl.1 rfl (Nat.le_of_ble_eq_true rfl) dL_law_346 hcs (fun b1 M1 H locs hf hP hD hS => ?_)
  obtain ⟨hSm1, hth, hval⟩ := hf
  refine lv_istore (lv' := [(6, .int b1), (5, .int k), (0, .ref b), (1, .ref a.1), (2, .ref (am 0)), (3, .ref o), (4, .int x4)]) hx hb dL_law_349 hl (by decide) rfl (fun ls hl => ?_)
  refine lv_aload_n hx hb dL_law_351 rfl (lv_at hl 4 rfl) ?_
  refine kMi (As := []) (rest := []) ⟨hx, hb, hml, hown, hts⟩ (c_X5_thrown l dC dI y am H.size M1 _ (th_ok M1)) (cwV 0 hts gL_law_X5_thrown rfl rfl rfl (by decide +kernel) ⟨Nat.le_of_ble_eq_true rfl, Nat.le_of_ble_eq_true rfl⟩) hK hP hD (va_recv hK.1 hP (ci := 5) (q0 := 57) rfl rfl) hS hA rfl hl.1 rfl (Nat.le_of_ble_eq_true rfl) dL_law_352 hcs (fun r M2 H locs hf hP hD hS => ?_)
  obtain ⟨hr9, e9⟩ := hf
  have e9 := e9.symm
  subst e9
  refine lv_iload hx hb dL_law_355 (lv_at hl 1 rfl) ?_
  refine lv_icmp_eq (tgt := 362) hx hb dL_law_357 (by decide) (fun _ => ?_) (fun c9 => absurd (hr9.trans hth) c9)
  refine lv_iload hx hb dL_law_362 (lv_at hl 1 rfl) ?_
  refine lv_if_ne (tgt := 386) hx hb dL_law_364 (by decide) (fun ck => ?_) (fun ck => ?_)
  · refine lv_goto (tgt := 780) hx hb dL_law_386 (by decide) ?_
    exact hk gs1 S1 f1 M1 H locs ls hSm1 hP hD hS (lv_sub hl [2, 3, 4, 5, 6] rfl)
  · have hv := hval ck
    refine lv_aload_n hx hb dL_law_367 rfl (lv_at hl 5 rfl) ?_
    refine lv_iconst (v := 0) hx hb dL_law_368 (by decide) ?_
    refine ar_lld (f := f1) (j := 0) hx hb hK.1 hP 56 1 wo_at rfl (clamp_lit 0 rfl) (vin_lit 0 1 rfl rfl) dL_law_369 ?_
    refine lv_iload hx hb dL_law_370 (lv_at hl 0 rfl) ?_
    refine lv_if_eq (tgt := 379) hx hb dL_law_372 (by decide) (fun cb => ?_) (fun cb => ?_)
    · refine lv_lconst (v := 0) hx hb dL_law_379 (by decide) ?_
      refine W.lcmp hx hb dL_law_380 ?_
      refine fold_i (v := 0) (by rw [hv.1 cb]; exact cmp0 _) ?_
      refine lv_if_eq (tgt := 386) hx hb dL_law_381 (by decide) (fun _ => ?_) (fun c9 => absurd rfl c9)
      refine lv_goto (tgt := 780) hx hb dL_law_386 (by decide) ?_
      exact hk gs1 S1 f1 M1 H locs ls hSm1 hP hD hS (lv_sub hl [2, 3, 4, 5, 6] rfl)
    · refine lv_lconst (v := 1) hx hb dL_law_375 (by decide) ?_
      refine lv_goto (tgt := 380) hx hb dL_law_376 (by decide) ?_
      refine W.lcmp hx hb dL_law_380 ?_
      refine fold_i (v := 0) (by rw [hv.2 cb]; exact cmp0 _) ?_
      refine lv_if_eq (tgt := 386) hx hb dL_law_381 (by decide) (fun _ => ?_) (fun c9 => absurd rfl c9)
      refine lv_goto (tgt := 780) hx hb dL_law_386 (by decide) ?_
      exact hk gs1 S1 f1 M1 H locs ls hSm1 hP hD hS (lv_sub hl [2, 3, 4, 5, 6] rfl)

set_option maxHeartbeats 4000000 in
set_option maxRecDepth 100000 in
theorem law_wire {p : Program} {l : Launch} {e : Env} {s : State} {m : MethodId} {below : List Frame} {meth : Method} {c : Code} {dC : Nat → ClassId} {dI : Nat → Nat → Nat} {y : Nat → ClassId} {b L : Nat} {xs : Nat → Int32} {Sm : Nat → WireS → ModelS → Prop} (hL : L ≤ 3584) (C0 : lw_At p s m meth c b L xs) (hLC : LCx l dC dI y s) (hOK : OKall Sm) (a : WireA) (o : Nat) (am : Nat → Nat) (n i : Nat) (x4 : Int32) (hn : n < 512) (ex4 : x4 = nI i) (hi : i + 7 ≤ L) (cells slots : Nat) (hcs : cells + 1 ≤ 601024 ∧ slots + 6 ≤ 7293033) (gs : Nat → Nat → Nat) (S : WireS) (f : Nat → Int64) (M : ModelS) (hSm : Sm n S M) (H : Heap) (locs : List Loc) (ls : Array Slot) (hP : va_P (dC, dI) vwCl (lwW y a o am gs S f M) H) (hD : va_D (fun q : Nat => s.heap.size ≤ q) (lwW y a o am gs S f M)) (hS : va_S (fun q : Nat => s.heap.size ≤ q) s.heap H locs) (hl : lv_has ls 8 [(0, .ref b), (1, .ref a.1), (2, .ref (am 0)), (3, .ref o), (4, .int x4)]) (hk : ∀ (gs1 : Nat → Nat → Nat) (S1 : WireS) (f1 : Nat → Int64) (M1 : ModelS) (H1 : Heap) (locs1 : List Loc) (ls1 : Array Slot), Sm (n + 1) S1 M1 → va_P (dC, dI) vwCl (lwW y a o am gs1 S1 f1 M1) H1 → va_D (fun q : Nat => s.heap.size ≤ q) (lwW y a o am gs1 S1 f1 M1) → va_S (fun q : Nat => s.heap.size ≤ q) s.heap H1 locs1 → lv_has ls1 8 [(0, .ref b), (1, .ref a.1), (2, .ref (am 0)), (3, .ref o), (4, .int x4)] → W p l e room_1 s m #[Value.ref b] below meth c H1 locs1 (cells + 1) (slots + 6) (lw_Z below #[Value.ref b] s) (F0 m 780 ls1 [])) : W p l e room_1 s m #[Value.ref b] below meth c H locs cells slots (lw_Z below #[Value.ref b] s) (F0 m 389 ls []) := by
  obtain ⟨hx, hb, hr, hml, hown, hts0, hX, hbl, hlocks, hgv⟩ := id C0
  obtain ⟨hK, hXW, hCW, hO, hZ, hst⟩ := id hLC
  have hts := fun w h => hts0 w (wsL_law_in w h)
  have hA : ∀ q : Nat, s.heap.size ≤ q → (fun q : Nat => s.heap.size ≤ q) q := fun _ h => h
  have hbA : ¬ (fun q : Nat => s.heap.size ≤ q) b := Nat.not_le.mpr hbl
  have hcs0 : cells ≤ 601024 ∧ slots ≤ 7293033 := ⟨by omega, by omega⟩
  refine lv_aload_n hx hb dL_law_389 rfl (lv_at hl 1 rfl) ?_
  have hf := hOK.2.2.2.2.1 n hn S M hSm
  refine kLi (As := []) (rest := []) ⟨hx, hb, hml, hown, hts⟩ (c_X4_wire l dC dI y a gs H.size S _ hf) (cwV 0 hts gL_law_X4_wire rfl rfl rfl (by decide +kernel) ⟨Nat.le_of_ble_eq_true rfl, Nat.le_of_ble_eq_true rfl⟩) hK hP hD (va_recv hK.1 hP (ci := 4) (q0 := 0) rfl rfl) hS hA rfl hl.1 rfl (Nat.le_of_ble_eq_true rfl) dL_law_390 hcs0 (fun r S1 H locs hf hP hD hS => ?_)
  obtain ⟨hf, e9⟩ := hf
  have e9 := e9.symm
  subst e9
  refine lv_aload_n hx hb dL_law_393 rfl (lv_at hl 2 rfl) ?_
  refine kMi (As := []) (rest := [.int r]) ⟨hx, hb, hml, hown, hts⟩ (c_X5_wire l dC dI y am H.size M _ hf) (cwV 0 hts gL_law_X5_wire rfl rfl rfl (by decide +kernel) ⟨Nat.le_of_ble_eq_true rfl, Nat.le_of_ble_eq_true rfl⟩) hK hP hD (va_recv hK.1 hP (ci := 5) (q0 := 57) rfl rfl) hS hA rfl hl.1 rfl (Nat.le_of_ble_eq_true rfl) dL_law_394 hcs0 (fun b1 M1 H locs hf hP hD hS => ?_)
  obtain ⟨hSm1, hrb⟩ := hf
  refine lv_icmp_eq (tgt := 780) hx hb dL_law_397 (by decide) (fun _ => ?_) (fun c9 => absurd hrb c9)
  refine W.widen (k := cells + 1) (n := slots + 6) (Nat.le_add_right _ _) (Nat.le_add_right _ _) ?_
  exact hk gs S f M1 H locs ls hSm1 hP hD hS (lv_sub hl [0, 1, 2, 3, 4] rfl)

set_option maxHeartbeats 4000000 in
set_option maxRecDepth 100000 in
theorem law_node {p : Program} {l : Launch} {e : Env} {s : State} {m : MethodId} {below : List Frame} {meth : Method} {c : Code} {dC : Nat → ClassId} {dI : Nat → Nat → Nat} {y : Nat → ClassId} {b L : Nat} {xs : Nat → Int32} {Sm : Nat → WireS → ModelS → Prop} (hL : L ≤ 3584) (C0 : lw_At p s m meth c b L xs) (hLC : LCx l dC dI y s) (hOK : OKall Sm) (a : WireA) (o : Nat) (am : Nat → Nat) (n i : Nat) (x4 : Int32) (hn : n < 512) (ex4 : x4 = nI i) (hi : i + 7 ≤ L) (cells slots : Nat) (hcs : cells + 1 ≤ 601024 ∧ slots + 6 ≤ 7293033) (gs : Nat → Nat → Nat) (S : WireS) (f : Nat → Int64) (M : ModelS) (hSm : Sm n S M) (H : Heap) (locs : List Loc) (ls : Array Slot) (hP : va_P (dC, dI) vwCl (lwW y a o am gs S f M) H) (hD : va_D (fun q : Nat => s.heap.size ≤ q) (lwW y a o am gs S f M)) (hS : va_S (fun q : Nat => s.heap.size ≤ q) s.heap H locs) (hl : lv_has ls 8 [(0, .ref b), (1, .ref a.1), (2, .ref (am 0)), (3, .ref o), (4, .int x4)]) (hk : ∀ (gs1 : Nat → Nat → Nat) (S1 : WireS) (f1 : Nat → Int64) (M1 : ModelS) (H1 : Heap) (locs1 : List Loc) (ls1 : Array Slot), Sm (n + 1) S1 M1 → va_P (dC, dI) vwCl (lwW y a o am gs1 S1 f1 M1) H1 → va_D (fun q : Nat => s.heap.size ≤ q) (lwW y a o am gs1 S1 f1 M1) → va_S (fun q : Nat => s.heap.size ≤ q) s.heap H1 locs1 → lv_has ls1 8 [(0, .ref b), (1, .ref a.1), (2, .ref (am 0)), (3, .ref o), (4, .int x4)] → W p l e room_1 s m #[Value.ref b] below meth c H1 locs1 (cells + 1) (slots + 6) (lw_Z below #[Value.ref b] s) (F0 m 780 ls1 [])) : W p l e room_1 s m #[Value.ref b] below meth c H locs cells slots (lw_Z below #[Value.ref b] s) (F0 m 402 ls []) := by
  obtain ⟨hx, hb, hr, hml, hown, hts0, hX, hbl, hlocks, hgv⟩ := id C0
  obtain ⟨hK, hXW, hCW, hO, hZ, hst⟩ := id hLC
  have hts := fun w h => hts0 w (wsL_law_in w h)
  have hA : ∀ q : Nat, s.heap.size ≤ q → (fun q : Nat => s.heap.size ≤ q) q := fun _ h => h
  have hbA : ¬ (fun q : Nat => s.heap.size ≤ q) b := Nat.not_le.mpr hbl
  have hcs0 : cells ≤ 601024 ∧ slots ≤ 7293033 := ⟨by omega, by omega⟩
  obtain ⟨z1, ez1⟩ : ∃ z : Int32, xs (x4 + 1).toNatClampNeg = z := ⟨_, rfl⟩
  obtain ⟨z2, ez2⟩ : ∃ z : Int32, xs (x4 + 2).toNatClampNeg = z := ⟨_, rfl⟩
  refine lv_aload_n hx hb dL_law_402 rfl (lv_at hl 1 rfl) ?_
  refine lv_aload_n hx hb dL_law_403 rfl (lv_at hl 0 rfl) ?_
  refine lv_iload hx hb dL_law_404 (lv_at hl 4 rfl) ?_
  refine lv_iconst (v := 1) hx hb dL_law_406 (by decide) ?_
  refine lv_iadd hx hb dL_law_407 ?_
  refine va_sld hx hb hX hbl hbA hS (vo ex4 hi hL 1 (by decide)) dL_law_408 ?_
  refine fold_i ez1 ?_
  refine lv_aload_n hx hb dL_law_409 rfl (lv_at hl 0 rfl) ?_
  refine lv_iload hx hb dL_law_410 (lv_at hl 4 rfl) ?_
  refine lv_iconst (v := 2) hx hb dL_law_412 (by decide) ?_
  refine lv_iadd hx hb dL_law_413 ?_
  refine va_sld hx hb hX hbl hbA hS (vo ex4 hi hL 2 (by decide)) dL_law_414 ?_
  refine fold_i ez2 ?_
  refine lv_aload_n hx hb dL_law_415 rfl (lv_at hl 3 rfl) ?_
  have hf := hOK.2.2.2.2.2.1 n hn S M f z1 z2 hSm
  refine kLW (As := [.ref a.1, .int z1, .int z2, .ref o]) (rest := []) ⟨hx, hb, hml, hown, hts⟩ (c_L_node l dC dI y a gs o H.size S f z1 z2 _ hst hf) (vx_cwSW 4 hts gL_law_L_node rfl rfl rfl (by decide +kernel) ⟨Nat.le_of_ble_eq_true rfl, Nat.le_of_ble_eq_true rfl⟩) hK hXW hCW hZ hP hD hS hA rfl hl.1 rfl (Nat.le_of_ble_eq_true rfl) dL_law_416 hcs (fun k S1 gs1 f1 H locs hf hP hD hS => ?_)
  refine lv_istore (lv' := [(5, .int k), (0, .ref b), (1, .ref a.1), (2, .ref (am 0)), (3, .ref o), (4, .int x4)]) hx hb dL_law_419 hl (by decide) rfl (fun ls hl => ?_)
  refine lv_aload_n hx hb dL_law_421 rfl (lv_at hl 3 rfl) ?_
  refine lv_aload_n hx hb dL_law_422 rfl (lv_at hl 1 rfl) ?_
  refine lv_iload hx hb dL_law_423 (lv_at hl 5 rfl) ?_
  refine lv_iconst (v := 1) hx hb dL_law_425 (by decide) ?_
  refine lv_iadd hx hb dL_law_426 ?_
  refine va_sld hx hb hX hbl hbA hS (vo ex4 hi hL 1 (by decide)) dL_law_427 ?_
  refine fold_i ez1 ?_
  refine lv_aload_n hx hb dL_law_428 rfl (lv_at hl 1 rfl) ?_
  refine lv_iload hx hb dL_law_429 (lv_at hl 5 rfl) ?_
  refine lv_iconst (v := 2) hx hb dL_law_431 (by decide) ?_
  refine lv_iadd hx hb dL_law_432 ?_
  refine va_sld hx hb hX hbl hbA hS (vo ex4 hi hL 2 (by decide)) dL_law_433 ?_
  refine fold_i ez2 ?_
  refine kMi (As := [.int z1, .int z2]) (rest := []) ⟨hx, hb, hml, hown, hts⟩ (c_X5_node l dC dI y am H.size M z1 z2 _ hf) (cwV 2 hts gL_law_X5_node rfl rfl rfl (by decide +kernel) ⟨Nat.le_of_ble_eq_true rfl, Nat.le_of_ble_eq_true rfl⟩) hK hP hD (va_recv hK.1 hP (ci := 5) (q0 := 57) rfl rfl) hS hA rfl hl.1 rfl (Nat.le_of_ble_eq_true rfl) dL_law_434 hcs (fun b1 M1 H locs hf hP hD hS => ?_)
  obtain ⟨hSm1, hth, hval⟩ := hf
  refine lv_istore (lv' := [(6, .int b1), (5, .int k), (0, .ref b), (1, .ref a.1), (2, .ref (am 0)), (3, .ref o), (4, .int x4)]) hx hb dL_law_437 hl (by decide) rfl (fun ls hl => ?_)
  refine lv_aload_n hx hb dL_law_439 rfl (lv_at hl 4 rfl) ?_
  refine kMi (As := []) (rest := []) ⟨hx, hb, hml, hown, hts⟩ (c_X5_thrown l dC dI y am H.size M1 _ (th_ok M1)) (cwV 0 hts gL_law_X5_thrown rfl rfl rfl (by decide +kernel) ⟨Nat.le_of_ble_eq_true rfl, Nat.le_of_ble_eq_true rfl⟩) hK hP hD (va_recv hK.1 hP (ci := 5) (q0 := 57) rfl rfl) hS hA rfl hl.1 rfl (Nat.le_of_ble_eq_true rfl) dL_law_440 hcs (fun r M2 H locs hf hP hD hS => ?_)
  obtain ⟨hr9, e9⟩ := hf
  have e9 := e9.symm
  subst e9
  refine lv_iload hx hb dL_law_443 (lv_at hl 1 rfl) ?_
  refine lv_icmp_eq (tgt := 450) hx hb dL_law_445 (by decide) (fun _ => ?_) (fun c9 => absurd (hr9.trans hth) c9)
  refine lv_iload hx hb dL_law_450 (lv_at hl 1 rfl) ?_
  refine lv_if_ne (tgt := 467) hx hb dL_law_452 (by decide) (fun ck => ?_) (fun ck => ?_)
  · refine lv_goto (tgt := 780) hx hb dL_law_467 (by decide) ?_
    exact hk gs1 S1 f1 M1 H locs ls hSm1 hP hD hS (lv_sub hl [2, 3, 4, 5, 6] rfl)
  · have hv := hval ck
    refine lv_aload_n hx hb dL_law_455 rfl (lv_at hl 5 rfl) ?_
    refine lv_iconst (v := 0) hx hb dL_law_456 (by decide) ?_
    refine ar_lld (f := f1) (j := 0) hx hb hK.1 hP 56 1 wo_at rfl (clamp_lit 0 rfl) (vin_lit 0 1 rfl rfl) dL_law_457 ?_
    refine lv_iload hx hb dL_law_458 (lv_at hl 0 rfl) ?_
    refine lv_i2l (v := b1.toInt64) hx hb dL_law_460 rfl ?_
    refine W.lcmp hx hb dL_law_461 ?_
    refine fold_i (v := 0) (by rw [hv]; exact cmp0 _) ?_
    refine lv_if_eq (tgt := 467) hx hb dL_law_462 (by decide) (fun _ => ?_) (fun c9 => absurd rfl c9)
    refine lv_goto (tgt := 780) hx hb dL_law_467 (by decide) ?_
    exact hk gs1 S1 f1 M1 H locs ls hSm1 hP hD hS (lv_sub hl [2, 3, 4, 5, 6] rfl)

set_option maxHeartbeats 4000000 in
set_option maxRecDepth 100000 in
theorem law_received {p : Program} {l : Launch} {e : Env} {s : State} {m : MethodId} {below : List Frame} {meth : Method} {c : Code} {dC : Nat → ClassId} {dI : Nat → Nat → Nat} {y : Nat → ClassId} {b L : Nat} {xs : Nat → Int32} {Sm : Nat → WireS → ModelS → Prop} (hL : L ≤ 3584) (C0 : lw_At p s m meth c b L xs) (hLC : LCx l dC dI y s) (hOK : OKall Sm) (a : WireA) (o : Nat) (am : Nat → Nat) (n i : Nat) (x4 : Int32) (hn : n < 512) (ex4 : x4 = nI i) (hi : i + 7 ≤ L) (cells slots : Nat) (hcs : cells + 1 ≤ 601024 ∧ slots + 6 ≤ 7293033) (gs : Nat → Nat → Nat) (S : WireS) (f : Nat → Int64) (M : ModelS) (hSm : Sm n S M) (H : Heap) (locs : List Loc) (ls : Array Slot) (hP : va_P (dC, dI) vwCl (lwW y a o am gs S f M) H) (hD : va_D (fun q : Nat => s.heap.size ≤ q) (lwW y a o am gs S f M)) (hS : va_S (fun q : Nat => s.heap.size ≤ q) s.heap H locs) (hl : lv_has ls 8 [(0, .ref b), (1, .ref a.1), (2, .ref (am 0)), (3, .ref o), (4, .int x4)]) (hk : ∀ (gs1 : Nat → Nat → Nat) (S1 : WireS) (f1 : Nat → Int64) (M1 : ModelS) (H1 : Heap) (locs1 : List Loc) (ls1 : Array Slot), Sm (n + 1) S1 M1 → va_P (dC, dI) vwCl (lwW y a o am gs1 S1 f1 M1) H1 → va_D (fun q : Nat => s.heap.size ≤ q) (lwW y a o am gs1 S1 f1 M1) → va_S (fun q : Nat => s.heap.size ≤ q) s.heap H1 locs1 → lv_has ls1 8 [(0, .ref b), (1, .ref a.1), (2, .ref (am 0)), (3, .ref o), (4, .int x4)] → W p l e room_1 s m #[Value.ref b] below meth c H1 locs1 (cells + 1) (slots + 6) (lw_Z below #[Value.ref b] s) (F0 m 780 ls1 [])) : W p l e room_1 s m #[Value.ref b] below meth c H locs cells slots (lw_Z below #[Value.ref b] s) (F0 m 470 ls []) := by
  obtain ⟨hx, hb, hr, hml, hown, hts0, hX, hbl, hlocks, hgv⟩ := id C0
  obtain ⟨hK, hXW, hCW, hO, hZ, hst⟩ := id hLC
  have hts := fun w h => hts0 w (wsL_law_in w h)
  have hA : ∀ q : Nat, s.heap.size ≤ q → (fun q : Nat => s.heap.size ≤ q) q := fun _ h => h
  have hbA : ¬ (fun q : Nat => s.heap.size ≤ q) b := Nat.not_le.mpr hbl
  have hcs0 : cells ≤ 601024 ∧ slots ≤ 7293033 := ⟨by omega, by omega⟩
  obtain ⟨z1, ez1⟩ : ∃ z : Int32, xs (x4 + 1).toNatClampNeg = z := ⟨_, rfl⟩
  obtain ⟨z2, ez2⟩ : ∃ z : Int32, xs (x4 + 2).toNatClampNeg = z := ⟨_, rfl⟩
  refine lv_aload_n hx hb dL_law_470 rfl (lv_at hl 1 rfl) ?_
  refine lv_aload_n hx hb dL_law_471 rfl (lv_at hl 0 rfl) ?_
  refine lv_iload hx hb dL_law_472 (lv_at hl 4 rfl) ?_
  refine lv_iconst (v := 1) hx hb dL_law_474 (by decide) ?_
  refine lv_iadd hx hb dL_law_475 ?_
  refine va_sld hx hb hX hbl hbA hS (vo ex4 hi hL 1 (by decide)) dL_law_476 ?_
  refine fold_i ez1 ?_
  refine lv_aload_n hx hb dL_law_477 rfl (lv_at hl 0 rfl) ?_
  refine lv_iload hx hb dL_law_478 (lv_at hl 4 rfl) ?_
  refine lv_iconst (v := 2) hx hb dL_law_480 (by decide) ?_
  refine lv_iadd hx hb dL_law_481 ?_
  refine va_sld hx hb hX hbl hbA hS (vo ex4 hi hL 2 (by decide)) dL_law_482 ?_
  refine fold_i ez2 ?_
  refine lv_aload_n hx hb dL_law_483 rfl (lv_at hl 3 rfl) ?_
  have hf := hOK.2.2.2.2.2.2.1 n hn S M f z1 z2 hSm
  refine kLW (As := [.ref a.1, .int z1, .int z2, .ref o]) (rest := []) ⟨hx, hb, hml, hown, hts⟩ (c_L_received l dC dI y a gs o H.size S f z1 z2 _ hst hf) (vx_cwSW 4 hts gL_law_L_received rfl rfl rfl (by decide +kernel) ⟨Nat.le_of_ble_eq_true rfl, Nat.le_of_ble_eq_true rfl⟩) hK hXW hCW hZ hP hD hS hA rfl hl.1 rfl (Nat.le_of_ble_eq_true rfl) dL_law_484 hcs (fun k S1 gs1 f1 H locs hf hP hD hS => ?_)
  refine lv_istore (lv' := [(5, .int k), (0, .ref b), (1, .ref a.1), (2, .ref (am 0)), (3, .ref o), (4, .int x4)]) hx hb dL_law_487 hl (by decide) rfl (fun ls hl => ?_)
  refine lv_aload_n hx hb dL_law_489 rfl (lv_at hl 3 rfl) ?_
  refine lv_aload_n hx hb dL_law_490 rfl (lv_at hl 1 rfl) ?_
  refine lv_iload hx hb dL_law_491 (lv_at hl 5 rfl) ?_
  refine lv_iconst (v := 1) hx hb dL_law_493 (by decide) ?_
  refine lv_iadd hx hb dL_law_494 ?_
  refine va_sld hx hb hX hbl hbA hS (vo ex4 hi hL 1 (by decide)) dL_law_495 ?_
  refine fold_i ez1 ?_
  refine lv_aload_n hx hb dL_law_496 rfl (lv_at hl 1 rfl) ?_
  refine lv_iload hx hb dL_law_497 (lv_at hl 5 rfl) ?_
  refine lv_iconst (v := 2) hx hb dL_law_499 (by decide) ?_
  refine lv_iadd hx hb dL_law_500 ?_
  refine va_sld hx hb hX hbl hbA hS (vo ex4 hi hL 2 (by decide)) dL_law_501 ?_
  refine fold_i ez2 ?_
  refine kMl (As := [.int z1, .int z2]) (rest := []) ⟨hx, hb, hml, hown, hts⟩ (c_X5_received l dC dI y am H.size M z1 z2 _ hf) (cwV 2 hts gL_law_X5_received rfl rfl rfl (by decide +kernel) ⟨Nat.le_of_ble_eq_true rfl, Nat.le_of_ble_eq_true rfl⟩) hK hP hD (va_recv hK.1 hP (ci := 5) (q0 := 57) rfl rfl) hS hA rfl hl.1 rfl (Nat.le_of_ble_eq_true rfl) dL_law_502 hcs (fun b1 M1 H locs hf hP hD hS => ?_)
  obtain ⟨hSm1, hth, hval⟩ := hf
  refine lv_lstore (lv' := [(6, .long b1), (5, .int k), (0, .ref b), (1, .ref a.1), (2, .ref (am 0)), (3, .ref o), (4, .int x4)]) hx hb dL_law_505 hl (by decide) rfl (fun ls hl => ?_)
  refine lv_aload_n hx hb dL_law_507 rfl (lv_at hl 4 rfl) ?_
  refine kMi (As := []) (rest := []) ⟨hx, hb, hml, hown, hts⟩ (c_X5_thrown l dC dI y am H.size M1 _ (th_ok M1)) (cwV 0 hts gL_law_X5_thrown rfl rfl rfl (by decide +kernel) ⟨Nat.le_of_ble_eq_true rfl, Nat.le_of_ble_eq_true rfl⟩) hK hP hD (va_recv hK.1 hP (ci := 5) (q0 := 57) rfl rfl) hS hA rfl hl.1 rfl (Nat.le_of_ble_eq_true rfl) dL_law_508 hcs (fun r M2 H locs hf hP hD hS => ?_)
  obtain ⟨hr9, e9⟩ := hf
  have e9 := e9.symm
  subst e9
  refine lv_iload hx hb dL_law_511 (lv_at hl 1 rfl) ?_
  refine lv_icmp_eq (tgt := 518) hx hb dL_law_513 (by decide) (fun _ => ?_) (fun c9 => absurd (hr9.trans hth) c9)
  refine lv_iload hx hb dL_law_518 (lv_at hl 1 rfl) ?_
  refine lv_if_ne (tgt := 534) hx hb dL_law_520 (by decide) (fun ck => ?_) (fun ck => ?_)
  · refine lv_goto (tgt := 780) hx hb dL_law_534 (by decide) ?_
    exact hk gs1 S1 f1 M1 H locs ls hSm1 hP hD hS (lv_sub hl [2, 3, 4, 5, 6] rfl)
  · have hv := hval ck
    refine lv_aload_n hx hb dL_law_523 rfl (lv_at hl 5 rfl) ?_
    refine lv_iconst (v := 0) hx hb dL_law_524 (by decide) ?_
    refine ar_lld (f := f1) (j := 0) hx hb hK.1 hP 56 1 wo_at rfl (clamp_lit 0 rfl) (vin_lit 0 1 rfl rfl) dL_law_525 ?_
    refine lv_lload hx hb dL_law_526 (lv_at hl 0 rfl) ?_
    refine W.lcmp hx hb dL_law_528 ?_
    refine fold_i (v := 0) (by rw [hv]; exact cmp0 _) ?_
    refine lv_if_eq (tgt := 534) hx hb dL_law_529 (by decide) (fun _ => ?_) (fun c9 => absurd rfl c9)
    refine lv_goto (tgt := 780) hx hb dL_law_534 (by decide) ?_
    exact hk gs1 S1 f1 M1 H locs ls hSm1 hP hD hS (lv_sub hl [2, 3, 4, 5, 6] rfl)

set_option maxHeartbeats 4000000 in
set_option maxRecDepth 100000 in
theorem law_tape {p : Program} {l : Launch} {e : Env} {s : State} {m : MethodId} {below : List Frame} {meth : Method} {c : Code} {dC : Nat → ClassId} {dI : Nat → Nat → Nat} {y : Nat → ClassId} {b L : Nat} {xs : Nat → Int32} {Sm : Nat → WireS → ModelS → Prop} (hL : L ≤ 3584) (C0 : lw_At p s m meth c b L xs) (hLC : LCx l dC dI y s) (hOK : OKall Sm) (a : WireA) (o : Nat) (am : Nat → Nat) (n i : Nat) (x4 : Int32) (hn : n < 512) (ex4 : x4 = nI i) (hi : i + 7 ≤ L) (cells slots : Nat) (hcs : cells + 1 ≤ 601024 ∧ slots + 6 ≤ 7293033) (gs : Nat → Nat → Nat) (S : WireS) (f : Nat → Int64) (M : ModelS) (hSm : Sm n S M) (H : Heap) (locs : List Loc) (ls : Array Slot) (hP : va_P (dC, dI) vwCl (lwW y a o am gs S f M) H) (hD : va_D (fun q : Nat => s.heap.size ≤ q) (lwW y a o am gs S f M)) (hS : va_S (fun q : Nat => s.heap.size ≤ q) s.heap H locs) (hl : lv_has ls 8 [(0, .ref b), (1, .ref a.1), (2, .ref (am 0)), (3, .ref o), (4, .int x4)]) (hk : ∀ (gs1 : Nat → Nat → Nat) (S1 : WireS) (f1 : Nat → Int64) (M1 : ModelS) (H1 : Heap) (locs1 : List Loc) (ls1 : Array Slot), Sm (n + 1) S1 M1 → va_P (dC, dI) vwCl (lwW y a o am gs1 S1 f1 M1) H1 → va_D (fun q : Nat => s.heap.size ≤ q) (lwW y a o am gs1 S1 f1 M1) → va_S (fun q : Nat => s.heap.size ≤ q) s.heap H1 locs1 → lv_has ls1 8 [(0, .ref b), (1, .ref a.1), (2, .ref (am 0)), (3, .ref o), (4, .int x4)] → W p l e room_1 s m #[Value.ref b] below meth c H1 locs1 (cells + 1) (slots + 6) (lw_Z below #[Value.ref b] s) (F0 m 780 ls1 [])) : W p l e room_1 s m #[Value.ref b] below meth c H locs cells slots (lw_Z below #[Value.ref b] s) (F0 m 537 ls []) := by
  obtain ⟨hx, hb, hr, hml, hown, hts0, hX, hbl, hlocks, hgv⟩ := id C0
  obtain ⟨hK, hXW, hCW, hO, hZ, hst⟩ := id hLC
  have hts := fun w h => hts0 w (wsL_law_in w h)
  have hA : ∀ q : Nat, s.heap.size ≤ q → (fun q : Nat => s.heap.size ≤ q) q := fun _ h => h
  have hbA : ¬ (fun q : Nat => s.heap.size ≤ q) b := Nat.not_le.mpr hbl
  have hcs0 : cells ≤ 601024 ∧ slots ≤ 7293033 := ⟨by omega, by omega⟩
  obtain ⟨z1, ez1⟩ : ∃ z : Int32, xs (x4 + 1).toNatClampNeg = z := ⟨_, rfl⟩
  refine lv_aload_n hx hb dL_law_537 rfl (lv_at hl 1 rfl) ?_
  refine lv_aload_n hx hb dL_law_538 rfl (lv_at hl 0 rfl) ?_
  refine lv_iload hx hb dL_law_539 (lv_at hl 4 rfl) ?_
  refine lv_iconst (v := 1) hx hb dL_law_541 (by decide) ?_
  refine lv_iadd hx hb dL_law_542 ?_
  refine va_sld hx hb hX hbl hbA hS (vo ex4 hi hL 1 (by decide)) dL_law_543 ?_
  refine fold_i ez1 ?_
  refine lv_aload_n hx hb dL_law_544 rfl (lv_at hl 3 rfl) ?_
  have hf := hOK.2.2.2.2.2.2.2.1 n hn S M f z1 hSm
  refine kLW (As := [.ref a.1, .int z1, .ref o]) (rest := []) ⟨hx, hb, hml, hown, hts⟩ (c_L_tape l dC dI y a gs o H.size S f z1 _ hst hf) (vx_cwSW 3 hts gL_law_L_tape rfl rfl rfl (by decide +kernel) ⟨Nat.le_of_ble_eq_true rfl, Nat.le_of_ble_eq_true rfl⟩) hK hXW hCW hZ hP hD hS hA rfl hl.1 rfl (Nat.le_of_ble_eq_true rfl) dL_law_545 hcs (fun k S1 gs1 f1 H locs hf hP hD hS => ?_)
  refine lv_istore (lv' := [(5, .int k), (0, .ref b), (1, .ref a.1), (2, .ref (am 0)), (3, .ref o), (4, .int x4)]) hx hb dL_law_548 hl (by decide) rfl (fun ls hl => ?_)
  refine lv_aload_n hx hb dL_law_550 rfl (lv_at hl 3 rfl) ?_
  refine lv_aload_n hx hb dL_law_551 rfl (lv_at hl 1 rfl) ?_
  refine lv_iload hx hb dL_law_552 (lv_at hl 5 rfl) ?_
  refine lv_iconst (v := 1) hx hb dL_law_554 (by decide) ?_
  refine lv_iadd hx hb dL_law_555 ?_
  refine va_sld hx hb hX hbl hbA hS (vo ex4 hi hL 1 (by decide)) dL_law_556 ?_
  refine fold_i ez1 ?_
  refine kMi (As := [.int z1]) (rest := []) ⟨hx, hb, hml, hown, hts⟩ (c_X5_tape l dC dI y am H.size M z1 _ hf) (cwV 1 hts gL_law_X5_tape rfl rfl rfl (by decide +kernel) ⟨Nat.le_of_ble_eq_true rfl, Nat.le_of_ble_eq_true rfl⟩) hK hP hD (va_recv hK.1 hP (ci := 5) (q0 := 57) rfl rfl) hS hA rfl hl.1 rfl (Nat.le_of_ble_eq_true rfl) dL_law_557 hcs (fun b1 M1 H locs hf hP hD hS => ?_)
  obtain ⟨hSm1, hth, hval⟩ := hf
  refine lv_istore (lv' := [(6, .int b1), (5, .int k), (0, .ref b), (1, .ref a.1), (2, .ref (am 0)), (3, .ref o), (4, .int x4)]) hx hb dL_law_560 hl (by decide) rfl (fun ls hl => ?_)
  refine lv_aload_n hx hb dL_law_562 rfl (lv_at hl 4 rfl) ?_
  refine kMi (As := []) (rest := []) ⟨hx, hb, hml, hown, hts⟩ (c_X5_thrown l dC dI y am H.size M1 _ (th_ok M1)) (cwV 0 hts gL_law_X5_thrown rfl rfl rfl (by decide +kernel) ⟨Nat.le_of_ble_eq_true rfl, Nat.le_of_ble_eq_true rfl⟩) hK hP hD (va_recv hK.1 hP (ci := 5) (q0 := 57) rfl rfl) hS hA rfl hl.1 rfl (Nat.le_of_ble_eq_true rfl) dL_law_563 hcs (fun r M2 H locs hf hP hD hS => ?_)
  obtain ⟨hr9, e9⟩ := hf
  have e9 := e9.symm
  subst e9
  refine lv_iload hx hb dL_law_566 (lv_at hl 1 rfl) ?_
  refine lv_icmp_eq (tgt := 573) hx hb dL_law_568 (by decide) (fun _ => ?_) (fun c9 => absurd (hr9.trans hth) c9)
  refine lv_iload hx hb dL_law_573 (lv_at hl 1 rfl) ?_
  refine lv_if_ne (tgt := 590) hx hb dL_law_575 (by decide) (fun ck => ?_) (fun ck => ?_)
  · refine lv_goto (tgt := 780) hx hb dL_law_590 (by decide) ?_
    exact hk gs1 S1 f1 M1 H locs ls hSm1 hP hD hS (lv_sub hl [2, 3, 4, 5, 6] rfl)
  · have hv := hval ck
    refine lv_aload_n hx hb dL_law_578 rfl (lv_at hl 5 rfl) ?_
    refine lv_iconst (v := 0) hx hb dL_law_579 (by decide) ?_
    refine ar_lld (f := f1) (j := 0) hx hb hK.1 hP 56 1 wo_at rfl (clamp_lit 0 rfl) (vin_lit 0 1 rfl rfl) dL_law_580 ?_
    refine lv_iload hx hb dL_law_581 (lv_at hl 0 rfl) ?_
    refine lv_i2l (v := b1.toInt64) hx hb dL_law_583 rfl ?_
    refine W.lcmp hx hb dL_law_584 ?_
    refine fold_i (v := 0) (by rw [hv]; exact cmp0 _) ?_
    refine lv_if_eq (tgt := 590) hx hb dL_law_585 (by decide) (fun _ => ?_) (fun c9 => absurd rfl c9)
    refine lv_goto (tgt := 780) hx hb dL_law_590 (by decide) ?_
    exact hk gs1 S1 f1 M1 H locs ls hSm1 hP hD hS (lv_sub hl [2, 3, 4, 5, 6] rfl)

set_option maxHeartbeats 4000000 in
set_option maxRecDepth 100000 in
theorem law_put {p : Program} {l : Launch} {e : Env} {s : State} {m : MethodId} {below : List Frame} {meth : Method} {c : Code} {dC : Nat → ClassId} {dI : Nat → Nat → Nat} {y : Nat → ClassId} {b L : Nat} {xs : Nat → Int32} {Sm : Nat → WireS → ModelS → Prop} (hL : L ≤ 3584) (C0 : lw_At p s m meth c b L xs) (hLC : LCx l dC dI y s) (hOK : OKall Sm) (a : WireA) (o : Nat) (am : Nat → Nat) (n i : Nat) (x4 : Int32) (hn : n < 512) (ex4 : x4 = nI i) (hi : i + 7 ≤ L) (cells slots : Nat) (hcs : cells + 1 ≤ 601024 ∧ slots + 6 ≤ 7293033) (gs : Nat → Nat → Nat) (S : WireS) (f : Nat → Int64) (M : ModelS) (hSm : Sm n S M) (H : Heap) (locs : List Loc) (ls : Array Slot) (hP : va_P (dC, dI) vwCl (lwW y a o am gs S f M) H) (hD : va_D (fun q : Nat => s.heap.size ≤ q) (lwW y a o am gs S f M)) (hS : va_S (fun q : Nat => s.heap.size ≤ q) s.heap H locs) (hl : lv_has ls 8 [(0, .ref b), (1, .ref a.1), (2, .ref (am 0)), (3, .ref o), (4, .int x4)]) (hk : ∀ (gs1 : Nat → Nat → Nat) (S1 : WireS) (f1 : Nat → Int64) (M1 : ModelS) (H1 : Heap) (locs1 : List Loc) (ls1 : Array Slot), Sm (n + 1) S1 M1 → va_P (dC, dI) vwCl (lwW y a o am gs1 S1 f1 M1) H1 → va_D (fun q : Nat => s.heap.size ≤ q) (lwW y a o am gs1 S1 f1 M1) → va_S (fun q : Nat => s.heap.size ≤ q) s.heap H1 locs1 → lv_has ls1 8 [(0, .ref b), (1, .ref a.1), (2, .ref (am 0)), (3, .ref o), (4, .int x4)] → W p l e room_1 s m #[Value.ref b] below meth c H1 locs1 (cells + 1) (slots + 6) (lw_Z below #[Value.ref b] s) (F0 m 780 ls1 [])) : W p l e room_1 s m #[Value.ref b] below meth c H locs cells slots (lw_Z below #[Value.ref b] s) (F0 m 593 ls []) := by
  obtain ⟨hx, hb, hr, hml, hown, hts0, hX, hbl, hlocks, hgv⟩ := id C0
  obtain ⟨hK, hXW, hCW, hO, hZ, hst⟩ := id hLC
  have hts := fun w h => hts0 w (wsL_law_in w h)
  have hA : ∀ q : Nat, s.heap.size ≤ q → (fun q : Nat => s.heap.size ≤ q) q := fun _ h => h
  have hbA : ¬ (fun q : Nat => s.heap.size ≤ q) b := Nat.not_le.mpr hbl
  have hcs0 : cells ≤ 601024 ∧ slots ≤ 7293033 := ⟨by omega, by omega⟩
  obtain ⟨z1, ez1⟩ : ∃ z : Int32, xs (x4 + 1).toNatClampNeg = z := ⟨_, rfl⟩
  obtain ⟨z2, ez2⟩ : ∃ z : Int32, xs (x4 + 2).toNatClampNeg = z := ⟨_, rfl⟩
  obtain ⟨z3, ez3⟩ : ∃ z : Int32, xs (x4 + 3).toNatClampNeg = z := ⟨_, rfl⟩
  obtain ⟨w, ew⟩ : ∃ w : Int64, (z1.toInt64 <<< ((32 : Int32).toInt64 &&& 63)) ||| (z2.toInt64 &&& 4294967295) = w := ⟨_, rfl⟩
  refine lv_aload_n hx hb dL_law_593 rfl (lv_at hl 1 rfl) ?_
  refine lv_aload_n hx hb dL_law_594 rfl (lv_at hl 0 rfl) ?_
  refine lv_iload hx hb dL_law_595 (lv_at hl 4 rfl) ?_
  refine lv_iconst (v := 1) hx hb dL_law_597 (by decide) ?_
  refine lv_iadd hx hb dL_law_598 ?_
  refine va_sld hx hb hX hbl hbA hS (vo ex4 hi hL 1 (by decide)) dL_law_599 ?_
  refine fold_i ez1 ?_
  refine lv_i2l (v := z1.toInt64) hx hb dL_law_600 rfl ?_
  refine lv_bipush (v := 32) hx hb dL_law_601 (by decide) ?_
  refine lv_lshl (v := z1.toInt64 <<< ((32 : Int32).toInt64 &&& 63)) hx hb dL_law_603 rfl ?_
  refine lv_aload_n hx hb dL_law_604 rfl (lv_at hl 0 rfl) ?_
  refine lv_iload hx hb dL_law_605 (lv_at hl 4 rfl) ?_
  refine lv_iconst (v := 2) hx hb dL_law_607 (by decide) ?_
  refine lv_iadd hx hb dL_law_608 ?_
  refine va_sld hx hb hX hbl hbA hS (vo ex4 hi hL 2 (by decide)) dL_law_609 ?_
  refine fold_i ez2 ?_
  refine lv_i2l (v := z2.toInt64) hx hb dL_law_610 rfl ?_
  refine lv_ldc2 (v := 4294967295) hx hb hown (hts (Cond.constantLong RL 51 (4294967295)) (List.mem_append_left _ (List.mem_append_left _ (List.mem_append_left _ (List.mem_append_left _ (List.mem_of_getElem? (i := 7) rfl)))))) dL_law_611 ?_
  refine lv_land hx hb dL_law_614 ?_
  refine lv_lor hx hb dL_law_615 ?_
  refine fold_l ew ?_
  refine lv_aload_n hx hb dL_law_616 rfl (lv_at hl 0 rfl) ?_
  refine lv_iload hx hb dL_law_617 (lv_at hl 4 rfl) ?_
  refine lv_iconst (v := 3) hx hb dL_law_619 (by decide) ?_
  refine lv_iadd hx hb dL_law_620 ?_
  refine va_sld hx hb hX hbl hbA hS (vo ex4 hi hL 3 (by decide)) dL_law_621 ?_
  refine fold_i ez3 ?_
  have hf := hOK.2.2.2.2.2.2.2.2.1 n hn S M w z3 hSm
  refine kLi (As := [.long w, .int z3]) (rest := []) ⟨hx, hb, hml, hown, hts⟩ (c_X4_put l dC dI y a gs H.size S w z3 _ hf) (cwV 2 hts gL_law_X4_put rfl rfl rfl (by decide +kernel) ⟨Nat.le_of_ble_eq_true rfl, Nat.le_of_ble_eq_true rfl⟩) hK hP hD (va_recv hK.1 hP (ci := 4) (q0 := 0) rfl rfl) hS hA rfl hl.1 rfl (Nat.le_of_ble_eq_true rfl) dL_law_622 hcs0 (fun r S1 H locs hf hP hD hS => ?_)
  refine lv_aload_n hx hb dL_law_625 rfl (lv_at hl 2 rfl) ?_
  refine lv_aload_n hx hb dL_law_626 rfl (lv_at hl 0 rfl) ?_
  refine lv_iload hx hb dL_law_627 (lv_at hl 4 rfl) ?_
  refine lv_iconst (v := 1) hx hb dL_law_629 (by decide) ?_
  refine lv_iadd hx hb dL_law_630 ?_
  refine va_sld hx hb hX hbl hbA hS (vo ex4 hi hL 1 (by decide)) dL_law_631 ?_
  refine fold_i ez1 ?_
  refine lv_i2l (v := z1.toInt64) hx hb dL_law_632 rfl ?_
  refine lv_bipush (v := 32) hx hb dL_law_633 (by decide) ?_
  refine lv_lshl (v := z1.toInt64 <<< ((32 : Int32).toInt64 &&& 63)) hx hb dL_law_635 rfl ?_
  refine lv_aload_n hx hb dL_law_636 rfl (lv_at hl 0 rfl) ?_
  refine lv_iload hx hb dL_law_637 (lv_at hl 4 rfl) ?_
  refine lv_iconst (v := 2) hx hb dL_law_639 (by decide) ?_
  refine lv_iadd hx hb dL_law_640 ?_
  refine va_sld hx hb hX hbl hbA hS (vo ex4 hi hL 2 (by decide)) dL_law_641 ?_
  refine fold_i ez2 ?_
  refine lv_i2l (v := z2.toInt64) hx hb dL_law_642 rfl ?_
  refine lv_ldc2 (v := 4294967295) hx hb hown (hts (Cond.constantLong RL 51 (4294967295)) (List.mem_append_left _ (List.mem_append_left _ (List.mem_append_left _ (List.mem_append_left _ (List.mem_of_getElem? (i := 7) rfl)))))) dL_law_643 ?_
  refine lv_land hx hb dL_law_646 ?_
  refine lv_lor hx hb dL_law_647 ?_
  refine fold_l ew ?_
  refine lv_aload_n hx hb dL_law_648 rfl (lv_at hl 0 rfl) ?_
  refine lv_iload hx hb dL_law_649 (lv_at hl 4 rfl) ?_
  refine lv_iconst (v := 3) hx hb dL_law_651 (by decide) ?_
  refine lv_iadd hx hb dL_law_652 ?_
  refine va_sld hx hb hX hbl hbA hS (vo ex4 hi hL 3 (by decide)) dL_law_653 ?_
  refine fold_i ez3 ?_
  refine kMi (As := [.long w, .int z3]) (rest := [.int r]) ⟨hx, hb, hml, hown, hts⟩ (c_X5_put l dC dI y am H.size M w z3 _ hf) (cwV 2 hts gL_law_X5_put rfl rfl rfl (by decide +kernel) ⟨Nat.le_of_ble_eq_true rfl, Nat.le_of_ble_eq_true rfl⟩) hK hP hD (va_recv hK.1 hP (ci := 5) (q0 := 57) rfl rfl) hS hA rfl hl.1 rfl (Nat.le_of_ble_eq_true rfl) dL_law_654 hcs0 (fun b1 M1 H locs hf hP hD hS => ?_)
  obtain ⟨hSm1, hrb⟩ := hf
  refine lv_icmp_eq (tgt := 780) hx hb dL_law_657 (by decide) (fun _ => ?_) (fun c9 => absurd hrb c9)
  refine W.widen (k := cells + 1) (n := slots + 6) (Nat.le_add_right _ _) (Nat.le_add_right _ _) ?_
  exact hk gs S1 f M1 H locs ls hSm1 hP hD hS (lv_sub hl [0, 1, 2, 3, 4] rfl)

set_option maxHeartbeats 4000000 in
set_option maxRecDepth 100000 in
theorem law_bit {p : Program} {l : Launch} {e : Env} {s : State} {m : MethodId} {below : List Frame} {meth : Method} {c : Code} {dC : Nat → ClassId} {dI : Nat → Nat → Nat} {y : Nat → ClassId} {b L : Nat} {xs : Nat → Int32} {Sm : Nat → WireS → ModelS → Prop} (hL : L ≤ 3584) (C0 : lw_At p s m meth c b L xs) (hLC : LCx l dC dI y s) (hOK : OKall Sm) (a : WireA) (o : Nat) (am : Nat → Nat) (n i : Nat) (x4 : Int32) (hn : n < 512) (ex4 : x4 = nI i) (hi : i + 7 ≤ L) (cells slots : Nat) (hcs : cells + 1 ≤ 601024 ∧ slots + 6 ≤ 7293033) (gs : Nat → Nat → Nat) (S : WireS) (f : Nat → Int64) (M : ModelS) (hSm : Sm n S M) (H : Heap) (locs : List Loc) (ls : Array Slot) (hP : va_P (dC, dI) vwCl (lwW y a o am gs S f M) H) (hD : va_D (fun q : Nat => s.heap.size ≤ q) (lwW y a o am gs S f M)) (hS : va_S (fun q : Nat => s.heap.size ≤ q) s.heap H locs) (hl : lv_has ls 8 [(0, .ref b), (1, .ref a.1), (2, .ref (am 0)), (3, .ref o), (4, .int x4)]) (hk : ∀ (gs1 : Nat → Nat → Nat) (S1 : WireS) (f1 : Nat → Int64) (M1 : ModelS) (H1 : Heap) (locs1 : List Loc) (ls1 : Array Slot), Sm (n + 1) S1 M1 → va_P (dC, dI) vwCl (lwW y a o am gs1 S1 f1 M1) H1 → va_D (fun q : Nat => s.heap.size ≤ q) (lwW y a o am gs1 S1 f1 M1) → va_S (fun q : Nat => s.heap.size ≤ q) s.heap H1 locs1 → lv_has ls1 8 [(0, .ref b), (1, .ref a.1), (2, .ref (am 0)), (3, .ref o), (4, .int x4)] → W p l e room_1 s m #[Value.ref b] below meth c H1 locs1 (cells + 1) (slots + 6) (lw_Z below #[Value.ref b] s) (F0 m 780 ls1 [])) : W p l e room_1 s m #[Value.ref b] below meth c H locs cells slots (lw_Z below #[Value.ref b] s) (F0 m 662 ls []) := by
  obtain ⟨hx, hb, hr, hml, hown, hts0, hX, hbl, hlocks, hgv⟩ := id C0
  obtain ⟨hK, hXW, hCW, hO, hZ, hst⟩ := id hLC
  have hts := fun w h => hts0 w (wsL_law_in w h)
  have hA : ∀ q : Nat, s.heap.size ≤ q → (fun q : Nat => s.heap.size ≤ q) q := fun _ h => h
  have hbA : ¬ (fun q : Nat => s.heap.size ≤ q) b := Nat.not_le.mpr hbl
  have hcs0 : cells ≤ 601024 ∧ slots ≤ 7293033 := ⟨by omega, by omega⟩
  obtain ⟨z1, ez1⟩ : ∃ z : Int32, xs (x4 + 1).toNatClampNeg = z := ⟨_, rfl⟩
  refine lv_aload_n hx hb dL_law_662 rfl (lv_at hl 1 rfl) ?_
  refine lv_aload_n hx hb dL_law_663 rfl (lv_at hl 0 rfl) ?_
  refine lv_iload hx hb dL_law_664 (lv_at hl 4 rfl) ?_
  refine lv_iconst (v := 1) hx hb dL_law_666 (by decide) ?_
  refine lv_iadd hx hb dL_law_667 ?_
  refine va_sld hx hb hX hbl hbA hS (vo ex4 hi hL 1 (by decide)) dL_law_668 ?_
  refine fold_i ez1 ?_
  refine lv_aload_n hx hb dL_law_669 rfl (lv_at hl 3 rfl) ?_
  have hf := hOK.2.2.2.2.2.2.2.2.2.1 n hn S M f z1 hSm
  refine kLW (As := [.ref a.1, .int z1, .ref o]) (rest := []) ⟨hx, hb, hml, hown, hts⟩ (c_L_bit l dC dI y a gs o H.size S f z1 _ hst hf) (vx_cwSW 3 hts gL_law_L_bit rfl rfl rfl (by decide +kernel) ⟨Nat.le_of_ble_eq_true rfl, Nat.le_of_ble_eq_true rfl⟩) hK hXW hCW hZ hP hD hS hA rfl hl.1 rfl (Nat.le_of_ble_eq_true rfl) dL_law_670 hcs (fun k S1 gs1 f1 H locs hf hP hD hS => ?_)
  refine lv_istore (lv' := [(5, .int k), (0, .ref b), (1, .ref a.1), (2, .ref (am 0)), (3, .ref o), (4, .int x4)]) hx hb dL_law_673 hl (by decide) rfl (fun ls hl => ?_)
  refine lv_aload_n hx hb dL_law_675 rfl (lv_at hl 3 rfl) ?_
  refine lv_aload_n hx hb dL_law_676 rfl (lv_at hl 1 rfl) ?_
  refine lv_iload hx hb dL_law_677 (lv_at hl 5 rfl) ?_
  refine lv_iconst (v := 1) hx hb dL_law_679 (by decide) ?_
  refine lv_iadd hx hb dL_law_680 ?_
  refine va_sld hx hb hX hbl hbA hS (vo ex4 hi hL 1 (by decide)) dL_law_681 ?_
  refine fold_i ez1 ?_
  refine kMi (As := [.int z1]) (rest := []) ⟨hx, hb, hml, hown, hts⟩ (c_X5_bit l dC dI y am H.size M z1 _ hf) (cwV 1 hts gL_law_X5_bit rfl rfl rfl (by decide +kernel) ⟨Nat.le_of_ble_eq_true rfl, Nat.le_of_ble_eq_true rfl⟩) hK hP hD (va_recv hK.1 hP (ci := 5) (q0 := 57) rfl rfl) hS hA rfl hl.1 rfl (Nat.le_of_ble_eq_true rfl) dL_law_682 hcs (fun b1 M1 H locs hf hP hD hS => ?_)
  obtain ⟨hSm1, hth, hval⟩ := hf
  refine lv_istore (lv' := [(6, .int b1), (5, .int k), (0, .ref b), (1, .ref a.1), (2, .ref (am 0)), (3, .ref o), (4, .int x4)]) hx hb dL_law_685 hl (by decide) rfl (fun ls hl => ?_)
  refine lv_aload_n hx hb dL_law_687 rfl (lv_at hl 4 rfl) ?_
  refine kMi (As := []) (rest := []) ⟨hx, hb, hml, hown, hts⟩ (c_X5_thrown l dC dI y am H.size M1 _ (th_ok M1)) (cwV 0 hts gL_law_X5_thrown rfl rfl rfl (by decide +kernel) ⟨Nat.le_of_ble_eq_true rfl, Nat.le_of_ble_eq_true rfl⟩) hK hP hD (va_recv hK.1 hP (ci := 5) (q0 := 57) rfl rfl) hS hA rfl hl.1 rfl (Nat.le_of_ble_eq_true rfl) dL_law_688 hcs (fun r M2 H locs hf hP hD hS => ?_)
  obtain ⟨hr9, e9⟩ := hf
  have e9 := e9.symm
  subst e9
  refine lv_iload hx hb dL_law_691 (lv_at hl 1 rfl) ?_
  refine lv_icmp_eq (tgt := 698) hx hb dL_law_693 (by decide) (fun _ => ?_) (fun c9 => absurd (hr9.trans hth) c9)
  refine lv_iload hx hb dL_law_698 (lv_at hl 1 rfl) ?_
  refine lv_if_ne (tgt := 715) hx hb dL_law_700 (by decide) (fun ck => ?_) (fun ck => ?_)
  · refine lv_goto (tgt := 780) hx hb dL_law_715 (by decide) ?_
    exact hk gs1 S1 f1 M1 H locs ls hSm1 hP hD hS (lv_sub hl [2, 3, 4, 5, 6] rfl)
  · have hv := hval ck
    refine lv_aload_n hx hb dL_law_703 rfl (lv_at hl 5 rfl) ?_
    refine lv_iconst (v := 0) hx hb dL_law_704 (by decide) ?_
    refine ar_lld (f := f1) (j := 0) hx hb hK.1 hP 56 1 wo_at rfl (clamp_lit 0 rfl) (vin_lit 0 1 rfl rfl) dL_law_705 ?_
    refine lv_iload hx hb dL_law_706 (lv_at hl 0 rfl) ?_
    refine lv_i2l (v := b1.toInt64) hx hb dL_law_708 rfl ?_
    refine W.lcmp hx hb dL_law_709 ?_
    refine fold_i (v := 0) (by rw [hv]; exact cmp0 _) ?_
    refine lv_if_eq (tgt := 715) hx hb dL_law_710 (by decide) (fun _ => ?_) (fun c9 => absurd rfl c9)
    refine lv_goto (tgt := 780) hx hb dL_law_715 (by decide) ?_
    exact hk gs1 S1 f1 M1 H locs ls hSm1 hP hD hS (lv_sub hl [2, 3, 4, 5, 6] rfl)

set_option maxHeartbeats 4000000 in
set_option maxRecDepth 100000 in
theorem law_flip {p : Program} {l : Launch} {e : Env} {s : State} {m : MethodId} {below : List Frame} {meth : Method} {c : Code} {dC : Nat → ClassId} {dI : Nat → Nat → Nat} {y : Nat → ClassId} {b L : Nat} {xs : Nat → Int32} {Sm : Nat → WireS → ModelS → Prop} (hL : L ≤ 3584) (C0 : lw_At p s m meth c b L xs) (hLC : LCx l dC dI y s) (hOK : OKall Sm) (a : WireA) (o : Nat) (am : Nat → Nat) (n i : Nat) (x4 : Int32) (hn : n < 512) (ex4 : x4 = nI i) (hi : i + 7 ≤ L) (cells slots : Nat) (hcs : cells + 1 ≤ 601024 ∧ slots + 6 ≤ 7293033) (gs : Nat → Nat → Nat) (S : WireS) (f : Nat → Int64) (M : ModelS) (hSm : Sm n S M) (H : Heap) (locs : List Loc) (ls : Array Slot) (hP : va_P (dC, dI) vwCl (lwW y a o am gs S f M) H) (hD : va_D (fun q : Nat => s.heap.size ≤ q) (lwW y a o am gs S f M)) (hS : va_S (fun q : Nat => s.heap.size ≤ q) s.heap H locs) (hl : lv_has ls 8 [(0, .ref b), (1, .ref a.1), (2, .ref (am 0)), (3, .ref o), (4, .int x4)]) (hk : ∀ (gs1 : Nat → Nat → Nat) (S1 : WireS) (f1 : Nat → Int64) (M1 : ModelS) (H1 : Heap) (locs1 : List Loc) (ls1 : Array Slot), Sm (n + 1) S1 M1 → va_P (dC, dI) vwCl (lwW y a o am gs1 S1 f1 M1) H1 → va_D (fun q : Nat => s.heap.size ≤ q) (lwW y a o am gs1 S1 f1 M1) → va_S (fun q : Nat => s.heap.size ≤ q) s.heap H1 locs1 → lv_has ls1 8 [(0, .ref b), (1, .ref a.1), (2, .ref (am 0)), (3, .ref o), (4, .int x4)] → W p l e room_1 s m #[Value.ref b] below meth c H1 locs1 (cells + 1) (slots + 6) (lw_Z below #[Value.ref b] s) (F0 m 780 ls1 [])) : W p l e room_1 s m #[Value.ref b] below meth c H locs cells slots (lw_Z below #[Value.ref b] s) (F0 m 718 ls []) := by
  obtain ⟨hx, hb, hr, hml, hown, hts0, hX, hbl, hlocks, hgv⟩ := id C0
  obtain ⟨hK, hXW, hCW, hO, hZ, hst⟩ := id hLC
  have hts := fun w h => hts0 w (wsL_law_in w h)
  have hA : ∀ q : Nat, s.heap.size ≤ q → (fun q : Nat => s.heap.size ≤ q) q := fun _ h => h
  have hbA : ¬ (fun q : Nat => s.heap.size ≤ q) b := Nat.not_le.mpr hbl
  have hcs0 : cells ≤ 601024 ∧ slots ≤ 7293033 := ⟨by omega, by omega⟩
  obtain ⟨z1, ez1⟩ : ∃ z : Int32, xs (x4 + 1).toNatClampNeg = z := ⟨_, rfl⟩
  refine lv_aload_n hx hb dL_law_718 rfl (lv_at hl 1 rfl) ?_
  refine lv_aload_n hx hb dL_law_719 rfl (lv_at hl 0 rfl) ?_
  refine lv_iload hx hb dL_law_720 (lv_at hl 4 rfl) ?_
  refine lv_iconst (v := 1) hx hb dL_law_722 (by decide) ?_
  refine lv_iadd hx hb dL_law_723 ?_
  refine va_sld hx hb hX hbl hbA hS (vo ex4 hi hL 1 (by decide)) dL_law_724 ?_
  refine fold_i ez1 ?_
  have hf := hOK.2.2.2.2.2.2.2.2.2.2.1 n hn S M f z1 hSm
  refine kLW (As := [.ref a.1, .int z1]) (rest := []) ⟨hx, hb, hml, hown, hts⟩ (c_L_flip l dC dI y a gs o H.size S f z1 _ hst hf) (vx_cwSW 2 hts gL_law_L_flip rfl rfl rfl (by decide +kernel) ⟨Nat.le_of_ble_eq_true rfl, Nat.le_of_ble_eq_true rfl⟩) hK hXW hCW hZ hP hD hS hA rfl hl.1 rfl (Nat.le_of_ble_eq_true rfl) dL_law_725 hcs (fun k S1 gs1 f1 H locs hf hP hD hS => ?_)
  refine lv_istore (lv' := [(5, .int k), (0, .ref b), (1, .ref a.1), (2, .ref (am 0)), (3, .ref o), (4, .int x4)]) hx hb dL_law_728 hl (by decide) rfl (fun ls hl => ?_)
  refine lv_aload_n hx hb dL_law_730 rfl (lv_at hl 3 rfl) ?_
  refine lv_aload_n hx hb dL_law_731 rfl (lv_at hl 1 rfl) ?_
  refine lv_iload hx hb dL_law_732 (lv_at hl 5 rfl) ?_
  refine lv_iconst (v := 1) hx hb dL_law_734 (by decide) ?_
  refine lv_iadd hx hb dL_law_735 ?_
  refine va_sld hx hb hX hbl hbA hS (vo ex4 hi hL 1 (by decide)) dL_law_736 ?_
  refine fold_i ez1 ?_
  refine kMv (As := [.int z1]) (rest := []) ⟨hx, hb, hml, hown, hts⟩ (c_X5_flip l dC dI y am H.size M z1 _ hf) (cwV 1 hts gL_law_X5_flip rfl rfl rfl (by decide +kernel) ⟨Nat.le_of_ble_eq_true rfl, Nat.le_of_ble_eq_true rfl⟩) hK hP hD (va_recv hK.1 hP (ci := 5) (q0 := 57) rfl rfl) hS hA rfl hl.1 rfl (Nat.le_of_ble_eq_true rfl) dL_law_737 hcs (fun M1 H locs hf hP hD hS => ?_)
  obtain ⟨hSm1, hth⟩ := hf
  refine lv_aload_n hx hb dL_law_740 rfl (lv_at hl 3 rfl) ?_
  refine kMi (As := []) (rest := []) ⟨hx, hb, hml, hown, hts⟩ (c_X5_thrown l dC dI y am H.size M1 _ (th_ok M1)) (cwV 0 hts gL_law_X5_thrown rfl rfl rfl (by decide +kernel) ⟨Nat.le_of_ble_eq_true rfl, Nat.le_of_ble_eq_true rfl⟩) hK hP hD (va_recv hK.1 hP (ci := 5) (q0 := 57) rfl rfl) hS hA rfl hl.1 rfl (Nat.le_of_ble_eq_true rfl) dL_law_741 hcs (fun r M2 H locs hf hP hD hS => ?_)
  obtain ⟨hr9, e9⟩ := hf
  have e9 := e9.symm
  subst e9
  refine lv_iload hx hb dL_law_744 (lv_at hl 0 rfl) ?_
  refine lv_icmp_eq (tgt := 751) hx hb dL_law_746 (by decide) (fun _ => ?_) (fun c9 => absurd (hr9.trans hth) c9)
  refine lv_goto (tgt := 780) hx hb dL_law_751 (by decide) ?_
  exact hk gs1 S1 f1 M1 H locs ls hSm1 hP hD hS (lv_sub hl [1, 2, 3, 4, 5] rfl)

set_option maxHeartbeats 4000000 in
set_option maxRecDepth 100000 in
theorem law_wipe {p : Program} {l : Launch} {e : Env} {s : State} {m : MethodId} {below : List Frame} {meth : Method} {c : Code} {dC : Nat → ClassId} {dI : Nat → Nat → Nat} {y : Nat → ClassId} {b L : Nat} {xs : Nat → Int32} {Sm : Nat → WireS → ModelS → Prop} (hL : L ≤ 3584) (C0 : lw_At p s m meth c b L xs) (hLC : LCx l dC dI y s) (hOK : OKall Sm) (a : WireA) (o : Nat) (am : Nat → Nat) (n i : Nat) (x4 : Int32) (hn : n < 512) (ex4 : x4 = nI i) (hi : i + 7 ≤ L) (cells slots : Nat) (hcs : cells + 1 ≤ 601024 ∧ slots + 6 ≤ 7293033) (gs : Nat → Nat → Nat) (S : WireS) (f : Nat → Int64) (M : ModelS) (hSm : Sm n S M) (H : Heap) (locs : List Loc) (ls : Array Slot) (hP : va_P (dC, dI) vwCl (lwW y a o am gs S f M) H) (hD : va_D (fun q : Nat => s.heap.size ≤ q) (lwW y a o am gs S f M)) (hS : va_S (fun q : Nat => s.heap.size ≤ q) s.heap H locs) (hl : lv_has ls 8 [(0, .ref b), (1, .ref a.1), (2, .ref (am 0)), (3, .ref o), (4, .int x4)]) (hk : ∀ (gs1 : Nat → Nat → Nat) (S1 : WireS) (f1 : Nat → Int64) (M1 : ModelS) (H1 : Heap) (locs1 : List Loc) (ls1 : Array Slot), Sm (n + 1) S1 M1 → va_P (dC, dI) vwCl (lwW y a o am gs1 S1 f1 M1) H1 → va_D (fun q : Nat => s.heap.size ≤ q) (lwW y a o am gs1 S1 f1 M1) → va_S (fun q : Nat => s.heap.size ≤ q) s.heap H1 locs1 → lv_has ls1 8 [(0, .ref b), (1, .ref a.1), (2, .ref (am 0)), (3, .ref o), (4, .int x4)] → W p l e room_1 s m #[Value.ref b] below meth c H1 locs1 (cells + 1) (slots + 6) (lw_Z below #[Value.ref b] s) (F0 m 780 ls1 [])) : W p l e room_1 s m #[Value.ref b] below meth c H locs cells slots (lw_Z below #[Value.ref b] s) (F0 m 754 ls []) := by
  obtain ⟨hx, hb, hr, hml, hown, hts0, hX, hbl, hlocks, hgv⟩ := id C0
  obtain ⟨hK, hXW, hCW, hO, hZ, hst⟩ := id hLC
  have hts := fun w h => hts0 w (wsL_law_in w h)
  have hA : ∀ q : Nat, s.heap.size ≤ q → (fun q : Nat => s.heap.size ≤ q) q := fun _ h => h
  have hbA : ¬ (fun q : Nat => s.heap.size ≤ q) b := Nat.not_le.mpr hbl
  have hcs0 : cells ≤ 601024 ∧ slots ≤ 7293033 := ⟨by omega, by omega⟩
  refine lv_aload_n hx hb dL_law_754 rfl (lv_at hl 1 rfl) ?_
  have hf := hOK.2.2.2.2.2.2.2.2.2.2.2.1 n hn S M hSm
  refine kLi (As := []) (rest := []) ⟨hx, hb, hml, hown, hts⟩ (c_X4_wipe l dC dI y a gs H.size S _ hf) (cwV 0 hts gL_law_X4_wipe rfl rfl rfl (by decide +kernel) ⟨Nat.le_of_ble_eq_true rfl, Nat.le_of_ble_eq_true rfl⟩) hK hP hD (va_recv hK.1 hP (ci := 4) (q0 := 0) rfl rfl) hS hA rfl hl.1 rfl (Nat.le_of_ble_eq_true rfl) dL_law_755 hcs0 (fun r S1 H locs hf hP hD hS => ?_)
  refine lv_aload_n hx hb dL_law_758 rfl (lv_at hl 2 rfl) ?_
  refine kMi (As := []) (rest := [.int r]) ⟨hx, hb, hml, hown, hts⟩ (c_X5_wipe l dC dI y am H.size M _ hf) (cwV 0 hts gL_law_X5_wipe rfl rfl rfl (by decide +kernel) ⟨Nat.le_of_ble_eq_true rfl, Nat.le_of_ble_eq_true rfl⟩) hK hP hD (va_recv hK.1 hP (ci := 5) (q0 := 57) rfl rfl) hS hA rfl hl.1 rfl (Nat.le_of_ble_eq_true rfl) dL_law_759 hcs0 (fun b1 M1 H locs hf hP hD hS => ?_)
  obtain ⟨hSm1, hrb⟩ := hf
  refine lv_icmp_eq (tgt := 780) hx hb dL_law_762 (by decide) (fun _ => ?_) (fun c9 => absurd hrb c9)
  refine W.widen (k := cells + 1) (n := slots + 6) (Nat.le_add_right _ _) (Nat.le_add_right _ _) ?_
  exact hk gs S1 f M1 H locs ls hSm1 hP hD hS (lv_sub hl [0, 1, 2, 3, 4] rfl)

set_option maxHeartbeats 4000000 in
set_option maxRecDepth 100000 in
theorem law_read {p : Program} {l : Launch} {e : Env} {s : State} {m : MethodId} {below : List Frame} {meth : Method} {c : Code} {dC : Nat → ClassId} {dI : Nat → Nat → Nat} {y : Nat → ClassId} {b L : Nat} {xs : Nat → Int32} {Sm : Nat → WireS → ModelS → Prop} (hL : L ≤ 3584) (C0 : lw_At p s m meth c b L xs) (hLC : LCx l dC dI y s) (hOK : OKall Sm) (a : WireA) (o : Nat) (am : Nat → Nat) (n i : Nat) (x4 : Int32) (hn : n < 512) (ex4 : x4 = nI i) (hi : i + 7 ≤ L) (cells slots : Nat) (hcs : cells + 1 ≤ 601024 ∧ slots + 6 ≤ 7293033) (gs : Nat → Nat → Nat) (S : WireS) (f : Nat → Int64) (M : ModelS) (hSm : Sm n S M) (H : Heap) (locs : List Loc) (ls : Array Slot) (hP : va_P (dC, dI) vwCl (lwW y a o am gs S f M) H) (hD : va_D (fun q : Nat => s.heap.size ≤ q) (lwW y a o am gs S f M)) (hS : va_S (fun q : Nat => s.heap.size ≤ q) s.heap H locs) (hl : lv_has ls 8 [(0, .ref b), (1, .ref a.1), (2, .ref (am 0)), (3, .ref o), (4, .int x4)]) (hk : ∀ (gs1 : Nat → Nat → Nat) (S1 : WireS) (f1 : Nat → Int64) (M1 : ModelS) (H1 : Heap) (locs1 : List Loc) (ls1 : Array Slot), Sm (n + 1) S1 M1 → va_P (dC, dI) vwCl (lwW y a o am gs1 S1 f1 M1) H1 → va_D (fun q : Nat => s.heap.size ≤ q) (lwW y a o am gs1 S1 f1 M1) → va_S (fun q : Nat => s.heap.size ≤ q) s.heap H1 locs1 → lv_has ls1 8 [(0, .ref b), (1, .ref a.1), (2, .ref (am 0)), (3, .ref o), (4, .int x4)] → W p l e room_1 s m #[Value.ref b] below meth c H1 locs1 (cells + 1) (slots + 6) (lw_Z below #[Value.ref b] s) (F0 m 780 ls1 [])) : W p l e room_1 s m #[Value.ref b] below meth c H locs cells slots (lw_Z below #[Value.ref b] s) (F0 m 767 ls []) := by
  obtain ⟨hx, hb, hr, hml, hown, hts0, hX, hbl, hlocks, hgv⟩ := id C0
  obtain ⟨hK, hXW, hCW, hO, hZ, hst⟩ := id hLC
  have hts := fun w h => hts0 w (wsL_law_in w h)
  have hA : ∀ q : Nat, s.heap.size ≤ q → (fun q : Nat => s.heap.size ≤ q) q := fun _ h => h
  have hbA : ¬ (fun q : Nat => s.heap.size ≤ q) b := Nat.not_le.mpr hbl
  have hcs0 : cells ≤ 601024 ∧ slots ≤ 7293033 := ⟨by omega, by omega⟩
  refine lv_aload_n hx hb dL_law_767 rfl (lv_at hl 1 rfl) ?_
  have hf := hOK.2.2.2.2.2.2.2.2.2.2.2.2 n hn S M hSm
  refine kLi (As := []) (rest := []) ⟨hx, hb, hml, hown, hts⟩ (c_X4_read l dC dI y a gs H.size S _ hf) (cwV 0 hts gL_law_X4_read rfl rfl rfl (by decide +kernel) ⟨Nat.le_of_ble_eq_true rfl, Nat.le_of_ble_eq_true rfl⟩) hK hP hD (va_recv hK.1 hP (ci := 4) (q0 := 0) rfl rfl) hS hA rfl hl.1 rfl (Nat.le_of_ble_eq_true rfl) dL_law_768 hcs0 (fun r S1 H locs hf hP hD hS => ?_)
  refine lv_aload_n hx hb dL_law_771 rfl (lv_at hl 2 rfl) ?_
  refine kMi (As := []) (rest := [.int r]) ⟨hx, hb, hml, hown, hts⟩ (c_X5_read l dC dI y am H.size M _ hf) (cwV 0 hts gL_law_X5_read rfl rfl rfl (by decide +kernel) ⟨Nat.le_of_ble_eq_true rfl, Nat.le_of_ble_eq_true rfl⟩) hK hP hD (va_recv hK.1 hP (ci := 5) (q0 := 57) rfl rfl) hS hA rfl hl.1 rfl (Nat.le_of_ble_eq_true rfl) dL_law_772 hcs0 (fun b1 M1 H locs hf hP hD hS => ?_)
  obtain ⟨hSm1, hrb⟩ := hf
  refine lv_icmp_eq (tgt := 780) hx hb dL_law_775 (by decide) (fun _ => ?_) (fun c9 => absurd hrb c9)
  refine W.widen (k := cells + 1) (n := slots + 6) (Nat.le_add_right _ _) (Nat.le_add_right _ _) ?_
  exact hk gs S1 f M1 H locs ls hSm1 hP hD hS (lv_sub hl [0, 1, 2, 3, 4] rfl)
