/-! a node's cells in the reference; what goes with a node -/
def wd (f : Nat) : Nat := if f = 10 ∨ f = 11 ∨ f = 13 ∨ f = 23 then 4 else if f = 18 ∨ f = 19 then 200 else if f = 25 then 128 else 1
def own (f q j : Nat) : Prop := wd f * j ≤ q ∧ q < wd f * j + wd f
def wdL (f : Nat) : Nat := if f = 12 then 4 else 1
def ownL (f q j : Nat) : Prop := wdL f * j ≤ q ∧ q < wdL f * j + wdL f
theorem blk_ne {w i j q : Nat} (hij : i ≠ j) (h1 : w * i ≤ q ∧ q < w * i + w) (h2 : w * j ≤ q ∧ q < w * j + w) : False := by
  rcases Nat.lt_or_gt_of_ne hij with h | h
  · have := Nat.mul_le_mul_left w (show i + 1 ≤ j from h)
    rw [Nat.mul_add] at this
    omega
  · have := Nat.mul_le_mul_left w (show j + 1 ≤ i from h)
    rw [Nat.mul_add] at this
    omega
/-- only cells of node i change; of the numbers none that counts -/
def uI (k : Nat) : Prop := k = 0 ∨ k = 1 ∨ k = 2 ∨ k = 24 ∨ k = 32
def Loc5 (i : Nat) (M M1 : ModelS) : Prop := (∀ k, uI k → M1.1 k = M.1 k) ∧ (∀ f, f < 33 → ∀ q, (f = 31 ∨ ¬ own f q i) → M1.2.1 f q = M.2.1 f q) ∧ ∀ f q, ¬ ownL f q i → M1.2.2 f q = M.2.2 f q
/-- the cells of node j are the same -/
def EqN (j : Nat) (M M1 : ModelS) : Prop := (∀ f, f ≠ 31 → f < 33 → ∀ q, own f q j → M1.2.1 f q = M.2.1 f q) ∧ ∀ f q, ownL f q j → M1.2.2 f q = M.2.2 f q
theorem Loc5.rf {i : Nat} {M : ModelS} : Loc5 i M M := ⟨fun _ _ => rfl, fun _ _ _ _ => rfl, fun _ _ _ => rfl⟩
theorem Loc5.tr {i : Nat} {M M1 M2 : ModelS} (a : Loc5 i M M1) (b : Loc5 i M1 M2) : Loc5 i M M2 := ⟨fun k h => (b.1 k h).trans (a.1 k h), fun f h q c => (b.2.1 f h q c).trans (a.2.1 f h q c), fun f q c => (b.2.2 f q c).trans (a.2.2 f q c)⟩
theorem EqN.rf {j : Nat} {M : ModelS} : EqN j M M := ⟨fun _ _ _ _ _ => rfl, fun _ _ _ => rfl⟩
theorem EqN.tr {j : Nat} {M M1 M2 : ModelS} (a : EqN j M M1) (b : EqN j M1 M2) : EqN j M M2 := ⟨fun f h h' q c => (b.1 f h h' q c).trans (a.1 f h h' q c), fun f q c => (b.2 f q c).trans (a.2 f q c)⟩
theorem Loc5.eqN {i j : Nat} {M M1 : ModelS} (h : Loc5 i M M1) (hij : i ≠ j) : EqN j M M1 := ⟨fun f _ h33 q hq => h.2.1 f h33 q (Or.inr (fun c => blk_ne hij c hq)), fun f q hq => h.2.2 f q (fun c => blk_ne hij c hq)⟩
theorem own_1 {f q i : Nat} (h : wd f = 1) : own f q i ↔ q = i := by
  unfold own
  rw [h]
  omega
/-- one place of a row with a place for each node -/
theorem Loc5.one {i f0 : Nat} {x : Int32} (hf : wd f0 = 1) (h31 : f0 ≠ 31) {mI : Nat → Int32} {mA : Nat → Nat → Int32} {mL : Nat → Nat → Int64} : Loc5 i (mI, mA, mL) (mI, va_up mA f0 (upd (mA f0) i x), mL) := by
  refine ⟨fun _ _ => rfl, fun f _ q hq => ?_, fun _ _ _ => rfl⟩
  by_cases e : f = f0
  · subst e
    rcases hq with hq | hq
    · exact absurd hq h31
    · exact (congrFun (up_s (f := mA) (k := f) (v := upd (mA f) i x)) q).trans (pk_un (fun e => hq ((own_1 hf).mpr e)))
  · exact congrFun (up_n e) q
theorem Loc5.row {i : Nat} {M M1 : ModelS} (hF : Fr PT M M1) (hR : RowF i M M1) : Loc5 i M M1 := by
  refine ⟨fun k hk => hF.1 k (fun h => ?_), fun f _ q hq => ?_, fun f q _ => by rw [hF.2.2]⟩
  · have h' : 25 ≤ k ∧ k ≤ 30 := h
    unfold uI at hk
    omega
  · by_cases h : PT f
    · have h' : 25 ≤ f ∧ f ≤ 30 := h
      by_cases e : f = 25
      · subst e
        refine hR.2 q ?_
        rcases hq with hq | hq
        · omega
        · have hq : ¬ (128 * i ≤ q ∧ q < 128 * i + 128) := hq
          omega
      · refine hR.1 f (by omega) (by omega) q (fun e2 => ?_)
        rcases hq with hq | hq
        · omega
        · refine hq ((own_1 ?_).mpr e2)
          unfold wd
          rw [if_neg (by omega), if_neg (by omega), if_neg (by omega)]
    · rw [hF.2.1 f h]
theorem Loc5.mk {i : Nat} {M M1 : ModelS} {X : LineS} (h : Mk i M X M1) : Loc5 i M M1 := by
  obtain ⟨hF, hR, h20, -⟩ := h
  refine ⟨fun k hk => hF.1 k (fun h => ?_), fun f h33 q hq => ?_, fun f q _ => by rw [hF.2.2]⟩
  · unfold uI at hk
    unfold PMS PM PS at h
    omega
  · by_cases h : PMS f
    · have h' : (f = 18 ∨ f = 19 ∨ f = 20) := by
        unfold PMS PM PS at h
        omega
      rcases hq with hq | hq
      · omega
      rcases h' with rfl | rfl | rfl
      · have hq : ¬ (200 * i ≤ q ∧ q < 200 * i + 200) := hq
        exact (hR q (by omega)).1
      · have hq : ¬ (200 * i ≤ q ∧ q < 200 * i + 200) := hq
        exact (hR q (by omega)).2
      · exact h20 q (fun e => hq ((own_1 rfl).mpr e))
    · rw [hF.2.1 f h]
theorem Loc5.at_ {i : Nat} {M M1 : ModelS} (h : At PK i M M1) : Loc5 i M M1 := by
  obtain ⟨h1, h2, h3, h4, h5⟩ := h
  refine ⟨fun k _ => by rw [h1], fun f _ q hq => ?_, fun f q hq => ?_⟩
  · by_cases h : PK f
    · refine h3 f h q (fun e => ?_)
      unfold PK at h
      rcases hq with hq | hq
      · omega
      · refine hq ((own_1 ?_).mpr e)
        unfold wd
        rw [if_neg (by omega), if_neg (by omega), if_neg (by omega)]
    · rw [h2 f h]
  · by_cases h : f = 16
    · subst h
      refine h5 q (fun e => hq ?_)
      unfold ownL
      rw [show wdL 16 = 1 from rfl]
      omega
    · rw [h4 f h]
theorem Loc5.sh {i s w : Nat} {M M1 : ModelS} (hs : s < w) (h4 : w ≤ 4) (h : Sh (4 * i + s) (4 * i + (w - 1)) M M1) : Loc5 i M M1 := by
  obtain ⟨h1, h2, h3, h4', h5⟩ := h
  refine ⟨fun k _ => by rw [h1], fun f _ q hq => ?_, fun f q hq => ?_⟩
  · by_cases h : sf f
    · rw [h2 f h q, if_neg]
      intro c
      unfold sf at h
      rcases hq with hq | hq
      · omega
      · refine hq ?_
        unfold own wd
        rw [if_pos (by omega)]
        omega
    · rw [h3 f h]
  · by_cases h : f = 12
    · subst h
      rw [h4' q, if_neg]
      intro c
      refine hq ?_
      unfold ownL
      rw [show wdL 12 = 4 from rfl]
      omega
    · rw [h5 f h]
/-! what goes with a node's cells -/
theorem EqN.c1 {i : Nat} {M M1 : ModelS} (h : EqN i M M1) {f : Nat} (hf : wd f = 1) (h31 : f ≠ 31) (h33 : f < 33) : M1.2.1 f i = M.2.1 f i := h.1 f h31 h33 i ((own_1 hf).mpr rfl)
theorem EqN.c4 {i : Nat} {M M1 : ModelS} (h : EqN i M M1) {f k : Nat} (hf : sf f) (hk : k < 4) : M1.2.1 f (4 * i + k) = M.2.1 f (4 * i + k) := by
  unfold sf at hf
  refine h.1 f (by omega) (by omega) _ ?_
  unfold own wd
  rw [if_pos (by omega)]
  omega
theorem EqN.cL {i : Nat} {M M1 : ModelS} (h : EqN i M M1) {k : Nat} (hk : k < 4) : M1.2.2 12 (4 * i + k) = M.2.2 12 (4 * i + k) := by
  refine h.2 12 _ ?_
  unfold ownL
  rw [show wdL 12 = 4 from rfl]
  omega
theorem EqN.c16 {i : Nat} {M M1 : ModelS} (h : EqN i M M1) : M1.2.2 16 i = M.2.2 16 i := by
  refine h.2 16 _ ?_
  unfold ownL
  rw [show wdL 16 = 1 from rfl]
  omega
theorem EqN.frM {i k : Nat} {M M1 : ModelS} {F : FrameS} (h : EqN i M M1) (hk : k < 4) (hF : FrM M (4 * i + k) F) : FrM M1 (4 * i + k) F := by
  unfold FrM
  rw [h.c4 (f := 10) (by unfold sf; omega) hk, h.c4 (f := 11) (by unfold sf; omega) hk, h.c4 (f := 13) (by unfold sf; omega) hk, h.cL hk]
  exact hF
theorem EqN.rowIs {i : Nat} {M M1 : ModelS} {ρ : RowS} (h : EqN i M M1) (hF : RowIs M i ρ) : RowIs M1 i ρ := by
  obtain ⟨h1, h2, h3, h4, h5, h6⟩ := hF
  refine ⟨?_, ?_, ?_, ?_, ?_, fun j hj => ?_⟩
  · rw [h.c1 (f := 26) rfl (by decide) (by decide)]; exact h1
  · rw [h.c1 (f := 27) rfl (by decide) (by decide)]; exact h2
  · rw [h.c1 (f := 28) rfl (by decide) (by decide)]; exact h3
  · rw [h.c1 (f := 29) rfl (by decide) (by decide)]; exact h4
  · rw [h.c1 (f := 30) rfl (by decide) (by decide)]; exact h5
  · rw [h.1 25 (by decide) (by decide) (128 * i + j) (show 128 * i ≤ 128 * i + j ∧ 128 * i + j < 128 * i + 128 by omega)]
    exact h6 j hj
theorem EqN.finR {i : Nat} {M M1 : ModelS} {X : LineS} (h : EqN i M M1) (hF : FinR M i X) : FinR M1 i X := by
  have e18 : ∀ j, j < 200 → M1.2.1 18 (200 * i + j) = M.2.1 18 (200 * i + j) := fun j hj => h.1 18 (by decide) (by decide) _ (show 200 * i ≤ 200 * i + j ∧ 200 * i + j < 200 * i + 200 by omega)
  have e19 : ∀ j, j < 200 → M1.2.1 19 (200 * i + j) = M.2.1 19 (200 * i + j) := fun j hj => h.1 19 (by decide) (by decide) _ (show 200 * i ≤ 200 * i + j ∧ 200 * i + j < 200 * i + 200 by omega)
  obtain ⟨n, h1, h2, h3, h4, h5, h6, h7, h8⟩ := hF
  refine ⟨n, h1, h2, fun j hj => ?_, fun j a b => ?_, ?_, ?_, fun j a b => ?_, ?_⟩
  · rw [e18 j (by omega), e19 j (by omega)]; exact h3 j hj
  · rw [e18 j (by omega)]; exact h4 j a b
  · rw [e19 n (by omega)]; exact h5
  · rw [e19 (n + 1) (by omega)]; exact h6
  · rw [e19 j (by omega)]; exact h7 j a b
  · rw [h.c1 (f := 20) rfl (by decide) (by decide)]; exact h8
/-! the relation of a node -/
def NC (c i : Nat) (M : ModelS) (on snd rcv sent got : Int32) (lastR : FrameS) : Prop := (on = 0 ∨ on = 1) ∧ snd = M.2.1 4 i ∧ rcv = M.2.1 5 i ∧ sent = M.2.1 6 i ∧ got = M.2.1 7 i ∧ lastR = (M.2.1 14 i, M.2.1 15 i, M.2.2 16 i, M.2.1 17 i) ∧ (∃ a, snd = nI a ∧ a ≤ 263 ∧ (on = 1 → a ≤ 255)) ∧ ∃ b, rcv = nI b ∧ b ≤ c
def NWt (g i : Nat) (M : ModelS) (wants : Int32) (W : Nat → FrameS) : Prop := ∃ w, wants = nI w ∧ M.2.1 9 i = nI w ∧ w ≤ 4 ∧ Wn i M W w ∧ (∀ k, k < w → ∃ v, v < g ∧ M.2.1 23 (4 * i + k) = nI v) ∧ ∀ j k, j < k → k < w → ¬ M.2.1 23 (4 * i + j) = M.2.1 23 (4 * i + k)
/-- a sender; e more bits are to come at least -/
def Snd (e i : Nat) (M : ModelS) (wants sending next : Int32) (W : Nat → FrameS) (line : LineS) (R : ReaderS) : Prop := ∃ (w s p n sz : Nat) (L0 : LineS) (ρ : RowS), wants = nI w ∧ w ≤ 4 ∧ sending = nI s ∧ s < w ∧ okF (W s) sz ∧ M.2.1 23 (4 * i + s) = M.2.1 22 i ∧ line = wln L0 (W s) sz ∧ FinR M i (xb L0 (W s) sz) ∧ (xb L0 (W s) sz).2.2.1 = nI n ∧ n ≤ 147 ∧ next = nI p ∧ M.2.1 21 i = nI p ∧ p + e ≤ n + 10 ∧ RowIs M i ρ ∧ WF ρ ∧ ρ.2.2.2.2.2 ≤ p ∧ Pos (fullB (W s) sz) L0 n p R ρ
def Rdr (i : Nat) (M : ModelS) (R : ReaderS) : Prop := ∃ ρ, RowIs M i ρ ∧ WF ρ ∧ RD R ρ ∧ ρ.2.2.2.2.2 ≤ 9
/-- a reader that has read the last bit -/
def Rdr9 (i : Nat) (M : ModelS) (R : ReaderS) : Prop := ∃ ρ, RowIs M i ρ ∧ WF ρ ∧ RD R ρ ∧ ρ.2.1 = ρ.2.2.2.2.1 ∧ R.2.1 = 10
def ND (c g i : Nat) (M : ModelS) : NodeS → Prop := fun (on, role, wants, sndC, rcvC, nSent, nRcvd, lastF, found, sending, next, wanted, lastR, line, reader) => NC c i M on sndC rcvC nSent nRcvd lastR ∧ NWt g i M wants wanted ∧ lastF = M.2.1 8 i ∧ M.2.1 3 i = (if on = 0 then 0 else role) ∧ (on = 0 → role = 1) ∧ (role = 1 ∨ (role = 2 ∧ Rdr i M reader) ∨ (role = 3 ∧ Snd 1 i M wants sending next wanted line reader))
/-- a node that has looked: f is what the reference says of it, lf its last fault there -/
def PLk (c g i : Nat) (M : ModelS) (f lf : Int32) : NodeS → Prop := fun (on, role, wants, sndC, rcvC, nSent, nRcvd, lastF, found, sending, next, wanted, lastR, line, reader) => NC c i M on sndC rcvC nSent nRcvd lastR ∧ NWt g i M wants wanted ∧ lf = M.2.1 8 i ∧ M.2.1 3 i = (if on = 0 then 0 else role) ∧ (on = 0 → role = 1) ∧ ((found = 0 ∧ ((role = 1 ∧ f = 0) ∨ (role = 2 ∧ ((f = 0 ∧ Rdr i M reader) ∨ (f = 9 ∧ Rdr9 i M reader))) ∨ (role = 3 ∧ f = 0 ∧ Snd 0 i M wants sending next wanted line reader))) ∨ (f = found ∧ (role = 2 ∨ role = 3) ∧ (found = 1 ∨ found = 2 ∨ found = 3 ∨ found = 4 ∨ found = 5)))
theorem NC.eqN {c i : Nat} {M M1 : ModelS} {on snd rcv sent got : Int32} {lastR : FrameS} (h : EqN i M M1) (hN : NC c i M on snd rcv sent got lastR) : NC c i M1 on snd rcv sent got lastR := by
  unfold NC
  rw [h.c1 (f := 4) rfl (by decide) (by decide), h.c1 (f := 5) rfl (by decide) (by decide), h.c1 (f := 6) rfl (by decide) (by decide), h.c1 (f := 7) rfl (by decide) (by decide), h.c1 (f := 14) rfl (by decide) (by decide), h.c1 (f := 15) rfl (by decide) (by decide), h.c1 (f := 17) rfl (by decide) (by decide), h.c16]
  exact hN
theorem NWt.eqN {g i : Nat} {M M1 : ModelS} {wants : Int32} {W : Nat → FrameS} (h : EqN i M M1) (hN : NWt g i M wants W) : NWt g i M1 wants W := by
  obtain ⟨w, h1, h2, h3, h4, h5, h6⟩ := hN
  refine ⟨w, h1, ?_, h3, fun k hk => ⟨h.frM (by omega) (h4 k hk).1, (h4 k hk).2⟩, fun k hk => ?_, fun j k a b => ?_⟩
  · rw [h.c1 (f := 9) rfl (by decide) (by decide)]; exact h2
  · rw [h.c4 (f := 23) (by unfold sf; omega) (by omega)]; exact h5 k hk
  · rw [h.c4 (f := 23) (by unfold sf; omega) (by omega), h.c4 (f := 23) (by unfold sf; omega) (by omega)]; exact h6 j k a b
theorem Snd.eqN {e i : Nat} {M M1 : ModelS} {wants sending next : Int32} {W : Nat → FrameS} {line : LineS} {R : ReaderS} (h : EqN i M M1) (hN : Snd e i M wants sending next W line R) : Snd e i M1 wants sending next W line R := by
  obtain ⟨w, s, p, n, sz, L0, ρ, a1, a2, a3, a4, a5, a6, a7, a8, a9, a10, a11, a12, a13, a14, a15, a16, a17⟩ := hN
  refine ⟨w, s, p, n, sz, L0, ρ, a1, a2, a3, a4, a5, ?_, a7, h.finR a8, a9, a10, a11, ?_, a13, h.rowIs a14, a15, a16, a17⟩
  · rw [h.c4 (f := 23) (by unfold sf; omega) (by omega), h.c1 (f := 22) rfl (by decide) (by decide)]; exact a6
  · rw [h.c1 (f := 21) rfl (by decide) (by decide)]; exact a12
theorem Rdr.eqN {i : Nat} {M M1 : ModelS} {R : ReaderS} (h : EqN i M M1) (hN : Rdr i M R) : Rdr i M1 R := by
  obtain ⟨ρ, a1, a2, a3, a4⟩ := hN
  exact ⟨ρ, h.rowIs a1, a2, a3, a4⟩
theorem Rdr9.eqN {i : Nat} {M M1 : ModelS} {R : ReaderS} (h : EqN i M M1) (hN : Rdr9 i M R) : Rdr9 i M1 R := by
  obtain ⟨ρ, a1, a2, a3, a4⟩ := hN
  exact ⟨ρ, h.rowIs a1, a2, a3, a4⟩
theorem ND.eqN {c g i : Nat} {M M1 : ModelS} {N : NodeS} (h : EqN i M M1) (hN : ND c g i M N) : ND c g i M1 N := by
  obtain ⟨on, role, wants, sndC, rcvC, nSent, nRcvd, lastF, found, sending, next, wanted, lastR, line, reader⟩ := N
  obtain ⟨a1, a2, a3, a4, a5, a6⟩ := hN
  refine ⟨a1.eqN h, a2.eqN h, ?_, ?_, a5, ?_⟩
  · rw [h.c1 (f := 8) rfl (by decide) (by decide)]; exact a3
  · rw [h.c1 (f := 3) rfl (by decide) (by decide)]; exact a4
  · rcases a6 with q | ⟨q, r⟩ | ⟨q, r⟩
    · exact Or.inl q
    · exact Or.inr (Or.inl ⟨q, r.eqN h⟩)
    · exact Or.inr (Or.inr ⟨q, r.eqN h⟩)
theorem PLk.eqN {c g i : Nat} {M M1 : ModelS} {f lf : Int32} {N : NodeS} (h : EqN i M M1) (hN : PLk c g i M f lf N) : PLk c g i M1 f lf N := by
  obtain ⟨on, role, wants, sndC, rcvC, nSent, nRcvd, lastF, found, sending, next, wanted, lastR, line, reader⟩ := N
  obtain ⟨a1, a2, a3, a4, a5, a6⟩ := hN
  refine ⟨a1.eqN h, a2.eqN h, ?_, ?_, a5, ?_⟩
  · rw [h.c1 (f := 8) rfl (by decide) (by decide)]; exact a3
  · rw [h.c1 (f := 3) rfl (by decide) (by decide)]; exact a4
  · rcases a6 with ⟨z, q | ⟨q, ⟨y, r⟩ | ⟨y, r⟩⟩ | ⟨q, y, r⟩⟩ | q
    · exact Or.inl ⟨z, Or.inl q⟩
    · exact Or.inl ⟨z, Or.inr (Or.inl ⟨q, Or.inl ⟨y, r.eqN h⟩⟩)⟩
    · exact Or.inl ⟨z, Or.inr (Or.inl ⟨q, Or.inr ⟨y, r.eqN h⟩⟩)⟩
    · exact Or.inl ⟨z, Or.inr (Or.inr ⟨q, y, r.eqN h⟩)⟩
    · exact Or.inr q
theorem NC.mono {c c1 i : Nat} {M : ModelS} {on snd rcv sent got : Int32} {lastR : FrameS} (h : NC c i M on snd rcv sent got lastR) (hc : c ≤ c1) : NC c1 i M on snd rcv sent got lastR := by
  obtain ⟨a1, a2, a3, a4, a5, a6, a7, b, a8, a9⟩ := h
  exact ⟨a1, a2, a3, a4, a5, a6, a7, b, a8, by omega⟩
theorem NWt.mono {g g1 i : Nat} {M : ModelS} {wants : Int32} {W : Nat → FrameS} (h : NWt g i M wants W) (hg : g ≤ g1) : NWt g1 i M wants W := by
  obtain ⟨w, h1, h2, h3, h4, h5, h6⟩ := h
  refine ⟨w, h1, h2, h3, h4, fun k hk => ?_, h6⟩
  obtain ⟨v, a, b⟩ := h5 k hk
  exact ⟨v, by omega, b⟩
theorem ND.mono {c c1 g g1 i : Nat} {M : ModelS} {N : NodeS} (h : ND c g i M N) (hc : c ≤ c1) (hg : g ≤ g1) : ND c1 g1 i M N := by
  obtain ⟨on, role, wants, sndC, rcvC, nSent, nRcvd, lastF, found, sending, next, wanted, lastR, line, reader⟩ := N
  obtain ⟨a1, a2, a3⟩ := h
  exact ⟨a1.mono hc, a2.mono hg, a3⟩
