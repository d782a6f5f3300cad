/-! the line as one row of bits fed; the reference lays the same -/
def seth (L : LineS) (h : Int32) : LineS := (L.1, L.2.1, L.2.2.1, h, L.2.2.2.2.1, L.2.2.2.2.2.1, L.2.2.2.2.2.2.1, L.2.2.2.2.2.2.2)
theorem app_seth (L : LineS) (h b p : Int32) : app (seth L h) b p = seth (app L b p) h := by
  obtain ⟨bits, places, len, head, framed, alike, last, check⟩ := L
  rfl
theorem feed1_seth (L : LineS) (h : Int32) : feed1 (seth L h) = seth (feed1 L) h := by
  unfold feed1
  by_cases e : L.2.2.2.2.2.1 = 5
  · rw [if_pos e, if_pos (show (seth L h).2.2.2.2.2.1 = 5 from e)]
    exact app_seth L h _ _
  · rw [if_neg e, if_neg (show ¬ (seth L h).2.2.2.2.2.1 = 5 from e)]
theorem feed2_seth (L : LineS) (h b : Int32) : feed2 (seth L h) b = seth (feed2 L b) h := by
  obtain ⟨bits, places, len, head, framed, alike, last, check⟩ := L
  rfl
theorem feed_seth (L : LineS) (h b : Int32) : feed (seth L h) b = seth (feed L b) h := by
  unfold feed
  rw [feed1_seth, feed2_seth]
theorem fold_seth (h : Int32) : ∀ (bs : List Int32) (L : LineS), bs.foldl feed (seth L h) = seth (bs.foldl feed L) h
  | [], _ => rfl
  | b :: bs, L => by
    show bs.foldl feed (feed (seth L h) b) = seth (bs.foldl feed (feed L b)) h
    rw [feed_seth]
    exact fold_seth h bs _
theorem tailL_seth (h : Int32) : ∀ (m : Nat) (L : LineS), tailL m (seth L h) = seth (tailL m L) h
  | 0, _ => rfl
  | m + 1, L => by
    show tailL m (app (seth L h) 1 L.2.2.2.2.1) = seth (tailL m (app L 1 L.2.2.2.2.1)) h
    rw [app_seth]
    exact tailL_seth h m _
theorem feed_check (L : LineS) (b : Int32) : (feed L b).2.2.2.2.2.2.2 = nc L.2.2.2.2.2.2.2 b := by
  unfold feed
  rw [feed2_eq]
  show nc (app (feed1 L) b _).2.2.2.2.2.2.2 b = _
  rw [app_check]
  unfold feed1
  split
  · rw [app_check]
  · rfl
theorem fold_check : ∀ (bs : List Int32) (L : LineS), (bs.foldl feed L).2.2.2.2.2.2.2 = bs.foldl nc L.2.2.2.2.2.2.2
  | [], _ => rfl
  | b :: bs, L => by
    show (bs.foldl feed (feed L b)).2.2.2.2.2.2.2 = bs.foldl nc (nc L.2.2.2.2.2.2.2 b)
    rw [fold_check bs, feed_check]
def allB (F : FrameS) (sz : Nat) : List Int32 := headB F ++ bodyB F sz
def fullB (F : FrameS) (sz : Nat) : List Int32 := allB F sz ++ numB (crc (allB F sz)) 15
theorem allB_B (F : FrameS) (sz : Nat) : ∀ x ∈ allB F sz, isB x := fun x h => (List.mem_append.mp h).elim (headB_B F x) (bodyB_B F sz x)
theorem fullB_B (F : FrameS) (sz : Nat) : ∀ x ∈ fullB F sz, isB x := fun x h => (List.mem_append.mp h).elim (allB_B F sz x) (numB_B _ _ x)
theorem allB_len (F : FrameS) (sz : Nat) : (allB F sz).length = hlen F + (4 + 8 * sz) := by
  unfold allB
  rw [List.length_append, headB_len, bodyB_len]
theorem fullB_len (F : FrameS) (sz : Nat) : (fullB F sz).length = hlen F + (4 + 8 * sz) + 15 := by
  unfold fullB
  rw [List.length_append, allB_len, numB_len]
theorem hlen_le (F : FrameS) : 15 ≤ hlen F ∧ hlen F ≤ 35 := by
  unfold hlen
  split <;> omega
theorem wln_eq (L : LineS) (F : FrameS) (sz : Nat) : wln L F sz = seth (tailL 10 ((fullB F sz).foldl feed (clr L))) (nI (hlen F)) := by
  have h1 := fold_LI (headB F) (clr_LI L) (headB_B F)
  rw [headB_len] at h1
  obtain ⟨n, al, -, h2, -⟩ := h1
  have e3 : wln3 L F sz = seth ((allB F sz).foldl feed (clr L)) (nI (hlen F)) := by
    unfold wln3 allB
    rw [List.foldl_append]
    have e : setHead ((headB F).foldl feed (clr L)) = seth ((headB F).foldl feed (clr L)) (nI (hlen F)) := by
      unfold setHead seth
      rw [show nI (hlen F) = ((headB F).foldl feed (clr L)).2.2.2.2.1 by rw [h2]; simp]
    rw [e, fold_seth]
  unfold wln finL
  rw [e3, fold_seth, tailL_seth]
  have ec : (seth ((allB F sz).foldl feed (clr L)) (nI (hlen F))).2.2.2.2.2.2.2 = crc (allB F sz) := fold_check (allB F sz) (clr L)
  rw [ec]
  unfold fullB
  rw [List.foldl_append]
/-- the reference's row r holds what the line X holds; its own numbers go with X -/
def MR (M : ModelS) (r : Nat) (X : LineS) (n : Nat) (v4 v5 v6 : Int32) : Prop := X.2.2.1 = nI n ∧ v4 = nI n ∧ v5 = X.2.2.2.2.2.1 ∧ (∀ b, isB b → (b = v6 ↔ b = X.2.2.2.2.2.2.1)) ∧ ∀ j, j < n → M.2.1 18 (200 * r + j) = X.1 j ∧ M.2.1 19 (200 * r + j) = X.2.1 j
def PM (k : Nat) : Prop := k = 18 ∨ k = 19 ∨ k = 20
/-- outside row r nothing changes -/
def RowK (r : Nat) (M M1 : ModelS) : Prop := ∀ q, (q < 200 * r ∨ 200 * r + 200 ≤ q) → M1.2.1 18 q = M.2.1 18 q ∧ M1.2.1 19 q = M.2.1 19 q
theorem RowK.tr {r : Nat} {M M1 M2 : ModelS} (h1 : RowK r M M1) (h2 : RowK r M1 M2) : RowK r M M2 := fun q hq => ⟨(h2 q hq).1.trans (h1 q hq).1, (h2 q hq).2.trans (h1 q hq).2⟩
theorem wp_lay {K : Int32 → ModelS → Prop} {M : ModelS} {r pos : Nat} {b p p0 p1 : Int32} (h0 : p0 = nI r) (h1 : p1 = nI pos) (hr : r < 5) (hp : pos < 200)
    (h : ∀ M1, Fr PM M M1 → M1.2.1 18 = upd (M.2.1 18) (200 * r + pos) b → M1.2.1 19 = upd (M.2.1 19) (200 * r + pos) p → M1.2.1 20 = M.2.1 20 → RowK r M M1 → K (nI (pos + 1)) M1) : wp_X5_lay M p0 p1 b p K := by
  obtain ⟨mI, mA, mL⟩ := M
  have e : (200 * p0) + p1 = nI (200 * r + pos) := by rw [h0, h1, lit 200, pk_mul, nI_add]
  unfold wp_X5_lay
  rw [e, nI_clamp (by omega)]
  refine ⟨vp_in_nI (by omega) (by decide), vp_in_nI (by omega) (by decide), ?_⟩
  rw [h1, nI_1]
  refine h _ ⟨fun _ _ => rfl, fun k hk => ?_, rfl⟩ ?_ ?_ ?_ ?_
  · show va_up (va_up mA 18 _) 19 _ k = mA k
    rw [up_n (fun q => hk (Or.inr (Or.inl q))), up_n (fun q => hk (Or.inl q))]
  · exact rfl
  · exact rfl
  · exact rfl
  · intro q hq
    constructor
    · show upd (mA 18) (200 * r + pos) b q = mA 18 q
      refine pk_un ?_
      rcases hq with h | h <;> omega
    · show upd (mA 19) (200 * r + pos) p q = mA 19 q
      refine pk_un ?_
      rcases hq with h | h <;> omega
/-- one bit laid: the row goes with the line that has it too -/
theorem MR_app {M M1 : ModelS} {r n : Nat} {X : LineS} {v4 v5 v6 b p : Int32} (h : MR M r X n v4 v5 v6) (e1 : M1.2.1 18 = upd (M.2.1 18) (200 * r + n) b) (e2 : M1.2.1 19 = upd (M.2.1 19) (200 * r + n) p) (hb : isB b) (hn : n < 200) :
    MR M1 r (app X b p) (n + 1) (nI (n + 1)) (if b = v6 then v5 + 1 else 1) b := by
  obtain ⟨h1, h2, h3, h4, h5⟩ := h
  refine ⟨by rw [app_len, h1, nI_1], rfl, ?_, fun c hc => ?_, fun j hj => ?_⟩
  · rw [app_alike, h3]
    by_cases e : b = v6
    · rw [if_pos e, if_pos ((h4 b hb).mp e)]
    · rw [if_neg e, if_neg (fun q => e ((h4 b hb).mpr q))]
  · rw [app_last]
  · rw [e1, e2, app_bits, app_places, h1, nI_clamp (by omega)]
    by_cases e : j = n
    · subst e
      exact ⟨pk_us.trans pk_us.symm, pk_us.trans pk_us.symm⟩
    · rw [pk_un (show 200 * r + j ≠ 200 * r + n by omega), pk_un (show 200 * r + j ≠ 200 * r + n by omega), pk_un e, pk_un e]
      exact h5 j (by omega)
