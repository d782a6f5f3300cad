/-! a frame comes on a line -/
def byC (d : Int64) (k : Nat) : Int32 := (((d.toUInt64 >>> ((8 * nI k).toInt64.toUInt64 &&& Int64.toUInt64 63)).toInt64) &&& 255).toInt32
def bytesB (d : Int64) : Nat → Nat → List Int32
  | 0, _ => []
  | m + 1, j => numB (byC d j) 8 ++ bytesB d m (j + 1)
theorem bytesB_len (d : Int64) : ∀ m j, (bytesB d m j).length = 8 * m
  | 0, _ => rfl
  | m + 1, j => by simp [bytesB, numB_len, bytesB_len d m (j + 1)]; omega
theorem bytesB_B (d : Int64) : ∀ m j, ∀ x ∈ bytesB d m j, isB x
  | 0, _ => fun x h => absurd h List.not_mem_nil
  | m + 1, j => fun x h => (List.mem_append.mp h).elim (numB_B _ _ x) (bytesB_B d m (j + 1) x)
def idB (F : FrameS) : List Int32 := if F.1 = 0 then numB F.2.1 11 else numB (F.2.1 >>> (18 &&& 31)) 11 ++ (numB 3 2 ++ numB F.2.1 18)
def headB (F : FrameS) : List Int32 := numB 0 1 ++ (idB F ++ numB 0 3)
def bodyB (F : FrameS) (sz : Nat) : List Int32 := numB F.2.2.2 4 ++ bytesB F.2.2.1 sz 0
def hlen (F : FrameS) : Nat := if F.1 = 0 then 15 else 35
theorem headB_len (F : FrameS) : (headB F).length = hlen F := by
  unfold headB idB hlen
  split <;> simp [numB_len]
theorem headB_B (F : FrameS) : ∀ x ∈ headB F, isB x := by
  intro x h
  unfold headB idB at h
  rcases List.mem_append.mp h with h | h
  · exact numB_B _ _ x h
  · rcases List.mem_append.mp h with h | h
    · split at h
      · exact numB_B _ _ x h
      · rcases List.mem_append.mp h with h | h
        · exact numB_B _ _ x h
        · rcases List.mem_append.mp h with h | h <;> exact numB_B _ _ x h
    · exact numB_B _ _ x h
theorem bodyB_len (F : FrameS) (sz : Nat) : (bodyB F sz).length = 4 + 8 * sz := by
  unfold bodyB
  simp [numB_len, bytesB_len]
theorem bodyB_B (F : FrameS) (sz : Nat) : ∀ x ∈ bodyB F sz, isB x := fun x h => (List.mem_append.mp h).elim (numB_B _ _ x) (bytesB_B _ _ _ x)
def clr (L : LineS) : LineS := (L.1, L.2.1, 0, L.2.2.2.1, 0, 0, -1, 0)
theorem clr_LI (L : LineS) : LI (clr L) 0 := ⟨0, 0, rfl, rfl, rfl, by omega, by omega, by omega, fun _ => rfl, fun h => absurd h (by omega)⟩
def setHead (L : LineS) : LineS := (L.1, L.2.1, L.2.2.1, L.2.2.2.2.1, L.2.2.2.2.1, L.2.2.2.2.2.1, L.2.2.2.2.2.2.1, L.2.2.2.2.2.2.2)
theorem setHead_LI {L : LineS} {k : Nat} (h : LI L k) : LI (setHead L) k := h
def tailL : Nat → LineS → LineS
  | 0, L => L
  | m + 1, L => tailL m (app L 1 L.2.2.2.2.1)
/-- the line of a frame of sz bytes, over what was on it -/
def wln3 (L : LineS) (F : FrameS) (sz : Nat) : LineS := (bodyB F sz).foldl feed (setHead ((headB F).foldl feed (clr L)))
/-- behind the bytes: the check, and what comes behind it -/
def finL (L : LineS) : LineS := tailL 10 ((numB L.2.2.2.2.2.2.2 15).foldl feed L)
def wln (L : LineS) (F : FrameS) (sz : Nat) : LineS := finL (wln3 L F sz)
theorem wp_w130 (K : LineS → Prop) (F : FrameS) : ∀ (m fuel j : Nat) (L : LineS) (n : Nat), j + m = 10 → m < fuel → L.2.2.1 = nI n → n + m ≤ 160 → K (tailL m L) → wp_X1_write_130 K F fuel L (nI j)
  | m, 0, _, _, _, _, h, _, _, _ => absurd h (by omega)
  | 0, f + 1, j, L, n, hj, hf, hn, hlt, h => by
    obtain ⟨bits, places, len, head, framed, alike, last, check⟩ := L
    unfold wp_X1_write_130
    refine ⟨fun _ => h, fun h9 => absurd ?_ h9⟩
    rw [show j = 10 by omega]
    decide
  | m + 1, f + 1, j, L, n, hj, hf, hn, hlt, h => by
    have ih := wp_w130 K F m f (j + 1) (app L 1 L.2.2.2.2.1) (n + 1) (by omega) (by omega) (by rw [app_len, hn, nI_1]) (by omega) h
    obtain ⟨bits, places, len, head, framed, alike, last, check⟩ := L
    unfold wp_X1_write_130
    refine ⟨fun h9 => absurd h9 ?_, fun _ => ?_⟩
    · rw [lit 10]
      exact fun q => absurd ((nI_leI (by omega) (by omega)).mp q) (by omega)
    · refine wp_app (n := n) hn (by omega) ?_
      intro n11 e11
      rw [e11, nI_1]
      exact ih
theorem LI_len {L : LineS} {k : Nat} (h : LI L k) (hk : k ≤ 118) : ∃ n, L.2.2.1 = nI n ∧ n ≤ 147 := by
  obtain ⟨n, al, h1, h2, h3, h4, h5, h6, -⟩ := h
  exact ⟨n, h1, by omega⟩
theorem e15 : (15 : Int32) = nI 15 := rfl
theorem e11 : (11 : Int32) = nI 11 := rfl
theorem e18 : (18 : Int32) = nI 18 := rfl
theorem e8 : (8 : Int32) = nI 8 := rfl
theorem e4 : (4 : Int32) = nI 4 := rfl
theorem e3 : (3 : Int32) = nI 3 := rfl
theorem e2 : (2 : Int32) = nI 2 := rfl
theorem e1 : (1 : Int32) = nI 1 := rfl
theorem e0 : (0 : Int32) = nI 0 := rfl
/-- an addNumber, its count any number that is r -/
theorem wp_addN' {K : LineS → Prop} {L : LineS} {v c : Int32} {r k : Nat} (hc : c = nI r) (hL : LI L k) (hk : k + r ≤ 118) (h : ∀ X, X = (numB v r).foldl feed L → LI X (k + r) → K X) : wp_X1_addNumber L v c K := by
  rw [hc]
  have hb := fold_LI (numB v r) hL (numB_B _ _)
  rw [numB_len] at hb
  exact wp_addN hL hk (h _ rfl hb)
set_option maxHeartbeats 400000 in
theorem wp_w84 (K : LineS → Prop) (F : FrameS) (sz : Nat) (hs : F.2.2.2 = nI sz) (h8 : sz ≤ 8) : ∀ (m fuel j : Nat) (L : LineS) (k : Nat), j + m = sz → m < fuel → LI L k → k + 8 * m + 15 ≤ 118 → K (finL ((bytesB F.2.2.1 m j).foldl feed L)) → ∀ v : Int32, v = nI j → wp_X1_write_84 K F fuel L v := by
  intro m
  induction m with
  | zero =>
    intro fuel j L k hj hf hL hk h v hv
    cases fuel with
    | zero => omega
    | succ f =>
      have h' : K (finL L) := h
      have h3 : wp_X1_addNumber L L.2.2.2.2.2.2.2 15 (fun u8 => wp_X1_write_130 K F 1000 u8 0) := by
        refine wp_addN' e15 hL (by omega) (fun X hX hLX => ?_)
        obtain ⟨n, hn, hn2⟩ := LI_len hLX (by omega)
        unfold finL at h'
        rw [← hX] at h'
        rw [e0]
        exact wp_w130 K F 10 1000 0 X n (by omega) (by omega) hn (by omega) h'
      obtain ⟨bits, places, len, head, framed, alike, last, check⟩ := L
      unfold wp_X1_write_84
      refine ⟨fun _ => h3, fun h9 => absurd ?_ h9⟩
      rw [hs, hv, show j = sz by omega]
      exact nI_le (Nat.le_refl _) (by omega)
  | succ m ih =>
    intro fuel j L k hj hf hL hk h v hv
    cases fuel with
    | zero => omega
    | succ f =>
      unfold bytesB at h
      rw [List.foldl_append] at h
      have h3 : wp_X1_addNumber L (byC F.2.2.1 j) 8 (fun u12 => (∀ n13 : Int32, n13 = v + 1 → wp_X1_write_84 K F f u12 n13)) := by
        refine wp_addN' e8 hL (by omega) (fun X hX hLX => ?_)
        rw [← hX] at h
        intro n13 e13
        exact ih f (j + 1) X (k + 8) (by omega) (by omega) hLX (by omega) h n13 (by rw [e13, hv, nI_1])
      obtain ⟨bits, places, len, head, framed, alike, last, check⟩ := L
      unfold wp_X1_write_84
      rw [hv] at h3 ⊢
      refine ⟨fun h9 => absurd h9 ?_, fun _ => h3⟩
      rw [hs]
      exact fun q => absurd ((nI_leI (by omega) (by omega)).mp q) (by omega)
set_option maxHeartbeats 400000 in
/-- behind the identifier -/
theorem wp_w59 {K : LineS → Prop} {F : FrameS} {sz : Nat} (hs : F.2.2.2 = nI sz) (h8 : sz ≤ 8) {U : LineS} {k : Nat} (hU : LI U k) (hk : k + 3 + 4 + 8 * sz + 15 ≤ 118) (hK : K (finL ((bodyB F sz).foldl feed (setHead ((numB 0 3).foldl feed U))))) : wp_X1_write_59 K F U := by
  unfold bodyB at hK
  rw [List.foldl_append] at hK
  have h3 : wp_X1_addNumber U 0 3 (fun u5 => wp_X1_addNumber (setHead u5) F.2.2.2 4 (fun u6 => wp_X1_write_84 K F 1000 u6 0)) := by
    refine wp_addN' e3 hU (by omega) (fun X hX hLX => ?_)
    rw [← hX] at hK
    refine wp_addN' e4 (setHead_LI hLX) (by omega) (fun Y hY hLY => ?_)
    rw [← hY] at hK
    exact wp_w84 K F sz hs h8 sz 1000 0 Y (k + 3 + 4) (by omega) (by omega) hLY (by omega) hK 0 rfl
  obtain ⟨bits, places, len, head, framed, alike, last, check⟩ := U
  unfold wp_X1_write_59
  exact h3
set_option maxHeartbeats 400000 in
theorem wp_write {K : LineS → Prop} {L : LineS} {F : FrameS} {sz : Nat} (hs : F.2.2.2 = nI sz) (h8 : sz ≤ 8) (h : K (wln L F sz)) : wp_X1_write L F K := by
  have hc := clr_LI L
  unfold wln wln3 headB idB at h
  have hg : wp_X1_addNumber (clr L) 0 1 (fun u2 => ((F.1 = 0 → wp_X1_addNumber u2 F.2.1 11 (fun u4 => wp_X1_write_59 K F u4)) ∧ (¬ F.1 = 0 → wp_X1_addNumber u2 (F.2.1 >>> (18 &&& 31)) 11 (fun u14 => wp_X1_addNumber u14 3 2 (fun u15 => wp_X1_addNumber u15 F.2.1 18 (fun u16 => wp_X1_write_59 K F u16)))))) := by
    refine wp_addN' e1 hc (by omega) (fun X hX hLX => ?_)
    rw [List.foldl_append, ← hX, List.foldl_append] at h
    refine ⟨fun h9 => ?_, fun h9 => ?_⟩
    · rw [if_pos h9] at h
      refine wp_addN' e11 hLX (by omega) (fun Y hY hLY => ?_)
      rw [← hY] at h
      exact wp_w59 hs h8 hLY (by omega) h
    · rw [if_neg h9, List.foldl_append, List.foldl_append] at h
      refine wp_addN' e11 hLX (by omega) (fun Y hY hLY => ?_)
      rw [← hY] at h
      refine wp_addN' e2 hLY (by omega) (fun Z hZ hLZ => ?_)
      rw [← hZ] at h
      refine wp_addN' e18 hLZ (by omega) (fun V hV hLV => ?_)
      rw [← hV] at h
      exact wp_w59 hs h8 hLV (by omega) h
  obtain ⟨bits, places, len, head, framed, alike, last, check⟩ := L
  unfold wp_X1_write wp_X1_clear
  exact hg
