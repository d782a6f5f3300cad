/-! a line: how it is written -/
theorem app_len (L : LineS) (b p : Int32) : (app L b p).2.2.1 = L.2.2.1 + 1 := by obtain ⟨bits, places, len, head, framed, alike, last, check⟩ := L; rfl
theorem app_framed (L : LineS) (b p : Int32) : (app L b p).2.2.2.2.1 = L.2.2.2.2.1 := by obtain ⟨bits, places, len, head, framed, alike, last, check⟩ := L; rfl
theorem app_head (L : LineS) (b p : Int32) : (app L b p).2.2.2.1 = L.2.2.2.1 := by obtain ⟨bits, places, len, head, framed, alike, last, check⟩ := L; rfl
theorem app_alike (L : LineS) (b p : Int32) : (app L b p).2.2.2.2.2.1 = if b = L.2.2.2.2.2.2.1 then L.2.2.2.2.2.1 + 1 else 1 := by obtain ⟨bits, places, len, head, framed, alike, last, check⟩ := L; rfl
theorem app_last (L : LineS) (b p : Int32) : (app L b p).2.2.2.2.2.2.1 = b := by obtain ⟨bits, places, len, head, framed, alike, last, check⟩ := L; rfl
theorem app_check (L : LineS) (b p : Int32) : (app L b p).2.2.2.2.2.2.2 = L.2.2.2.2.2.2.2 := by obtain ⟨bits, places, len, head, framed, alike, last, check⟩ := L; rfl
theorem app_bits (L : LineS) (b p : Int32) : (app L b p).1 = upd L.1 L.2.2.1.toNatClampNeg b := by obtain ⟨bits, places, len, head, framed, alike, last, check⟩ := L; rfl
theorem app_places (L : LineS) (b p : Int32) : (app L b p).2.1 = upd L.2.1 L.2.2.1.toNatClampNeg p := by obtain ⟨bits, places, len, head, framed, alike, last, check⟩ := L; rfl
theorem feed2_eq (L : LineS) (b : Int32) : feed2 L b = ((app L b L.2.2.2.2.1).1, (app L b L.2.2.2.2.1).2.1, (app L b L.2.2.2.2.1).2.2.1, (app L b L.2.2.2.2.1).2.2.2.1, (app L b L.2.2.2.2.1).2.2.2.2.1 + 1, (app L b L.2.2.2.2.1).2.2.2.2.2.1, (app L b L.2.2.2.2.1).2.2.2.2.2.2.1, nc (app L b L.2.2.2.2.1).2.2.2.2.2.2.2 b) := by
  obtain ⟨bits, places, len, head, framed, alike, last, check⟩ := L
  rfl
theorem five_iff {x : Int32} {n : Nat} (h : x = nI n) (hn : n ≤ 5) : x = 5 ↔ n = 5 := by
  rw [h, lit 5]
  exact nI_eq (by omega) (by omega)
/-- a line before the next bit, behind what was stuffed in: n bits are on it, al alike at its end -/
def LJ (L : LineS) (k n al : Nat) : Prop := L.2.2.1 = nI n ∧ L.2.2.2.2.1 = nI k ∧ L.2.2.2.2.2.1 = nI al ∧ (0 < k → isB L.2.2.2.2.2.2.1)
theorem feed1_LJ {L : LineS} {k : Nat} (h : LI L k) : ∃ n al : Nat, LJ (feed1 L) k n al ∧ 4 * n + al ≤ 5 * k ∧ al < 5 ∧ k ≤ n ∧ (al = 0 → k = 0) := by
  obtain ⟨n, al, h1, h2, h3, h4, h5, h6, h7, h8⟩ := h
  unfold feed1
  by_cases h9 : al = 5
  · rw [if_pos ((five_iff h3 h5).mpr h9)]
    have hk : 0 < k := by omega
    refine ⟨n + 1, 1, ⟨?_, ?_, ?_, fun _ => ?_⟩, by omega, by omega, by omega, by omega⟩
    · rw [app_len, h1, nI_1]
    · rw [app_framed, h2]
    · rw [app_alike, if_neg (h8 hk).ne]
      rfl
    · rw [app_last]
      exact (h8 hk).sub
  · rw [if_neg (fun q => h9 ((five_iff h3 h5).mp q))]
    exact ⟨n, al, ⟨h1, h2, h3, h8⟩, h4, by omega, h6, h7⟩
theorem feed2_LI {L : LineS} {k n al : Nat} {b : Int32} (h : LJ L k n al) (h4 : 4 * n + al ≤ 5 * k) (h5 : al < 5) (h6 : k ≤ n) (hb : isB b) : LI (feed2 L b) (k + 1) := by
  obtain ⟨h1, h2, h3, h8⟩ := h
  rw [feed2_eq]
  by_cases e : b = L.2.2.2.2.2.2.1
  · refine ⟨n + 1, al + 1, ?_, ?_, ?_, by omega, by omega, by omega, by omega, fun _ => ?_⟩
    · show (app L b L.2.2.2.2.1).2.2.1 = _
      rw [app_len, h1, nI_1]
    · show (app L b L.2.2.2.2.1).2.2.2.2.1 + 1 = _
      rw [app_framed, h2, nI_1]
    · show (app L b L.2.2.2.2.1).2.2.2.2.2.1 = _
      rw [app_alike, if_pos e, h3, nI_1]
    · show isB (app L b L.2.2.2.2.1).2.2.2.2.2.2.1
      rw [app_last]
      exact hb
  · refine ⟨n + 1, 1, ?_, ?_, ?_, by omega, by omega, by omega, by omega, fun _ => ?_⟩
    · show (app L b L.2.2.2.2.1).2.2.1 = _
      rw [app_len, h1, nI_1]
    · show (app L b L.2.2.2.2.1).2.2.2.2.1 + 1 = _
      rw [app_framed, h2, nI_1]
    · show (app L b L.2.2.2.2.1).2.2.2.2.2.1 = _
      rw [app_alike, if_neg e]
      rfl
    · show isB (app L b L.2.2.2.2.1).2.2.2.2.2.2.1
      rw [app_last]
      exact hb
theorem feed_LI {L : LineS} {k : Nat} {b : Int32} (h : LI L k) (hb : isB b) : LI (feed L b) (k + 1) := by
  obtain ⟨n, al, hj, h4, h5, h6, -⟩ := feed1_LJ h
  exact feed2_LI hj h4 h5 h6 hb
theorem fold_LI : ∀ (bs : List Int32) {L : LineS} {k : Nat}, LI L k → (∀ x ∈ bs, isB x) → LI (bs.foldl feed L) (k + bs.length)
  | [], _, _, h, _ => h
  | b :: bs, L, k, h, hb => by
    have := fold_LI bs (feed_LI (b := b) h (hb b List.mem_cons_self)) (fun x hx => hb x (List.mem_cons_of_mem _ hx))
    rw [show k + (b :: bs).length = k + 1 + bs.length by simp; omega]
    exact this
theorem wp_a34 {K : LineS → Prop} {C : LineS → Int32 → Int32 → Prop} {L : LineS} {v1 v3 v4 : Int32} {n : Nat} (hn : L.2.2.1 = nI n) (hlt : n < 160) (h : C (feed2 L v4) v1 (v3 + (-1))) : wp_X1_addNumber_34 K C L v1 v3 v4 := by
  rw [feed2_eq] at h
  obtain ⟨bits, places, len, head, framed, alike, last, check⟩ := L
  unfold wp_X1_addNumber_34
  refine wp_app hn hlt ?_
  refine wp_nc4 ?_
  intro n7 e7
  rw [e7]
  exact h
theorem addN_loop (K : LineS → Prop) (v : Int32) : ∀ (r fuel : Nat) (L : LineS) (k : Nat), LI L k → k + r ≤ 118 → r < fuel → K ((numB v r).foldl feed L) → wp_X1_addNumber_4 K fuel L v (nI r + (-1))
  | 0, 0, _, _, _, _, h, _ => absurd h (by omega)
  | 0, f + 1, L, k, hL, hk, hf, h => by
    obtain ⟨bits, places, len, head, framed, alike, last, check⟩ := L
    unfold wp_X1_addNumber_4
    exact ⟨fun _ => h, fun h9 => absurd (by decide) h9⟩
  | r + 1, 0, _, _, _, _, h, _ => absurd h (by omega)
  | r + 1, f + 1, L, k, hL, hk, hf, h => by
    have ih := addN_loop K v r f
    have hL' := feed_LI (b := bitAt v r) hL (bitAt_B v r)
    have h' : K ((numB v r).foldl feed (feed L (bitAt v r))) := h
    have hstep := ih (feed L (bitAt v r)) (k + 1) hL' (by omega) (by omega) h'
    obtain ⟨n, al, hj, h4, h5, h6, -⟩ := feed1_LJ hL
    have hn0 := hL
    obtain ⟨n0, al0, g1, g2, g3, g4, g5, g6, g7, g8⟩ := hn0
    rw [pk_m1]
    unfold feed feed1 at hstep
    unfold feed1 at hj
    obtain ⟨bits, places, len, head, framed, alike, last, check⟩ := L
    unfold wp_X1_addNumber_4
    refine ⟨fun h9 => absurd h9 (nI_pos (by omega)), fun _ => ?_⟩
    intro n3 e3
    have e3 : n3 = bitAt v r := e3
    rw [e3]
    refine ⟨fun h9 => ?_, fun h9 => ?_⟩
    · rw [if_neg h9] at hstep hj
      refine wp_a34 (n := n) hj.1 (by omega) hstep
    · rw [if_pos h9] at hstep hj
      refine wp_app (n := n0) g1 (by omega) ?_
      exact wp_a34 (n := n) hj.1 (by omega) hstep
theorem wp_addN {K : LineS → Prop} {L : LineS} {v : Int32} {r k : Nat} (hL : LI L k) (hk : k + r ≤ 118) (h : K ((numB v r).foldl feed L)) : wp_X1_addNumber L v (nI r) K := by
  have h1 := addN_loop K v r 1000 L k hL hk (by omega) h
  obtain ⟨bits, places, len, head, framed, alike, last, check⟩ := L
  unfold wp_X1_addNumber
  intro n1 e1
  have e : n1 = nI r + (-1) := by
    rw [e1]
    cases r with
    | zero => decide
    | succ r => rw [pk_m1, nI_pred]
  rw [e]
  exact h1
