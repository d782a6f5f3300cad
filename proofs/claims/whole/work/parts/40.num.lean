/-! the pure side: bits, the check, a line as it is written -/
theorem lit (n : Nat) : (OfNat.ofNat n : Int32) = nI n := rfl
def isB (x : Int32) : Prop := x = 0 ∨ x = 1
theorem isB_0 : isB 0 := Or.inl rfl
theorem isB_1 : isB 1 := Or.inr rfl
/-- bit i of a number -/
def bitAt (v : Int32) (i : Nat) : Int32 := (v >>> (nI i &&& 31)) &&& 1
theorem and1 (x : Int32) : isB (x &&& 1) := by
  obtain ⟨j, hj, e⟩ := pk_andE x (m := 1) 1 (by decide)
  rw [e]
  rcases (show j = 0 ∨ j = 1 by omega) with rfl | rfl
  · exact Or.inl rfl
  · exact Or.inr rfl
theorem bitAt_B (v : Int32) (i : Nat) : isB (bitAt v i) := and1 _
theorem isB.sub {x : Int32} (h : isB x) : isB (1 - x) := by
  rcases h with rfl | rfl
  · exact Or.inr rfl
  · exact Or.inl rfl
theorem isB.ne {x : Int32} (h : isB x) : ¬ 1 - x = x := by
  rcases h with rfl | rfl <;> decide
theorem isB.m1 {x : Int32} (h : isB x) : ¬ x = -1 := by
  rcases h with rfl | rfl <;> decide
/-- the check's next value -/
def nc (c b : Int32) : Int32 := if (c >>> (14 &&& 31)) &&& 1 = b then (c <<< (1 &&& 31)) &&& 32767 else ((c <<< (1 &&& 31)) &&& 32767) ^^^ 17817
theorem wp_nc4 {c b : Int32} {K : Int32 → Prop} (h : K (nc c b)) : wp_X4_nextCheck c b K := by
  unfold wp_X4_nextCheck
  intro n1 e1
  unfold nc at h
  refine ⟨fun hc => ?_, fun hc => ?_⟩
  · rw [if_pos hc] at h
    unfold wp_X4_nextCheck_23
    exact ⟨fun _ => by rw [e1]; exact h, fun h9 => absurd rfl h9⟩
  · rw [if_neg hc] at h
    unfold wp_X4_nextCheck_23
    exact ⟨fun h9 => absurd h9 (by decide), fun _ => by rw [e1]; exact h⟩
/-- the numbers of fifteen bits -/
def ck (c : Int32) : Prop := ∃ k : Nat, k < 32768 ∧ c = nI k
theorem ck_0 : ck 0 := ⟨0, by decide, rfl⟩
theorem ck_shift (c : Int32) : ck ((c <<< (1 &&& 31)) &&& 32767) := by
  obtain ⟨j, hj, e⟩ := pk_andE (c <<< (1 &&& 31)) (m := 32767) 15 (by decide)
  exact ⟨j, by simpa using hj, e⟩
theorem nI_xor (a b : Nat) : nI a ^^^ nI b = nI (a ^^^ b) := by
  apply Int32.toBitVec_inj.1
  show BitVec.ofNat 32 a ^^^ BitVec.ofNat 32 b = BitVec.ofNat 32 (a ^^^ b)
  apply BitVec.eq_of_getLsbD_eq
  intro i hi
  simp [hi]
theorem nI_and (a b : Nat) : nI a &&& nI b = nI (a &&& b) := by
  apply Int32.toBitVec_inj.1
  show BitVec.ofNat 32 a &&& BitVec.ofNat 32 b = BitVec.ofNat 32 (a &&& b)
  apply BitVec.eq_of_getLsbD_eq
  intro i hi
  simp [hi]
theorem nI_or (a b : Nat) : nI a ||| nI b = nI (a ||| b) := by
  apply Int32.toBitVec_inj.1
  show BitVec.ofNat 32 a ||| BitVec.ofNat 32 b = BitVec.ofNat 32 (a ||| b)
  apply BitVec.eq_of_getLsbD_eq
  intro i hi
  simp [hi]
theorem nc_ck {c b : Int32} : ck (nc c b) := by
  unfold nc
  obtain ⟨k, hk, e⟩ := ck_shift c
  split
  · exact ⟨k, hk, e⟩
  · refine ⟨k ^^^ 17817, ?_, ?_⟩
    · exact Nat.xor_lt_two_pow (n := 15) hk (by decide)
    · rw [e]
      exact nI_xor k 17817
theorem hi14 {c : Int32} (h : ck c) : isB (c >>> ((14 : Int32) &&& 31)) ∧ (c >>> ((14 : Int32) &&& 31)) &&& (1 : Int32) = c >>> ((14 : Int32) &&& 31) := by
  obtain ⟨k, hk, rfl⟩ := h
  rw [pk_shrN (by omega) _ 14 (by decide)]
  have h2 : k / 2 ^ 14 = 0 ∨ k / 2 ^ 14 = 1 := by omega
  rcases h2 with e | e <;> rw [e]
  · exact ⟨Or.inl rfl, by decide⟩
  · exact ⟨Or.inr rfl, by decide⟩
theorem wp_nc5 {c b : Int32} {K : Int32 → Prop} (hc : ck c) (hb : isB b) (h : K (nc c b)) : wp_X5_nextCheck c b K := by
  unfold wp_X5_nextCheck
  intro n1 e1 n2 e2
  obtain ⟨h1, h2⟩ := hi14 hc
  unfold nc at h
  rw [h2] at h
  generalize c >>> (14 &&& 31) = d at *
  refine ⟨fun hn => ?_, fun hn => ?_⟩
  · have e : d = b := by
      rcases h1 with rfl | rfl <;> rcases hb with rfl | rfl
      · rfl
      · exact absurd (by rw [e1]; decide) hn
      · exact absurd (by rw [e1]; decide) hn
      · rfl
    rw [if_pos e] at h
    rw [e2]
    exact h
  · have e : ¬ d = b := by
      rcases h1 with rfl | rfl <;> rcases hb with rfl | rfl
      · exact absurd (e1.symm.trans hn) (by decide)
      · decide
      · decide
      · exact absurd (e1.symm.trans hn) (by decide)
    rw [if_neg e] at h
    rw [e2]
    exact h
/-- the check of a row of bits -/
def crc (bs : List Int32) : Int32 := bs.foldl nc 0
theorem crc_ck (bs : List Int32) : ck (crc bs) := by
  unfold crc
  have : ∀ (l : List Int32) (c : Int32), ck c → ck (l.foldl nc c) := by
    intro l
    induction l with
    | nil => exact fun c h => h
    | cons x l ih => exact fun c _ => ih _ nc_ck
  exact this bs 0 ck_0
/-- the lowest c bits of a number, the highest first -/
def numB (v : Int32) : Nat → List Int32
  | 0 => []
  | c + 1 => bitAt v c :: numB v c
theorem numB_len (v : Int32) : ∀ c, (numB v c).length = c
  | 0 => rfl
  | c + 1 => by simp [numB, numB_len v c]
theorem numB_B (v : Int32) : ∀ c, ∀ x ∈ numB v c, isB x
  | 0 => fun x h => absurd h List.not_mem_nil
  | c + 1 => fun x h => (List.mem_cons.mp h).elim (fun e => by rw [e]; exact bitAt_B v c) (numB_B v c x)
/-! a line -/
def app (L : LineS) (b p : Int32) : LineS := match L with
  | (bits, places, len, head, framed, alike, last, check) => (upd bits len.toNatClampNeg b, upd places len.toNatClampNeg p, len + 1, head, framed, if b = last then alike + 1 else 1, b, check)
theorem wp_app {L : LineS} {b p : Int32} {K : LineS → Prop} {n : Nat} (hn : L.2.2.1 = nI n) (hlt : n < 160) (h : K (app L b p)) : wp_X1_append L b p K := by
  obtain ⟨bits, places, len, head, framed, alike, last, check⟩ := L
  have hn : len = nI n := hn
  have hin : vp_in len 160 := by rw [hn]; exact vp_in_nI hlt (by decide)
  unfold wp_X1_append
  refine ⟨fun _ => ⟨hin, hin, fun hb => ?_, fun hb => ?_⟩, fun h9 => absurd ?_ h9⟩
  · unfold wp_X1_append_60
    unfold app at h
    dsimp only at h
    rw [if_neg hb] at h
    exact h
  · unfold wp_X1_append_60
    unfold app at h
    dsimp only at h
    rw [if_pos hb] at h
    exact h
  · rw [hn]
    exact nI_lt hlt (by decide)
/-- one bit of the frame comes on the line: behind five alike one is stuffed in first -/
def feed1 (L : LineS) : LineS := if L.2.2.2.2.2.1 = 5 then app L (1 - L.2.2.2.2.2.2.1) (-1) else L
def feed2 (L : LineS) (b : Int32) : LineS := match app L b L.2.2.2.2.1 with
  | (bits, places, len, head, framed, alike, last, check) => (bits, places, len, head, framed + 1, alike, last, nc check b)
def feed (L : LineS) (b : Int32) : LineS := feed2 (feed1 L) b
/-- a line while it is written: k bits of the frame are on it -/
def LI (L : LineS) (k : Nat) : Prop := ∃ n al : Nat, L.2.2.1 = nI n ∧ L.2.2.2.2.1 = nI k ∧ L.2.2.2.2.2.1 = nI al ∧ 4 * n + al ≤ 5 * k ∧ al ≤ 5 ∧ k ≤ n ∧ (al = 0 → k = 0) ∧ (0 < k → isB L.2.2.2.2.2.2.1)
