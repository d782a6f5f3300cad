/-! which frame is offered -/
def okF (F : FrameS) (sz : Nat) : Prop := F.2.2.2 = nI sz ∧ sz ≤ 8 ∧ ((F.1 = 0 ∧ ∃ v, v < 2048 ∧ F.2.1 = nI v) ∨ (F.1 = 1 ∧ ∃ v, v < 536870912 ∧ F.2.1 = nI v))
def idn (F : FrameS) : Nat := F.2.1.toNatClampNeg
def rk (F : FrameS) : Nat := if F.1 = 0 then idn F * 524288 else idn F / 262144 * 524288 + 262144 + idn F % 262144
def ky (F : FrameS) : Nat := if F.1 = 0 then idn F else idn F / 262144
theorem okF_id {F : FrameS} {sz : Nat} (h : okF F sz) : F.2.1 = nI (idn F) ∧ ((F.1 = 0 ∧ idn F < 2048) ∨ (F.1 = 1 ∧ idn F < 536870912)) := by
  obtain ⟨-, -, h⟩ := h
  unfold idn
  rcases h with ⟨h0, v, hv, e⟩ | ⟨h0, v, hv, e⟩
  · rw [e, nI_clamp (by omega)]
    exact ⟨rfl, Or.inl ⟨h0, hv⟩⟩
  · rw [e, nI_clamp (by omega)]
    exact ⟨rfl, Or.inr ⟨h0, hv⟩⟩
theorem okF_bz {F : FrameS} {sz : Nat} (h : okF F sz) : bz F.1 := by
  obtain ⟨-, -, h⟩ := h
  rcases h with ⟨h0, -⟩ | ⟨h0, -⟩ <;> rw [h0]
  · exact bz_0
  · exact bz_1
theorem rk_lt {F : FrameS} {sz : Nat} (h : okF F sz) : rk F < 1073741824 := by
  obtain ⟨-, h⟩ := okF_id h
  unfold rk
  rcases h with ⟨h0, h⟩ | ⟨h0, h⟩
  · rw [if_pos h0]; omega
  · rw [if_neg (by rw [h0]; decide)]; omega
theorem ky_lt {F : FrameS} {sz : Nat} (h : okF F sz) : ky F < 2048 := by
  obtain ⟨-, h⟩ := okF_id h
  unfold ky
  rcases h with ⟨h0, h⟩ | ⟨h0, h⟩
  · rw [if_pos h0]; omega
  · rw [if_neg (by rw [h0]; decide)]; omega
theorem wp_rank {F : FrameS} {sz : Nat} (h : okF F sz) {K : Int32 → Prop} (hK : K (nI (rk F))) : wp_X0_rank F K := by
  obtain ⟨e, h⟩ := okF_id h
  unfold rk at hK
  generalize idn F = v at *
  obtain ⟨fLong, fId, fData, fSize⟩ := F
  dsimp only at e h hK
  unfold wp_X0_rank
  refine ⟨fun hn n2 e2 => ?_, fun hn => ?_⟩
  · rw [if_neg hn] at hK
    have hv : v < 536870912 := by
      rcases h with ⟨a, b⟩ | ⟨a, b⟩
      · exact absurd a hn
      · exact b
    rw [e2, e, pk_shrN (by omega) _ 18 (by decide), pk_shlN _ 19 (by decide) (by omega), pk_andN (by omega) 18 (by decide), lit 262144, nI_or, nI_or]
    have e1 : v / 2 ^ 18 * 2 ^ 19 ||| 262144 = 2 ^ 18 * (2 * (v / 2 ^ 18) + 1) := by
      have := Nat.two_pow_add_eq_or_of_lt (i := 19) (b := 262144) (by decide) (v / 2 ^ 18)
      rw [Nat.mul_comm, ← this]
      omega
    have e3 := Nat.two_pow_add_eq_or_of_lt (i := 18) (b := v % 2 ^ 18) (Nat.mod_lt _ (by decide)) (2 * (v / 2 ^ 18) + 1)
    rw [e1, ← e3, show 2 ^ 18 * (2 * (v / 2 ^ 18) + 1) + v % 2 ^ 18 = v / 262144 * 524288 + 262144 + v % 262144 by omega]
    exact hK
  · rw [if_pos hn] at hK
    have hv : v < 2048 := by
      rcases h with ⟨a, b⟩ | ⟨a, b⟩
      · exact b
      · rw [a] at hn; exact absurd hn (by decide)
    rw [e, pk_shlN _ 19 (by decide) (by omega)]
    exact hK
theorem wp_key5 {F : FrameS} {sz : Nat} (h : okF F sz) {K : Int32 → Prop} (hK : K (nI (ky F))) : wp_X5_key F.1 F.2.1 K := by
  obtain ⟨e, h⟩ := okF_id h
  unfold ky at hK
  unfold wp_X5_key
  refine ⟨fun hn => ?_, fun hn => ?_⟩
  · rw [if_pos hn] at hK
    rw [e]
    exact hK
  · rw [if_neg hn] at hK
    have hv : idn F < 2 ^ 31 := by rcases h with ⟨a, b⟩ | ⟨a, b⟩ <;> omega
    rw [e, pk_shrN hv _ 18 (by decide)]
    exact hK
theorem rk_iff {A B : FrameS} {sa sb : Nat} (oa : okF A sa) (ob : okF B sb) : rk A < rk B ↔ ky A < ky B ∨ (ky A = ky B ∧ ((A.1 = B.1 ∧ idn A < idn B) ∨ (¬ A.1 = B.1 ∧ B.1 = 1))) := by
  obtain ⟨-, ha⟩ := okF_id oa
  obtain ⟨-, hb⟩ := okF_id ob
  unfold rk ky
  rcases ha with ⟨a0, ha⟩ | ⟨a0, ha⟩ <;> rcases hb with ⟨b0, hb⟩ | ⟨b0, hb⟩ <;> rw [a0, b0] <;> simp <;> omega
set_option maxHeartbeats 1000000 in
theorem wp_cf5 {K : Int32 → Prop} {M : ModelS} {a b sa sb : Nat} {A B : FrameS} (ha : FrM M a A) (hb : FrM M b B) (oa : okF A sa) (ob : okF B sb) (la : a < 16) (lb : b < 16) {p0 p1 : Int32} (h0 : p0 = nI a) (h1 : p1 = nI b) (k1 : rk A < rk B → K 1) (k0 : ¬ rk A < rk B → K 0) : wp_X5_comesFirst M p0 p1 K := by
  have hin0 : vp_in p0 16 := pk_in a 16 la h0
  have hin1 : vp_in p1 16 := pk_in b 16 lb h1
  have c0 : p0.toNatClampNeg = a := pk_cl a h0
  have c1 : p1.toNatClampNeg = b := pk_cl b h1
  obtain ⟨a1, a2, -, -⟩ := ha
  obtain ⟨b1, b2, -, -⟩ := hb
  have hr := rk_iff oa ob
  obtain ⟨ia, ja⟩ := okF_id oa
  obtain ⟨ib, jb⟩ := okF_id ob
  have kya := ky_lt oa
  have kyb := ky_lt ob
  have hia : idn A < 2 ^ 31 := by rcases ja with ⟨x, y⟩ | ⟨x, y⟩ <;> omega
  have hib : idn B < 2 ^ 31 := by rcases jb with ⟨x, y⟩ | ⟨x, y⟩ <;> omega
  obtain ⟨mI, mA, mL⟩ := M
  dsimp only at a1 a2 b1 b2
  unfold wp_X5_comesFirst
  dsimp only
  rw [c0, c1, a1, a2, b1, b2]
  refine ⟨hin0, hin0, wp_key5 oa ⟨hin1, hin1, wp_key5 ob ⟨fun e => ⟨hin0, hin1, fun el => ⟨hin0, hin1, ?_⟩, fun el => ⟨hin1, okF_bz ob, ?_⟩⟩, fun e => ?_⟩⟩⟩
  · have e := (nI_eq (by omega) (by omega)).mp e
    rw [ia, ib]
    refine pk_le (idn B) (idn A) (fun q => k0 (fun z => ?_)) (fun q => k1 (hr.mpr (Or.inr ⟨e, Or.inl ⟨el, q⟩⟩))) rfl rfl hib hia
    rcases hr.mp z with z | ⟨-, ⟨-, z⟩ | ⟨z, -⟩⟩
    · omega
    · omega
    · exact z el
  · have e := (nI_eq (by omega) (by omega)).mp e
    rcases jb with ⟨x, y⟩ | ⟨x, y⟩
    · rw [x]
      refine k0 (fun z => ?_)
      rcases hr.mp z with z | ⟨-, ⟨z, -⟩ | ⟨-, z⟩⟩
      · omega
      · exact el z
      · rw [x] at z
        exact absurd z (by decide)
    · rw [x]
      exact k1 (hr.mpr (Or.inr ⟨e, Or.inr ⟨el, x⟩⟩))
  · have e : ¬ ky A = ky B := fun q => e (by rw [q])
    refine pk_le (ky B) (ky A) (fun q => k0 (fun z => ?_)) (fun q => k1 (hr.mpr (Or.inl q)))
    rcases hr.mp z with z | ⟨z, -⟩
    · omega
    · exact e z
/-- the best so far is a, the next is b, m more -/
def go (r : Nat → Nat) : Nat → Nat → Nat → Nat
  | 0, a, _ => a
  | m + 1, a, b => go r m (if r b < r a then b else a) (b + 1)
theorem go_lt (r : Nat → Nat) : ∀ (m a b : Nat), a < b → go r m a b < b + m
  | 0, a, b, h => h
  | m + 1, a, b, h => by
    have := go_lt r m (if r b < r a then b else a) (b + 1) (by split <;> omega)
    show go r m (if r b < r a then b else a) (b + 1) < b + (m + 1)
    omega
def offv (W : Nat → FrameS) (w : Nat) : Nat := go (fun k => rk (W k)) (w - 1) 0 1
theorem offv_lt (W : Nat → FrameS) {w : Nat} (h : 0 < w) : offv W w < w := by
  have := go_lt (fun k => rk (W k)) (w - 1) 0 1 (by omega)
  unfold offv
  omega

theorem of_0_4 {K : Int32 → Prop} {on role wants sndC rcvC nSent nRcvd lastF found sending next : Int32} {wanted : Nat → FrameS} {lastR : FrameS} {line : LineS} {reader : ReaderS} {w m : Nat} (hw : wants = nI w) (h4 : w ≤ 4) (ho : ∀ k, k < w → ∃ sz, okF (wanted k) sz) (hm : 4 + m = w) (hK : K (nI (go (fun k => rk (wanted k)) m 0 4))) : wp_X2_offered_4_0_4 K (on, role, wants, sndC, rcvC, nSent, nRcvd, lastF, found, sending, next, wanted, lastR, line, reader) := by
  unfold wp_X2_offered_4_0_4
  refine pk_le w 4 (fun h => ?_) (fun h => ?_) hw
  · obtain rfl : m = 0 := by omega
    exact hK
  · omega

theorem of_1_4 {K : Int32 → Prop} {on role wants sndC rcvC nSent nRcvd lastF found sending next : Int32} {wanted : Nat → FrameS} {lastR : FrameS} {line : LineS} {reader : ReaderS} {w m : Nat} (hw : wants = nI w) (h4 : w ≤ 4) (ho : ∀ k, k < w → ∃ sz, okF (wanted k) sz) (hm : 4 + m = w) (hK : K (nI (go (fun k => rk (wanted k)) m 1 4))) : wp_X2_offered_4_1_4 K (on, role, wants, sndC, rcvC, nSent, nRcvd, lastF, found, sending, next, wanted, lastR, line, reader) := by
  unfold wp_X2_offered_4_1_4
  refine pk_le w 4 (fun h => ?_) (fun h => ?_) hw
  · obtain rfl : m = 0 := by omega
    exact hK
  · omega

theorem of_2_4 {K : Int32 → Prop} {on role wants sndC rcvC nSent nRcvd lastF found sending next : Int32} {wanted : Nat → FrameS} {lastR : FrameS} {line : LineS} {reader : ReaderS} {w m : Nat} (hw : wants = nI w) (h4 : w ≤ 4) (ho : ∀ k, k < w → ∃ sz, okF (wanted k) sz) (hm : 4 + m = w) (hK : K (nI (go (fun k => rk (wanted k)) m 2 4))) : wp_X2_offered_4_2_4 K (on, role, wants, sndC, rcvC, nSent, nRcvd, lastF, found, sending, next, wanted, lastR, line, reader) := by
  unfold wp_X2_offered_4_2_4
  refine pk_le w 4 (fun h => ?_) (fun h => ?_) hw
  · obtain rfl : m = 0 := by omega
    exact hK
  · omega

theorem of_3_4 {K : Int32 → Prop} {on role wants sndC rcvC nSent nRcvd lastF found sending next : Int32} {wanted : Nat → FrameS} {lastR : FrameS} {line : LineS} {reader : ReaderS} {w m : Nat} (hw : wants = nI w) (h4 : w ≤ 4) (ho : ∀ k, k < w → ∃ sz, okF (wanted k) sz) (hm : 4 + m = w) (hK : K (nI (go (fun k => rk (wanted k)) m 3 4))) : wp_X2_offered_4_3_4 K (on, role, wants, sndC, rcvC, nSent, nRcvd, lastF, found, sending, next, wanted, lastR, line, reader) := by
  unfold wp_X2_offered_4_3_4
  refine pk_le w 4 (fun h => ?_) (fun h => ?_) hw
  · obtain rfl : m = 0 := by omega
    exact hK
  · omega

theorem of_0_3 {K : Int32 → Prop} {on role wants sndC rcvC nSent nRcvd lastF found sending next : Int32} {wanted : Nat → FrameS} {lastR : FrameS} {line : LineS} {reader : ReaderS} {w m : Nat} (hw : wants = nI w) (h4 : w ≤ 4) (ho : ∀ k, k < w → ∃ sz, okF (wanted k) sz) (hm : 3 + m = w) (hK : K (nI (go (fun k => rk (wanted k)) m 0 3))) : wp_X2_offered_4_0_3 K (on, role, wants, sndC, rcvC, nSent, nRcvd, lastF, found, sending, next, wanted, lastR, line, reader) := by
  unfold wp_X2_offered_4_0_3
  refine pk_le w 3 (fun h => ?_) (fun h => ?_) hw
  · obtain rfl : m = 0 := by omega
    exact hK
  · obtain ⟨m, rfl⟩ : ∃ m', m = m' + 1 := ⟨m - 1, by omega⟩
    obtain ⟨sb, ob⟩ := ho 3 (by omega)
    obtain ⟨sa, oa⟩ := ho 0 (by omega)
    have lb := rk_lt ob
    have la := rk_lt oa
    have hK : K (nI (go (fun k => rk (wanted k)) m (if rk (wanted 3) < rk (wanted 0) then 3 else 0) 4)) := hK
    refine wp_rank ob (wp_rank oa ?_)
    refine pk_le (rk (wanted 0)) (rk (wanted 3)) (fun q => ?_) (fun q => ?_)
    · unfold wp_X2_offered_40_0_3
      rw [if_neg (by omega)] at hK
      exact of_0_4 hw h4 ho (by omega) hK
    · unfold wp_X2_offered_38_3 wp_X2_offered_40_3_3
      rw [if_pos q] at hK
      exact of_3_4 hw h4 ho (by omega) hK

theorem of_1_3 {K : Int32 → Prop} {on role wants sndC rcvC nSent nRcvd lastF found sending next : Int32} {wanted : Nat → FrameS} {lastR : FrameS} {line : LineS} {reader : ReaderS} {w m : Nat} (hw : wants = nI w) (h4 : w ≤ 4) (ho : ∀ k, k < w → ∃ sz, okF (wanted k) sz) (hm : 3 + m = w) (hK : K (nI (go (fun k => rk (wanted k)) m 1 3))) : wp_X2_offered_4_1_3 K (on, role, wants, sndC, rcvC, nSent, nRcvd, lastF, found, sending, next, wanted, lastR, line, reader) := by
  unfold wp_X2_offered_4_1_3
  refine pk_le w 3 (fun h => ?_) (fun h => ?_) hw
  · obtain rfl : m = 0 := by omega
    exact hK
  · obtain ⟨m, rfl⟩ : ∃ m', m = m' + 1 := ⟨m - 1, by omega⟩
    obtain ⟨sb, ob⟩ := ho 3 (by omega)
    obtain ⟨sa, oa⟩ := ho 1 (by omega)
    have lb := rk_lt ob
    have la := rk_lt oa
    have hK : K (nI (go (fun k => rk (wanted k)) m (if rk (wanted 3) < rk (wanted 1) then 3 else 1) 4)) := hK
    refine wp_rank ob (wp_rank oa ?_)
    refine pk_le (rk (wanted 1)) (rk (wanted 3)) (fun q => ?_) (fun q => ?_)
    · unfold wp_X2_offered_40_1_3
      rw [if_neg (by omega)] at hK
      exact of_1_4 hw h4 ho (by omega) hK
    · unfold wp_X2_offered_38_3 wp_X2_offered_40_3_3
      rw [if_pos q] at hK
      exact of_3_4 hw h4 ho (by omega) hK

theorem of_2_3 {K : Int32 → Prop} {on role wants sndC rcvC nSent nRcvd lastF found sending next : Int32} {wanted : Nat → FrameS} {lastR : FrameS} {line : LineS} {reader : ReaderS} {w m : Nat} (hw : wants = nI w) (h4 : w ≤ 4) (ho : ∀ k, k < w → ∃ sz, okF (wanted k) sz) (hm : 3 + m = w) (hK : K (nI (go (fun k => rk (wanted k)) m 2 3))) : wp_X2_offered_4_2_3 K (on, role, wants, sndC, rcvC, nSent, nRcvd, lastF, found, sending, next, wanted, lastR, line, reader) := by
  unfold wp_X2_offered_4_2_3
  refine pk_le w 3 (fun h => ?_) (fun h => ?_) hw
  · obtain rfl : m = 0 := by omega
    exact hK
  · obtain ⟨m, rfl⟩ : ∃ m', m = m' + 1 := ⟨m - 1, by omega⟩
    obtain ⟨sb, ob⟩ := ho 3 (by omega)
    obtain ⟨sa, oa⟩ := ho 2 (by omega)
    have lb := rk_lt ob
    have la := rk_lt oa
    have hK : K (nI (go (fun k => rk (wanted k)) m (if rk (wanted 3) < rk (wanted 2) then 3 else 2) 4)) := hK
    refine wp_rank ob (wp_rank oa ?_)
    refine pk_le (rk (wanted 2)) (rk (wanted 3)) (fun q => ?_) (fun q => ?_)
    · unfold wp_X2_offered_40_2_3
      rw [if_neg (by omega)] at hK
      exact of_2_4 hw h4 ho (by omega) hK
    · unfold wp_X2_offered_38_3 wp_X2_offered_40_3_3
      rw [if_pos q] at hK
      exact of_3_4 hw h4 ho (by omega) hK

theorem of_0_2 {K : Int32 → Prop} {on role wants sndC rcvC nSent nRcvd lastF found sending next : Int32} {wanted : Nat → FrameS} {lastR : FrameS} {line : LineS} {reader : ReaderS} {w m : Nat} (hw : wants = nI w) (h4 : w ≤ 4) (ho : ∀ k, k < w → ∃ sz, okF (wanted k) sz) (hm : 2 + m = w) (hK : K (nI (go (fun k => rk (wanted k)) m 0 2))) : wp_X2_offered_4_0_2 K (on, role, wants, sndC, rcvC, nSent, nRcvd, lastF, found, sending, next, wanted, lastR, line, reader) := by
  unfold wp_X2_offered_4_0_2
  refine pk_le w 2 (fun h => ?_) (fun h => ?_) hw
  · obtain rfl : m = 0 := by omega
    exact hK
  · obtain ⟨m, rfl⟩ : ∃ m', m = m' + 1 := ⟨m - 1, by omega⟩
    obtain ⟨sb, ob⟩ := ho 2 (by omega)
    obtain ⟨sa, oa⟩ := ho 0 (by omega)
    have lb := rk_lt ob
    have la := rk_lt oa
    have hK : K (nI (go (fun k => rk (wanted k)) m (if rk (wanted 2) < rk (wanted 0) then 2 else 0) 3)) := hK
    refine wp_rank ob (wp_rank oa ?_)
    refine pk_le (rk (wanted 0)) (rk (wanted 2)) (fun q => ?_) (fun q => ?_)
    · unfold wp_X2_offered_40_0_2
      rw [if_neg (by omega)] at hK
      exact of_0_3 hw h4 ho (by omega) hK
    · unfold wp_X2_offered_38_2 wp_X2_offered_40_2_2
      rw [if_pos q] at hK
      exact of_2_3 hw h4 ho (by omega) hK

theorem of_1_2 {K : Int32 → Prop} {on role wants sndC rcvC nSent nRcvd lastF found sending next : Int32} {wanted : Nat → FrameS} {lastR : FrameS} {line : LineS} {reader : ReaderS} {w m : Nat} (hw : wants = nI w) (h4 : w ≤ 4) (ho : ∀ k, k < w → ∃ sz, okF (wanted k) sz) (hm : 2 + m = w) (hK : K (nI (go (fun k => rk (wanted k)) m 1 2))) : wp_X2_offered_4_1_2 K (on, role, wants, sndC, rcvC, nSent, nRcvd, lastF, found, sending, next, wanted, lastR, line, reader) := by
  unfold wp_X2_offered_4_1_2
  refine pk_le w 2 (fun h => ?_) (fun h => ?_) hw
  · obtain rfl : m = 0 := by omega
    exact hK
  · obtain ⟨m, rfl⟩ : ∃ m', m = m' + 1 := ⟨m - 1, by omega⟩
    obtain ⟨sb, ob⟩ := ho 2 (by omega)
    obtain ⟨sa, oa⟩ := ho 1 (by omega)
    have lb := rk_lt ob
    have la := rk_lt oa
    have hK : K (nI (go (fun k => rk (wanted k)) m (if rk (wanted 2) < rk (wanted 1) then 2 else 1) 3)) := hK
    refine wp_rank ob (wp_rank oa ?_)
    refine pk_le (rk (wanted 1)) (rk (wanted 2)) (fun q => ?_) (fun q => ?_)
    · unfold wp_X2_offered_40_1_2
      rw [if_neg (by omega)] at hK
      exact of_1_3 hw h4 ho (by omega) hK
    · unfold wp_X2_offered_38_2 wp_X2_offered_40_2_2
      rw [if_pos q] at hK
      exact of_2_3 hw h4 ho (by omega) hK

theorem of_0_1 {K : Int32 → Prop} {on role wants sndC rcvC nSent nRcvd lastF found sending next : Int32} {wanted : Nat → FrameS} {lastR : FrameS} {line : LineS} {reader : ReaderS} {w m : Nat} (hw : wants = nI w) (h4 : w ≤ 4) (ho : ∀ k, k < w → ∃ sz, okF (wanted k) sz) (hm : 1 + m = w) (hK : K (nI (go (fun k => rk (wanted k)) m 0 1))) : wp_X2_offered_4_0_1 K (on, role, wants, sndC, rcvC, nSent, nRcvd, lastF, found, sending, next, wanted, lastR, line, reader) := by
  unfold wp_X2_offered_4_0_1
  refine pk_le w 1 (fun h => ?_) (fun h => ?_) hw
  · obtain rfl : m = 0 := by omega
    exact hK
  · obtain ⟨m, rfl⟩ : ∃ m', m = m' + 1 := ⟨m - 1, by omega⟩
    obtain ⟨sb, ob⟩ := ho 1 (by omega)
    obtain ⟨sa, oa⟩ := ho 0 (by omega)
    have lb := rk_lt ob
    have la := rk_lt oa
    have hK : K (nI (go (fun k => rk (wanted k)) m (if rk (wanted 1) < rk (wanted 0) then 1 else 0) 2)) := hK
    refine wp_rank ob (wp_rank oa ?_)
    refine pk_le (rk (wanted 0)) (rk (wanted 1)) (fun q => ?_) (fun q => ?_)
    · unfold wp_X2_offered_40_0_1
      rw [if_neg (by omega)] at hK
      exact of_0_2 hw h4 ho (by omega) hK
    · unfold wp_X2_offered_38_1 wp_X2_offered_40_1_1
      rw [if_pos q] at hK
      exact of_1_2 hw h4 ho (by omega) hK

theorem wp_off2 {K : Int32 → Prop} {on role wants sndC rcvC nSent nRcvd lastF found sending next : Int32} {wanted : Nat → FrameS} {lastR : FrameS} {line : LineS} {reader : ReaderS} {w : Nat} (hw : wants = nI w) (h4 : w ≤ 4) (ho : ∀ k, k < w → ∃ sz, okF (wanted k) sz) (k0 : w = 0 → K (-1)) (k1 : 0 < w → K (nI (offv wanted w))) : wp_X2_offered (on, role, wants, sndC, rcvC, nSent, nRcvd, lastF, found, sending, next, wanted, lastR, line, reader) K := by
  unfold wp_X2_offered wp_X2_offered_4_m1_0
  refine pk_le w 0 (fun h => k0 (by omega)) (fun h => ?_) hw
  unfold wp_X2_offered_38_0 wp_X2_offered_40_0_0
  exact of_0_1 (m := w - 1) hw h4 ho (by omega) (k1 h)

/-- the wanted frames of node i, on both sides -/
def Wn (i : Nat) (M : ModelS) (W : Nat → FrameS) (w : Nat) : Prop := ∀ k, k < w → FrM M (4 * i + k) (W k) ∧ ∃ sz, okF (W k) sz
theorem offer4 (K : Int32 → Prop) (M : ModelS) (i : Nat) (hi : i < 4) (W : Nat → FrameS) (w : Nat) (hw : M.2.1 9 i = nI w) (h4 : w ≤ 4) (hF : Wn i M W w) : ∀ (m a b fuel : Nat) (v1 v2 v3 : Int32), b + m = w → a < b → m < fuel → v1 = nI i → v2 = nI (4 * i + a) → v3 = nI b → K (nI (4 * i + go (fun k => rk (W k)) m a b)) → wp_X5_offer_4 K fuel M v1 v2 v3 := by
  intro m
  induction m with
  | zero =>
    intro a b fuel v1 v2 v3 hm hab hf h1 h2 h3 hK
    cases fuel with
    | zero => omega
    | succ f =>
      have c1 : v1.toNatClampNeg = i := pk_cl i h1
      obtain ⟨mI, mA, mL⟩ := M
      dsimp only at hw
      unfold wp_X5_offer_4
      rw [c1, hw]
      refine ⟨pk_in i 4 hi h1, pk_le w b (fun _ => ?_) (fun q => by omega) rfl h3⟩
      rw [h2]
      exact hK
  | succ m ih =>
    intro a b fuel v1 v2 v3 hm hab hf h1 h2 h3 hK
    cases fuel with
    | zero => omega
    | succ f =>
      have c1 : v1.toNatClampNeg = i := pk_cl i h1
      have hK : K (nI (4 * i + go (fun k => rk (W k)) m (if rk (W b) < rk (W a) then b else a) (b + 1))) := hK
      obtain ⟨fb, sb, ob⟩ := hF b (by omega)
      obtain ⟨fa, sa, oa⟩ := hF a (by omega)
      have e4i : (4 * v1) + v3 = nI (4 * i + b) := by rw [h1, h3, lit 4, pk_mul, nI_add]
      have g40 : ∀ a' : Nat, a' < b + 1 → (∀ k0 : Int32, k0 = nI (4 * i + a') → K (nI (4 * i + go (fun k => rk (W k)) m a' (b + 1))) → wp_X5_offer_40 K (wp_X5_offer_4 K f) M v1 v3 k0) := by
        intro a' ha' k0 hk0 hK'
        have := ih a' (b + 1) f v1 k0 (v3 + 1) (by omega) ha' (by omega) h1 hk0 (by rw [h3, nI_1]) hK'
        obtain ⟨mI, mA, mL⟩ := M
        unfold wp_X5_offer_40
        intro n4 e4
        rw [e4]
        exact this
      have hcf : wp_X5_comesFirst M ((4 * v1) + v3) v2 (fun r5 => ((r5 = 0 → wp_X5_offer_40 K (wp_X5_offer_4 K f) M v1 v3 v2) ∧ (¬ r5 = 0 → wp_X5_offer_31 K (wp_X5_offer_4 K f) M v1 v3))) := by
        refine wp_cf5 fb fa ob oa (by omega) (by omega) e4i h2 (fun q => ?_) (fun q => ?_)
        · refine ⟨fun z => absurd z (by decide), fun _ => ?_⟩
          rw [if_pos q] at hK
          have := g40 b (by omega) ((4 * v1) + v3) e4i hK
          obtain ⟨mI, mA, mL⟩ := M
          unfold wp_X5_offer_31
          exact this
        · refine ⟨fun _ => ?_, fun z => absurd rfl z⟩
          rw [if_neg q] at hK
          exact g40 a (by omega) v2 h2 hK
      obtain ⟨mI, mA, mL⟩ := M
      dsimp only at hw
      unfold wp_X5_offer_4
      rw [c1, hw]
      refine ⟨pk_in i 4 hi h1, pk_le w b (fun q => by omega) (fun _ => ⟨fun q => ?_, fun _ => hcf⟩) rfl h3⟩
      rw [h2] at q
      exact absurd q (nI_pos (by omega))
theorem wp_off5 {K : Int32 → Prop} {M : ModelS} {i : Nat} (hi : i < 4) {W : Nat → FrameS} {w : Nat} (hw : M.2.1 9 i = nI w) (h4 : w ≤ 4) (hF : Wn i M W w) {v1 : Int32} (h1 : v1 = nI i) (k0 : w = 0 → K (-1)) (k1 : 0 < w → K (nI (4 * i + offv W w))) : wp_X5_offer M v1 K := by
  have c1 : v1.toNatClampNeg = i := pk_cl i h1
  have hin : vp_in v1 4 := pk_in i 4 hi h1
  have hs : ∀ fuel : Nat, w < fuel → wp_X5_offer_4 K fuel M v1 (-1) 0 := by
    intro fuel hf
    cases fuel with
    | zero => omega
    | succ f =>
      have hs : 0 < w → wp_X5_offer_31 K (wp_X5_offer_4 K f) M v1 0 := by
        intro hp
        have := offer4 K M i hi W w hw h4 hF (w - 1) 0 1 f v1 ((4 * v1) + 0) (0 + 1) (by omega) (by omega) (by omega) h1 (by rw [h1, lit 4, pk_mul, lit 0, nI_add]) rfl (k1 hp)
        obtain ⟨mI, mA, mL⟩ := M
        unfold wp_X5_offer_31 wp_X5_offer_40
        intro n4 e4
        rw [e4]
        exact this
      obtain ⟨mI, mA, mL⟩ := M
      dsimp only at hw
      unfold wp_X5_offer_4
      rw [c1, hw]
      exact ⟨hin, pk_le w 0 (fun q => k0 (by omega)) (fun q => ⟨fun _ => hs q, fun z => absurd (by decide) z⟩)⟩
  have := hs 1000 (by omega)
  obtain ⟨mI, mA, mL⟩ := M
  unfold wp_X5_offer
  exact this
