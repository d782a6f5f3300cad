/-! begin, answers, keep -/
def beginR : ReaderS := (0, 0, 0, -1, 0, 0, 15, 19, (0, 0, 0, 0))
theorem wp_begin3 {R : ReaderS} {K : ReaderS → Prop} (h : K beginR) : wp_X3_begin R K := by
  obtain ⟨taken, tail, alike, last, check, chkTaken, sizePl, chkPl, fr⟩ := R
  unfold wp_X3_begin
  obtain ⟨fl, fi, fd, fs⟩ := fr
  exact ⟨bz_0, h⟩
def row0 (β : Nat → Int32) : RowS := (β, 0, 0, 2, 999, 0)
theorem row0_WF (β : Nat → Int32) : WF (row0 β) := ⟨fun j hj => absurd hj (Nat.not_lt_zero j), Or.inl ⟨rfl, Or.inl (by show 0 < 19; omega)⟩⟩
theorem row0_RD (β : Nat → Int32) : RD beginR (row0 β) := by
  have es : spk β 0 = 15 := by unfold spk; rw [if_neg (fun q => absurd q.1 (by omega))]
  obtain ⟨a1, a2, a3, a4, a5⟩ := headv (β := β) (k := 0) (by omega)
  refine ⟨⟨rfl, ?_, ?_, ?_, ?_, ?_⟩, rfl, rfl, fun b hb => ⟨fun q => absurd q hb.m1, fun q => ?_⟩, fun _ => rfl⟩
  · show (0 : Int32) = cr β (min 0 (cp β 0))
    rw [a5]
    rfl
  · show (0 : Int32) = nv β (cp β 0) (0 - cp β 0)
    rw [a4]
  · show (15 : Int32) = nI (spk β 0)
    rw [es]
    rfl
  · show (19 : Int32) = nI (cp β 0)
    rw [a3, es]
    rfl
  · show ((0 : Int32), (0 : Int32), (0 : Int64), (0 : Int32)) = (lgv β 0, idv β 0, dtv β 0, szv β 0)
    rw [a1, a2]
    unfold lgv idv
    rw [if_neg (fun q => absurd q.1 (by omega)), if_neg (fun q => absurd q.1 (by omega))]
    rfl
  · have q : b = 2 := q
    rcases hb with rfl | rfl <;> exact absurd q (by decide)
theorem wp_begin5 {K : ModelS → Prop} {M : ModelS} {r : Nat} (hr : r < 5) {v1 : Int32} (h1 : v1 = nI r) (h : ∀ M1 β, Fr PT M M1 → RowF r M M1 → RowIs M1 r (row0 β) → K M1) : wp_X5_begin M v1 K := by
  have hin : vp_in v1 5 := by rw [h1]; exact vp_in_nI hr (by decide)
  have hcl : v1.toNatClampNeg = r := by rw [h1]; exact nI_clamp (by omega)
  obtain ⟨mI, mA, mL⟩ := M
  unfold wp_X5_begin wp_X5_begin_30
  dsimp only
  rw [hcl]
  refine ⟨hin, hin, hin, hin, hin, h _ (fun j => mA 25 (128 * r + j)) ⟨fun _ _ => rfl, fun k hk => ?_, rfl⟩ ⟨fun f a b q hq => ?_, fun q hq => rfl⟩ ⟨pk_us, pk_us, pk_us, pk_us, pk_us, fun j hj => rfl⟩⟩
  · have hk : ¬ (25 ≤ k ∧ k ≤ 30) := hk
    show va_up (va_up (va_up (va_up (va_up mA 26 _) 27 _) 28 _) 29 _) 30 _ k = mA k
    rw [up_n (by omega), up_n (by omega), up_n (by omega), up_n (by omega), up_n (by omega)]
  · rcases (show f = 26 ∨ f = 27 ∨ f = 28 ∨ f = 29 ∨ f = 30 by omega) with rfl | rfl | rfl | rfl | rfl <;> exact pk_un hq
/-- whether the class's reader gives the answer -/
def ans (R : ReaderS) : Int32 := if R.1 = R.2.2.2.2.2.2.2.1 + 15 ∧ R.2.1 = 1 ∧ R.2.2.2.2.1 = R.2.2.2.2.2.1 then 1 else 0
theorem wp_ans3 {R : ReaderS} {K : Int32 → Prop} (h : K (ans R)) : wp_X3_givesAnswer R K := by
  obtain ⟨taken, tail, alike, last, check, chkTaken, sizePl, chkPl, fr⟩ := R
  unfold ans at h
  dsimp only at h
  unfold wp_X3_givesAnswer wp_X3_hasWholeFrame wp_X3_givesAnswer_30
  refine ⟨fun a => ⟨fun _ => ?_, fun q => absurd rfl q⟩, fun a => ⟨fun q => absurd q (by decide), fun _ => ⟨fun c => ?_, fun c => ⟨fun d => ?_, fun d => ?_⟩⟩⟩⟩
  · rw [if_neg (fun q => a q.1)] at h; exact h
  · rw [if_neg (fun q => c q.2.1)] at h; exact h
  · rw [if_neg (fun q => d q.2.2)] at h; exact h
  · rw [if_pos ⟨a, c, d⟩] at h; exact h
theorem wp_ans5 {K : Int32 → Prop} {M : ModelS} {r : Nat} (hr : r < 5) {ρ : RowS} (hρ : RowIs M r ρ) (hw : WF ρ) {R : ReaderS} (hR : RD R ρ) (ht : ρ.2.2.2.2.2 < 1000) {v1 : Int32} (h1 : v1 = nI r) (h : K (ans R)) : wp_X5_answers M v1 K := by
  have hin : vp_in v1 5 := by rw [h1]; exact vp_in_nI hr (by decide)
  have hcl : v1.toNatClampNeg = r := by rw [h1]; exact nI_clamp (by omega)
  obtain ⟨β, k, al, la, nd, t⟩ := ρ
  obtain ⟨hp, h2, h3, h4, h6⟩ := hR
  obtain ⟨q1, q2, q3, q4, q5, q6⟩ := hp
  obtain ⟨p1, p2, p3, p4, p5, p6⟩ := hρ
  have hk := hw.k
  have hcp := cp_le β k
  have hop := hw.open_
  have hnd := hw.nd
  have hB := hw.1
  dsimp only at p1 p2 p3 p4 p5 p6 h2 h3 q1 q2 q3 q4 q5 ht hk hnd hB
  have ekn : nI k = nI nd ↔ k = nd := nI_eq (by omega) (by omega)
  have ekc : R.1 = R.2.2.2.2.2.2.2.1 + 15 ↔ k = nd := by rw [q1, q5, lit 15, nI_add, hop]; exact nI_eq (by omega) (by omega)
  have et : R.2.1 = 1 ↔ t = 1 := by rw [h2, lit 1]; exact nI_eq (by omega) (by omega)
  have et5 : nI t = 1 ↔ t = 1 := by rw [lit 1]; exact nI_eq (by omega) (by omega)
  unfold ans at h
  obtain ⟨mI, mA, mL⟩ := M
  dsimp only at p1 p2 p3 p4 p5 p6
  unfold wp_X5_answers wp_X5_answers_37
  dsimp only
  rw [hcl, p1, p4, p5]
  refine ⟨hin, hin, fun a => ?_, fun a => ⟨hin, fun c => ?_, fun c => ?_⟩⟩
  · rw [if_neg (fun q => a (ekn.mpr (ekc.mp q.1)))] at h
    exact h
  · rw [if_neg (fun q => c (et5.mpr (et.mp q.2.1)))] at h
    exact h
  · have hkn := ekn.mp a
    obtain ⟨n1, n2⟩ := hnd hkn
    have hkc := hop.mp hkn
    have hr2 : (R.2.2.2.2.1 = R.2.2.2.2.2.1) ↔ right β nd := by
      unfold right
      rw [q2, q3, show min k (cp β k) = cp β k by omega, show k - cp β k = 15 by omega, show nd - 15 = cp β k by omega]
    refine wp_isRight (M := (mI, mA, mL)) hr (β := β) (nd := nd) p6 n1 (by omega) p4 (fun j hj => hB j (by omega)) h1 ?_
    by_cases hR : right β nd
    · rw [if_pos hR]
      rw [if_pos ⟨ekc.mpr hkn, et.mpr (et5.mp c), hr2.mpr hR⟩] at h
      exact ⟨fun q => absurd q (by decide), fun _ => h⟩
    · rw [if_neg hR]
      rw [if_neg (fun q => hR (hr2.mp q.2.2))] at h
      exact ⟨fun _ => h, fun q => absurd rfl q⟩
/-! the data: eight bits make a byte -/
def rdt (β : Nat → Int32) (s : Nat) : Nat → Int64
  | 0 => 0
  | m + 1 => rdt β s m ||| ((nv β (s + 8 * m) 8).toInt64 <<< ((8 * nI m).toInt64 &&& 63))
def bI (x : Bool) : Int32 := if x then 1 else 0
theorem bI_of {x : Int32} (h : isB x) : ∃ c, x = bI c := by
  rcases h with rfl | rfl
  · exact ⟨false, rfl⟩
  · exact ⟨true, rfl⟩
def sh64 (b : Int32) (s : Nat) : Int64 := b.toInt64 <<< ((nI s).toInt64 &&& 63)
theorem byte8 : ∀ (m : Fin 8) (a b c d e f g h : Bool), (((((((sh64 (bI a) (shf (8 * m.val + 0)) ||| sh64 (bI b) (shf (8 * m.val + 1))) ||| sh64 (bI c) (shf (8 * m.val + 2))) ||| sh64 (bI d) (shf (8 * m.val + 3))) ||| sh64 (bI e) (shf (8 * m.val + 4))) ||| sh64 (bI f) (shf (8 * m.val + 5))) ||| sh64 (bI g) (shf (8 * m.val + 6))) ||| sh64 (bI h) (shf (8 * m.val + 7))) = (2 * (2 * (2 * (2 * (2 * (2 * (2 * (2 * 0 + bI a) + bI b) + bI c) + bI d) + bI e) + bI f) + bI g) + bI h).toInt64 <<< ((8 * nI m.val).toInt64 &&& 63) := by
  decide +kernel
theorem dt_rdt (β : Nat → Int32) (s : Nat) : ∀ m, m ≤ 8 → (∀ j, s ≤ j → j < s + 8 * m → isB (β j)) → dt β s (8 * m) = rdt β s m
  | 0, _, _ => rfl
  | m + 1, hm, hB => by
    have ih := dt_rdt β s m (by omega) (fun j a c => hB j a (by omega))
    obtain ⟨c0, e0⟩ := bI_of (hB (s + (8 * m + 0)) (by omega) (by omega))
    obtain ⟨c1, e1⟩ := bI_of (hB (s + (8 * m + 1)) (by omega) (by omega))
    obtain ⟨c2, e2⟩ := bI_of (hB (s + (8 * m + 2)) (by omega) (by omega))
    obtain ⟨c3, e3⟩ := bI_of (hB (s + (8 * m + 3)) (by omega) (by omega))
    obtain ⟨c4, e4⟩ := bI_of (hB (s + (8 * m + 4)) (by omega) (by omega))
    obtain ⟨c5, e5⟩ := bI_of (hB (s + (8 * m + 5)) (by omega) (by omega))
    obtain ⟨c6, e6⟩ := bI_of (hB (s + (8 * m + 6)) (by omega) (by omega))
    obtain ⟨c7, e7⟩ := bI_of (hB (s + (8 * m + 7)) (by omega) (by omega))
    have hb := byte8 ⟨m, by omega⟩ c0 c1 c2 c3 c4 c5 c6 c7
    show dt β s (8 * m + 8) = rdt β s m ||| ((nv β (s + 8 * m) 8).toInt64 <<< ((8 * nI m).toInt64 &&& 63))
    have el : dt β s (8 * m + 8) = (((((((dt β s (8 * m) ||| sh64 (β (s + (8 * m + 0))) (shf (8 * m + 0))) ||| sh64 (β (s + (8 * m + 1))) (shf (8 * m + 1))) ||| sh64 (β (s + (8 * m + 2))) (shf (8 * m + 2))) ||| sh64 (β (s + (8 * m + 3))) (shf (8 * m + 3))) ||| sh64 (β (s + (8 * m + 4))) (shf (8 * m + 4))) ||| sh64 (β (s + (8 * m + 5))) (shf (8 * m + 5))) ||| sh64 (β (s + (8 * m + 6))) (shf (8 * m + 6))) ||| sh64 (β (s + (8 * m + 7))) (shf (8 * m + 7)) := rfl
    have er : nv β (s + 8 * m) 8 = 2 * (2 * (2 * (2 * (2 * (2 * (2 * (2 * 0 + β (s + 8 * m + 0)) + β (s + 8 * m + 1)) + β (s + 8 * m + 2)) + β (s + 8 * m + 3)) + β (s + 8 * m + 4)) + β (s + 8 * m + 5)) + β (s + 8 * m + 6)) + β (s + 8 * m + 7) := rfl
    rw [el, er, Nat.add_assoc s (8 * m) 0, Nat.add_assoc s (8 * m) 1, Nat.add_assoc s (8 * m) 2, Nat.add_assoc s (8 * m) 3, Nat.add_assoc s (8 * m) 4, Nat.add_assoc s (8 * m) 5, Nat.add_assoc s (8 * m) 6, Nat.add_assoc s (8 * m) 7, e0, e1, e2, e3, e4, e5, e6, e7]
    dsimp only at hb
    rw [← hb, ih]
    simp only [Int64.or_assoc]
theorem nw_nvn (β : Nat → Int32) (s : Nat) (v : Nat) : ∀ m, (∀ j, s ≤ j → j < s + m → isB (β j)) → nw β s (nI v) m = nI (v * 2 ^ m + nvn β s m)
  | 0, _ => by
    show nI v = nI (v * 2 ^ 0 + 0)
    simp
  | m + 1, h => by
    have h1 := nw_nvn β s v m (fun j a b => h j a (by omega))
    show 2 * nw β s (nI v) m + β (s + m) = nI (v * 2 ^ (m + 1) + (2 * nvn β s m + b01 (β (s + m))))
    rw [h1, e2, pk_mul, b01_eq (h (s + m) (by omega) (by omega)), nI_add, ← b01_eq (h (s + m) (by omega) (by omega)), Nat.pow_succ]
    congr 1
    rw [Nat.mul_add, ← Nat.mul_assoc, Nat.mul_comm 2 v, Nat.mul_assoc v 2 (2 ^ m), Nat.mul_comm 2 (2 ^ m), Nat.add_assoc]
theorem id_long (β : Nat → Int32) (hB : ∀ j, j < 39 → isB (β j)) : nw β 14 (nv β 1 11) 18 = (nv β 1 11 <<< (18 &&& 31)) ||| nv β 14 18 := by
  rw [nv_nvn β 1 11 (fun j a c => hB j (by omega)), nv_nvn β 14 18 (fun j a c => hB j (by omega)), nw_nvn β 14 _ 18 (fun j a c => hB j (by omega))]
  have h1 : nvn β 1 11 < 2 ^ 11 := nvn_lt β 1 11
  have h2 : nvn β 14 18 < 2 ^ 18 := nvn_lt β 14 18
  rw [pk_shlN (n := nvn β 1 11) _ 18 (by decide) (by omega), nI_or, Nat.mul_comm (nvn β 1 11) (2 ^ 18), Nat.two_pow_add_eq_or_of_lt h2]
