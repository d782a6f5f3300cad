/-! a byte of the data: by both shifts the same -/
def byM (d : Int64) (k : Nat) : Int32 := ((d >>> ((8 * nI k).toInt64 &&& 63)) &&& 255).toInt32
theorem sh_and (x : BitVec 64) (s : Nat) (hs : s ≤ 56) : (x >>> s) &&& 255#64 = (x.sshiftRight s) &&& 255#64 := by
  apply BitVec.eq_of_getLsbD_eq
  intro i hi
  rw [BitVec.getLsbD_and, BitVec.getLsbD_and, BitVec.getLsbD_ushiftRight, BitVec.getLsbD_sshiftRight]
  by_cases h8 : i < 8
  · simp [show s + i < 64 by omega, hi, show ¬ 64 ≤ i by omega]
  · have h255 : (255#64).getLsbD i = false := by
      have : ∀ j : Fin 64, 8 ≤ j.val → (255#64).getLsbD j.val = false := by decide +kernel
      exact this ⟨i, hi⟩ (by show 8 ≤ i; omega)
    rw [h255]
    simp
theorem byC_M (d : Int64) (k : Nat) (hk : k < 8) : byC d k = byM d k := by
  unfold byC byM
  congr 1
  apply Int64.toBitVec_inj.1
  rcases (show k = 0 ∨ k = 1 ∨ k = 2 ∨ k = 3 ∨ k = 4 ∨ k = 5 ∨ k = 6 ∨ k = 7 by omega) with rfl | rfl | rfl | rfl | rfl | rfl | rfl | rfl
  · exact sh_and d.toBitVec 0 (by decide)
  · exact sh_and d.toBitVec 8 (by decide)
  · exact sh_and d.toBitVec 16 (by decide)
  · exact sh_and d.toBitVec 24 (by decide)
  · exact sh_and d.toBitVec 32 (by decide)
  · exact sh_and d.toBitVec 40 (by decide)
  · exact sh_and d.toBitVec 48 (by decide)
  · exact sh_and d.toBitVec 56 (by decide)
/-! the reference's state: what stays -/
def Fr (P : Nat → Prop) (M M1 : ModelS) : Prop := (∀ k, ¬ P k → M1.1 k = M.1 k) ∧ (∀ k, ¬ P k → M1.2.1 k = M.2.1 k) ∧ M1.2.2 = M.2.2
theorem Fr.rf {P : Nat → Prop} {M : ModelS} : Fr P M M := ⟨fun _ _ => rfl, fun _ _ => rfl, rfl⟩
theorem Fr.tr {P : Nat → Prop} {M M1 M2 : ModelS} (h1 : Fr P M M1) (h2 : Fr P M1 M2) : Fr P M M2 := ⟨fun k hk => (h2.1 k hk).trans (h1.1 k hk), fun k hk => (h2.2.1 k hk).trans (h1.2.1 k hk), h2.2.2.trans h1.2.2⟩
theorem Fr.mono {P P1 : Nat → Prop} {M M1 : ModelS} (h : Fr P M M1) (hp : ∀ k, P k → P1 k) : Fr P1 M M1 := ⟨fun k hk => h.1 k (fun q => hk (hp k q)), fun k hk => h.2.1 k (fun q => hk (hp k q)), h.2.2⟩
theorem up_s {α : Type} {f : Nat → α} {k : Nat} {v : α} : va_up f k v k = v := by simp [va_up]
theorem up_n {α : Type} {f : Nat → α} {k j : Nat} {v : α} (h : j ≠ k) : va_up f k v j = f j := by simp [va_up, h]
def PS (k : Nat) : Prop := k = 33 ∨ k = 34
/-- the row 'frame' holds these bits -/
def FB (M : ModelS) (bs : List Int32) : Prop := M.1 34 = nI bs.length ∧ ∀ (j : Nat) (x : Int32), bs[j]? = some x → M.2.1 33 j = x
theorem FB.push {M : ModelS} {bs : List Int32} {x : Int32} (h : FB M bs) (hl : bs.length < 128) : FB (va_up M.1 34 (M.1 34 + 1), va_up M.2.1 33 (upd (M.2.1 33) (M.1 34).toNatClampNeg x), M.2.2) (bs ++ [x]) := by
  obtain ⟨h1, h2⟩ := h
  refine ⟨(up_s (f := M.1) (k := 34) (v := M.1 34 + 1)).trans (by rw [h1, nI_1]; simp), fun j z hz => ?_⟩
  refine (congrFun (up_s (f := M.2.1) (k := 33) (v := upd (M.2.1 33) (M.1 34).toNatClampNeg x)) j).trans ?_
  rw [h1, nI_clamp (by omega)]
  by_cases hj : j < bs.length
  · rw [List.getElem?_append_left hj] at hz
    rw [pk_un (show j ≠ bs.length by omega)]
    exact h2 j z hz
  · rw [List.getElem?_append_right (by omega)] at hz
    have hj2 : j - bs.length < 1 := (List.getElem?_eq_some_iff.mp hz).1
    rw [show j - bs.length = 0 by omega] at hz
    cases hz
    rw [show j = bs.length by omega]
    exact pk_us
theorem say_loop (K : ModelS → Prop) (v : Int32) : ∀ (r fuel : Nat) (M : ModelS) (bs : List Int32), FB M bs → bs.length + r ≤ 128 → r < fuel → (∀ M1, Fr PS M M1 → FB M1 (bs ++ numB v r) → K M1) → ∀ c : Int32, c = nI r + (-1) → wp_X5_say_4 K fuel M v c := by
  intro r
  induction r with
  | zero =>
    intro fuel M bs hM hl hf h c hc
    cases fuel with
    | zero => omega
    | succ f =>
      have hk : K M := h M Fr.rf (by simpa [numB] using hM)
      obtain ⟨mI, mA, mL⟩ := M
      unfold wp_X5_say_4
      exact ⟨fun _ => hk, fun h9 => absurd (by rw [hc]; decide) h9⟩
  | succ r ih =>
    intro fuel M bs hM hl hf h c hc
    cases fuel with
    | zero => omega
    | succ f =>
      rw [pk_m1] at hc
      have hp := hM.push (x := bitAt v r) (by omega)
      have hin : vp_in (M.1 34) 128 := by rw [hM.1]; exact vp_in_nI (by omega) (by decide)
      have h2 := ih f _ (bs ++ [bitAt v r]) hp (by simp; omega) (by omega) (fun M1 hF hB => by
        have hF0 : Fr PS M (va_up M.1 34 (M.1 34 + 1), va_up M.2.1 33 (upd (M.2.1 33) (M.1 34).toNatClampNeg (bitAt v r)), M.2.2) := ⟨fun k hk => up_n (fun e => hk (Or.inr e)), fun k hk => up_n (fun e => hk (Or.inl e)), rfl⟩
        exact h M1 (hF0.tr hF) (by simpa [numB] using hB)) (nI r + (-1)) rfl
      obtain ⟨mI, mA, mL⟩ := M
      unfold wp_X5_say_4
      rw [hc]
      refine ⟨fun h9 => absurd h9 (nI_pos (by omega)), fun _ => ⟨hin, fun n4 e4 => ?_⟩⟩
      rw [e4]
      exact h2
theorem wp_say {K : ModelS → Prop} {M : ModelS} {v c : Int32} {r : Nat} {bs : List Int32} (hc : c = nI r) (hM : FB M bs) (hl : bs.length + r ≤ 128) (h : ∀ M1, Fr PS M M1 → FB M1 (bs ++ numB v r) → K M1) : wp_X5_say M v c K := by
  have h1 := say_loop K v r 1000 M bs hM hl (by omega) h
  obtain ⟨mI, mA, mL⟩ := M
  unfold wp_X5_say
  intro n1 e1
  refine h1 n1 ?_
  rw [e1, hc]
  cases r with
  | zero => decide
  | succ r => rw [pk_m1, nI_pred]
