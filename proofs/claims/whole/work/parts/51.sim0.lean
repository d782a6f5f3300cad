/-! what the class's reader holds, said of the row -/
theorem shl_or1 (v b : Int32) (hb : isB b) : (v <<< (1 &&& 31)) ||| b = 2 * v + b := by
  have h1 : (v <<< ((1 : Int32) &&& 31)).toBitVec.toNat = v.toBitVec.toNat * 2 ^ 1 % 2 ^ 32 := pk_shl v _ 1 (by decide)
  have hbn : b.toBitVec.toNat ≤ 1 := by rcases hb with rfl | rfl <;> decide
  apply Int32.toBitVec_inj.1
  apply BitVec.eq_of_toNat_eq
  rw [Int32.toBitVec_or, BitVec.toNat_or, h1, Int32.toBitVec_add, Int32.toBitVec_mul, BitVec.toNat_add, BitVec.toNat_mul]
  rw [show (2 : Int32).toBitVec.toNat = 2 from rfl]
  have h2 : v.toBitVec.toNat * 2 ^ 1 % 2 ^ 32 = 2 ^ 1 * (v.toBitVec.toNat * 2 ^ 1 % 2 ^ 32 / 2) := by omega
  have h3 := Nat.two_pow_add_eq_or_of_lt (i := 1) (b := b.toBitVec.toNat) (by omega) (v.toBitVec.toNat * 2 ^ 1 % 2 ^ 32 / 2)
  rw [h2, ← h3]
  omega
theorem nw_congr {β β' : Nat → Int32} {s : Nat} {v : Int32} : ∀ m, (∀ j, s ≤ j → j < s + m → β' j = β j) → nw β' s v m = nw β s v m
  | 0, _ => rfl
  | m + 1, h => by
    show 2 * nw β' s v m + β' (s + m) = 2 * nw β s v m + β (s + m)
    rw [nw_congr m (fun j a c => h j a (by omega)), h (s + m) (by omega) (by omega)]
theorem nv_congr {β β' : Nat → Int32} {s m : Nat} (h : ∀ j, s ≤ j → j < s + m → β' j = β j) : nv β' s m = nv β s m := nw_congr m h
theorem nvn_congr {β β' : Nat → Int32} {s : Nat} : ∀ m, (∀ j, s ≤ j → j < s + m → β' j = β j) → nvn β' s m = nvn β s m
  | 0, _ => rfl
  | m + 1, h => by
    show 2 * nvn β' s m + b01 (β' (s + m)) = 2 * nvn β s m + b01 (β (s + m))
    rw [nvn_congr m (fun j a c => h j a (by omega)), h (s + m) (by omega) (by omega)]
theorem cr_congr {β β' : Nat → Int32} : ∀ m, (∀ j, j < m → β' j = β j) → cr β' m = cr β m
  | 0, _ => rfl
  | m + 1, h => by
    show nc (cr β' m) (β' m) = nc (cr β m) (β m)
    rw [cr_congr m (fun j a => h j (by omega)), h m (by omega)]
def shf (m : Nat) : Nat := m / 8 * 8 + 8 - 1 - m % 8
def dt (β : Nat → Int32) (s : Nat) : Nat → Int64
  | 0 => 0
  | m + 1 => dt β s m ||| ((β (s + m)).toInt64 <<< ((nI (shf m)).toInt64 &&& 63))
theorem dt_congr {β β' : Nat → Int32} {s : Nat} : ∀ m, (∀ j, s ≤ j → j < s + m → β' j = β j) → dt β' s m = dt β s m
  | 0, _ => rfl
  | m + 1, h => by
    show dt β' s m ||| _ = dt β s m ||| _
    rw [dt_congr m (fun j a c => h j a (by omega)), h (s + m) (by omega) (by omega)]
def spk (β : Nat → Int32) (k : Nat) : Nat := if 14 ≤ k ∧ β 13 = 1 then 35 else 15
def cp (β : Nat → Int32) (k : Nat) : Nat := if k < spk β k + 4 then spk β k + 4 else spk β k + 4 + 8 * szn β
def idv (β : Nat → Int32) (k : Nat) : Int32 := if 14 ≤ k ∧ β 13 = 1 then nw β 14 (nv β 1 11) (min (k - 14) 18) else nv β 1 (min (k - 1) 11)
def szv (β : Nat → Int32) (k : Nat) : Int32 := if k < spk β k + 4 then nv β (spk β k) (k - spk β k) else nI (szn β)
def dtv (β : Nat → Int32) (k : Nat) : Int64 := dt β (spk β k + 4) (min (k - (spk β k + 4)) (8 * szn β))
def lgv (β : Nat → Int32) (k : Nat) : Int32 := if 14 ≤ k ∧ β 13 = 1 then 1 else 0
def RDp (R : ReaderS) (β : Nat → Int32) (k : Nat) : Prop := R.1 = nI k ∧ R.2.2.2.2.1 = cr β (min k (cp β k)) ∧ R.2.2.2.2.2.1 = nv β (cp β k) (k - cp β k) ∧ R.2.2.2.2.2.2.1 = nI (spk β k) ∧ R.2.2.2.2.2.2.2.1 = nI (cp β k) ∧ R.2.2.2.2.2.2.2.2 = (lgv β k, idv β k, dtv β k, szv β k)
theorem spk_le (β : Nat → Int32) (k : Nat) : 15 ≤ spk β k ∧ spk β k ≤ 35 := by
  unfold spk
  split <;> omega
theorem spk_sp {β : Nat → Int32} {k : Nat} (h : 14 ≤ k) : spk β k = sp β := by
  unfold spk sp
  by_cases e : β 13 = 1
  · rw [if_pos ⟨h, e⟩, if_pos e]
  · rw [if_neg (fun q => e q.2), if_neg e]
theorem cp_le (β : Nat → Int32) (k : Nat) : cp β k ≤ 103 ∧ 19 ≤ cp β k := by
  have h1 := spk_le β k
  have h2 := szn_le β
  unfold cp
  split <;> omega
/-- from 14 bits on nothing of the head's form changes -/
theorem up14 {β : Nat → Int32} {k : Nat} {b : Int32} (h : 14 ≤ k) : spk (upb β k b) (k + 1) = spk β k ∧ lgv (upb β k b) (k + 1) = lgv β k ∧ sp (upb β k b) = sp β := by
  have e : upb β k b 13 = β 13 := upb_n (by omega)
  unfold spk lgv sp
  rw [e]
  by_cases c : β 13 = 1
  · rw [if_pos ⟨by omega, c⟩, if_pos ⟨h, c⟩, if_pos ⟨by omega, c⟩, if_pos ⟨h, c⟩]
    exact ⟨rfl, rfl, rfl⟩
  · rw [if_neg (fun q => c q.2), if_neg (fun q => c q.2), if_neg (fun q => c q.2), if_neg (fun q => c q.2)]
    exact ⟨rfl, rfl, rfl⟩
theorem up_szn {β : Nat → Int32} {k : Nat} {b : Int32} (h : 14 ≤ k) (h2 : spk β k + 4 ≤ k) : szn (upb β k b) = szn β := by
  have e := (up14 (β := β) (b := b) h).2.2
  unfold szn
  rw [e, nvn_congr 4 (fun j a c => upb_n ?_)]
  rw [spk_sp h] at h2
  omega
theorem up_idv {β : Nat → Int32} {k : Nat} {b : Int32} (h : 14 ≤ k) (h2 : spk β k ≤ k) : idv (upb β k b) (k + 1) = idv β k := by
  have e : upb β k b 13 = β 13 := upb_n (by omega)
  unfold idv
  rw [e]
  by_cases c : β 13 = 1
  · rw [if_pos ⟨by omega, c⟩, if_pos ⟨h, c⟩]
    unfold spk at h2
    rw [if_pos ⟨h, c⟩] at h2
    rw [nv_congr (fun j a c => upb_n (by omega)), show min (k + 1 - 14) 18 = 18 by omega, show min (k - 14) 18 = 18 by omega]
    exact nw_congr 18 (fun j a c => upb_n (by omega))
  · rw [if_neg (fun q => c q.2), if_neg (fun q => c q.2), show min (k + 1 - 1) 11 = 11 by omega, show min (k - 1) 11 = 11 by omega]
    exact nv_congr (fun j a c => upb_n (by omega))
