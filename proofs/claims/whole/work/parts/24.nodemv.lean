def wp_X2_removeWanted_24_4 (K : NodeS → Prop) : NodeS → Prop := fun (on, role, wants, sndC, rcvC, nSent, nRcvd, lastF, found, sending, next, wanted, lastR, line, reader) => ((wants ≤ 4 → (vp_in (wants - 1) 4 ∧ (wants - 1 = 0 → False) ∧ (wants - 1 = 1 → False) ∧ (wants - 1 = 2 → K (on, role, wants - 1, sndC, rcvC, nSent, nRcvd, lastF, found, sending, next, va_up (va_up (va_up wanted 0 (wanted 1)) 1 (wanted 2)) 2 (wanted 0), lastR, line, reader)) ∧ (wants - 1 = 3 → K (on, role, wants - 1, sndC, rcvC, nSent, nRcvd, lastF, found, sending, next, va_up (va_up (va_up (va_up wanted 0 (wanted 1)) 1 (wanted 2)) 2 (wanted 3)) 3 (wanted 0), lastR, line, reader)))) ∧ (¬ wants ≤ 4 → False))
def wp_X2_removeWanted_24_3 (K : NodeS → Prop) : NodeS → Prop := fun (on, role, wants, sndC, rcvC, nSent, nRcvd, lastF, found, sending, next, wanted, lastR, line, reader) => ((wants ≤ 3 → (vp_in (wants - 1) 4 ∧ (wants - 1 = 0 → False) ∧ (wants - 1 = 1 → K (on, role, wants - 1, sndC, rcvC, nSent, nRcvd, lastF, found, sending, next, va_up (va_up wanted 0 (wanted 1)) 1 (wanted 0), lastR, line, reader)) ∧ (wants - 1 = 2 → K (on, role, wants - 1, sndC, rcvC, nSent, nRcvd, lastF, found, sending, next, va_up (va_up (va_up wanted 0 (wanted 1)) 1 (wanted 2)) 2 (wanted 0), lastR, line, reader)) ∧ (wants - 1 = 3 → False))) ∧ (¬ wants ≤ 3 → wp_X2_removeWanted_24_4 K (on, role, wants, sndC, rcvC, nSent, nRcvd, lastF, found, sending, next, wanted, lastR, line, reader)))
def wp_X2_removeWanted_24_2 (K : NodeS → Prop) : NodeS → Prop := fun (on, role, wants, sndC, rcvC, nSent, nRcvd, lastF, found, sending, next, wanted, lastR, line, reader) => ((wants ≤ 2 → (vp_in (wants - 1) 4 ∧ (wants - 1 = 0 → K (on, role, wants - 1, sndC, rcvC, nSent, nRcvd, lastF, found, sending, next, wanted, lastR, line, reader)) ∧ (wants - 1 = 1 → K (on, role, wants - 1, sndC, rcvC, nSent, nRcvd, lastF, found, sending, next, va_up (va_up wanted 0 (wanted 1)) 1 (wanted 0), lastR, line, reader)) ∧ (wants - 1 = 2 → False) ∧ (wants - 1 = 3 → False))) ∧ (¬ wants ≤ 2 → wp_X2_removeWanted_24_3 K (on, role, wants, sndC, rcvC, nSent, nRcvd, lastF, found, sending, next, wanted, lastR, line, reader)))
def wp_X2_removeWanted_24_1 (K : NodeS → Prop) : NodeS → Prop := fun (on, role, wants, sndC, rcvC, nSent, nRcvd, lastF, found, sending, next, wanted, lastR, line, reader) => ((wants ≤ 1 → (vp_in (wants - 1) 4 ∧ (wants - 1 = 0 → K (on, role, wants - 1, sndC, rcvC, nSent, nRcvd, lastF, found, sending, next, wanted, lastR, line, reader)) ∧ (wants - 1 = 1 → False) ∧ (wants - 1 = 2 → False) ∧ (wants - 1 = 3 → False))) ∧ (¬ wants ≤ 1 → wp_X2_removeWanted_24_2 K (on, role, wants, sndC, rcvC, nSent, nRcvd, lastF, found, sending, next, wanted, lastR, line, reader)))
def wp_X2_removeWanted_24_4_v6 (K : NodeS → Prop) : NodeS → Prop := fun (on, role, wants, sndC, rcvC, nSent, nRcvd, lastF, found, sending, next, wanted, lastR, line, reader) => ((wants ≤ 4 → (vp_in (wants - 1) 4 ∧ (wants - 1 = 0 → False) ∧ (wants - 1 = 1 → False) ∧ (wants - 1 = 2 → K (on, role, wants - 1, sndC, rcvC, nSent, nRcvd, lastF, found, sending, next, va_up (va_up wanted 1 (wanted 2)) 2 (wanted 1), lastR, line, reader)) ∧ (wants - 1 = 3 → K (on, role, wants - 1, sndC, rcvC, nSent, nRcvd, lastF, found, sending, next, va_up (va_up (va_up wanted 1 (wanted 2)) 2 (wanted 3)) 3 (wanted 1), lastR, line, reader)))) ∧ (¬ wants ≤ 4 → False))
def wp_X2_removeWanted_24_3_v5 (K : NodeS → Prop) : NodeS → Prop := fun (on, role, wants, sndC, rcvC, nSent, nRcvd, lastF, found, sending, next, wanted, lastR, line, reader) => ((wants ≤ 3 → (vp_in (wants - 1) 4 ∧ (wants - 1 = 0 → False) ∧ (wants - 1 = 1 → K (on, role, wants - 1, sndC, rcvC, nSent, nRcvd, lastF, found, sending, next, wanted, lastR, line, reader)) ∧ (wants - 1 = 2 → K (on, role, wants - 1, sndC, rcvC, nSent, nRcvd, lastF, found, sending, next, va_up (va_up wanted 1 (wanted 2)) 2 (wanted 1), lastR, line, reader)) ∧ (wants - 1 = 3 → False))) ∧ (¬ wants ≤ 3 → wp_X2_removeWanted_24_4_v6 K (on, role, wants, sndC, rcvC, nSent, nRcvd, lastF, found, sending, next, wanted, lastR, line, reader)))
def wp_X2_removeWanted_24_2_v4 (K : NodeS → Prop) : NodeS → Prop := fun (on, role, wants, sndC, rcvC, nSent, nRcvd, lastF, found, sending, next, wanted, lastR, line, reader) => ((wants ≤ 2 → (vp_in (wants - 1) 4 ∧ (wants - 1 = 0 → False) ∧ (wants - 1 = 1 → K (on, role, wants - 1, sndC, rcvC, nSent, nRcvd, lastF, found, sending, next, wanted, lastR, line, reader)) ∧ (wants - 1 = 2 → False) ∧ (wants - 1 = 3 → False))) ∧ (¬ wants ≤ 2 → wp_X2_removeWanted_24_3_v5 K (on, role, wants, sndC, rcvC, nSent, nRcvd, lastF, found, sending, next, wanted, lastR, line, reader)))
def wp_X2_removeWanted_24_4_v8 (K : NodeS → Prop) : NodeS → Prop := fun (on, role, wants, sndC, rcvC, nSent, nRcvd, lastF, found, sending, next, wanted, lastR, line, reader) => ((wants ≤ 4 → (vp_in (wants - 1) 4 ∧ (wants - 1 = 0 → False) ∧ (wants - 1 = 1 → False) ∧ (wants - 1 = 2 → K (on, role, wants - 1, sndC, rcvC, nSent, nRcvd, lastF, found, sending, next, wanted, lastR, line, reader)) ∧ (wants - 1 = 3 → K (on, role, wants - 1, sndC, rcvC, nSent, nRcvd, lastF, found, sending, next, va_up (va_up wanted 2 (wanted 3)) 3 (wanted 2), lastR, line, reader)))) ∧ (¬ wants ≤ 4 → False))
def wp_X2_removeWanted_24_3_v7 (K : NodeS → Prop) : NodeS → Prop := fun (on, role, wants, sndC, rcvC, nSent, nRcvd, lastF, found, sending, next, wanted, lastR, line, reader) => ((wants ≤ 3 → (vp_in (wants - 1) 4 ∧ (wants - 1 = 0 → False) ∧ (wants - 1 = 1 → False) ∧ (wants - 1 = 2 → K (on, role, wants - 1, sndC, rcvC, nSent, nRcvd, lastF, found, sending, next, wanted, lastR, line, reader)) ∧ (wants - 1 = 3 → False))) ∧ (¬ wants ≤ 3 → wp_X2_removeWanted_24_4_v8 K (on, role, wants, sndC, rcvC, nSent, nRcvd, lastF, found, sending, next, wanted, lastR, line, reader)))
def wp_X2_removeWanted_24_4_v9 (K : NodeS → Prop) : NodeS → Prop := fun (on, role, wants, sndC, rcvC, nSent, nRcvd, lastF, found, sending, next, wanted, lastR, line, reader) => ((wants ≤ 4 → (vp_in (wants - 1) 4 ∧ (wants - 1 = 0 → False) ∧ (wants - 1 = 1 → False) ∧ (wants - 1 = 2 → False) ∧ (wants - 1 = 3 → K (on, role, wants - 1, sndC, rcvC, nSent, nRcvd, lastF, found, sending, next, wanted, lastR, line, reader)))) ∧ (¬ wants ≤ 4 → False))
def wp_X2_removeWanted : NodeS → Int32 → (NodeS → Prop) → Prop := fun (on, role, wants, sndC, rcvC, nSent, nRcvd, lastF, found, sending, next, wanted, lastR, line, reader) p0 K => ((p0 < 0 → K (on, role, wants, sndC, rcvC, nSent, nRcvd, lastF, found, sending, next, wanted, lastR, line, reader)) ∧ (¬ p0 < 0 → ((p0 < wants → (vp_in p0 4 ∧ (p0 = 0 → wp_X2_removeWanted_24_1 K (on, role, wants, sndC, rcvC, nSent, nRcvd, lastF, found, sending, next, wanted, lastR, line, reader)) ∧ (p0 = 1 → wp_X2_removeWanted_24_2_v4 K (on, role, wants, sndC, rcvC, nSent, nRcvd, lastF, found, sending, next, wanted, lastR, line, reader)) ∧ (p0 = 2 → wp_X2_removeWanted_24_3_v7 K (on, role, wants, sndC, rcvC, nSent, nRcvd, lastF, found, sending, next, wanted, lastR, line, reader)) ∧ (p0 = 3 → wp_X2_removeWanted_24_4_v9 K (on, role, wants, sndC, rcvC, nSent, nRcvd, lastF, found, sending, next, wanted, lastR, line, reader)))) ∧ (¬ p0 < wants → K (on, role, wants, sndC, rcvC, nSent, nRcvd, lastF, found, sending, next, wanted, lastR, line, reader)))))
set_option maxHeartbeats 4000000 in
set_option maxRecDepth 100000 in
theorem j_X2_removeWanted_24_4 {p : Program} {l : Launch} {e : Env} {s : State} {m : MethodId} {args : Array Value} {below : List Frame} {meth : Method} {c : Code} {dC : Nat → ClassId} {dI : Nat → Nat → Nat} {y : Nat → ClassId} {A : Nat → Prop} (C0 : Cx p s m args meth c cX2_removeWanted 4 none wsX2_removeWanted RX2 A dC dI y) (a : NodeA) (K : NodeS → Prop) : ∀ (S : NodeS) (H : Heap) (locs : List Loc) (ls : Array Slot), va_P (dC, dI) vwCl (ndX y a (va_up (va_up (va_up a.2.2.1 0 (a.2.2.1 1)) 1 (a.2.2.1 2)) 2 (a.2.2.1 3)) S) H → va_D A (ndX y a (va_up (va_up (va_up a.2.2.1 0 (a.2.2.1 1)) 1 (a.2.2.1 2)) 2 (a.2.2.1 3)) S) → va_S A s.heap H locs → lv_has ls 4 [(0, .ref a.1), (2, .ref (a.2.2.1 0)), (3, .int 4)] → wp_X2_removeWanted_24_4 K S → W p l e ({ frames := 0, cells := 0, slots := 0, locals := 0 } : Room) s m args below meth c H locs 0 0 (MQ below (va_Qv (fun u => K u.1) (BW dC dI A (fun u : NodeS × (Nat → Nat) => ndW y (aw a u.2) u.1)) A) args s 0 0 A) (F0 m 24 ls []) := by
  obtain ⟨hx, hb, hr, hml, hown, hts, hlocks, hA, hK⟩ := id C0
  have w11 := hts (.fieldLink RX2 11 "SharedWire$Node" "wanted" "[LSharedWire$Frame;") (List.mem_of_getElem? (i := 2) rfl)
  have w44 := hts (.fieldLink RX2 44 "SharedWire$Node" "wants" "I") (List.mem_of_getElem? (i := 1) rfl)
  have hinX2 : ∀ w ∈ wsX20, w ∈ wsX2_removeWanted := fun w h => List.mem_cons_of_mem _ (List.mem_append_right _ (h))
  intro S H locs ls hP hD hS hl hf
  obtain ⟨on, role, wants, sndC, rcvC, nSent, nRcvd, lastF, found, sending, next, wanted, lastR, line, reader⟩ := S
  unfold wp_X2_removeWanted_24_4 at hf
  refine lv_iload_n hx hb dX2_removeWanted_24 rfl (lv_at hl 2 rfl) ?_
  refine lv_aload_n hx hb dX2_removeWanted_25 rfl (lv_at hl 0 rfl) ?_
  refine va_get (D := (dC, dI)) (ci := 2) (v := .int wants) (C := RX2) (T := TX2) (N := 15) hx hb hts hinX2 hown hK.1 hP 0 rfl rfl 6 (by decide) w44 (fun _ h9 => h9) rfl dX2_removeWanted_26 ?_
  refine lv_icmp_ge (tgt := 52) hx hb dX2_removeWanted_29 (by decide) (fun c6 => ?_) (fun c6 => ?_)
  · replace hf := hf.1 c6
    refine lv_aload_n hx hb dX2_removeWanted_52 rfl (lv_at hl 0 rfl) ?_
    refine lv_dup hx hb dX2_removeWanted_53 rfl ?_
    refine va_get (D := (dC, dI)) (ci := 2) (v := .int wants) (C := RX2) (T := TX2) (N := 15) hx hb hts hinX2 hown hK.1 hP 0 rfl rfl 6 (by decide) w44 (fun _ h9 => h9) rfl dX2_removeWanted_54 ?_
    refine lv_iconst (v := 1) hx hb dX2_removeWanted_57 (by decide) ?_
    refine lv_isub hx hb dX2_removeWanted_58 ?_
    refine va_put (D := (dC, dI)) (ci := 2) (v := .int (wants - 1)) (ty := .int) (C := RX2) (T := TX2) (N := 15) hx hb hts hinX2 tyX2 tyX2_ok nmX2 hown hK.1 hP hD hS 0 rfl rfl 6 (by decide) w44 (fun _ h9 => h9) rfl (by decide +kernel) rfl rfl (Nat.le_of_ble_eq_true rfl) dX2_removeWanted_59 (fun H locs hP hD hS => ?_)
    have hP : va_P (dC, dI) vwCl (ndX y a (va_up (va_up (va_up a.2.2.1 0 (a.2.2.1 1)) 1 (a.2.2.1 2)) 2 (a.2.2.1 3)) (on, role, wants - 1, sndC, rcvC, nSent, nRcvd, lastF, found, sending, next, wanted, lastR, line, reader)) H := hP
    have hD : va_D A (ndX y a (va_up (va_up (va_up a.2.2.1 0 (a.2.2.1 1)) 1 (a.2.2.1 2)) 2 (a.2.2.1 3)) (on, role, wants - 1, sndC, rcvC, nSent, nRcvd, lastF, found, sending, next, wanted, lastR, line, reader)) := hD
    refine lv_aload_n hx hb dX2_removeWanted_62 rfl (lv_at hl 0 rfl) ?_
    refine va_get (D := (dC, dI)) (ci := 2) (v := .ref a.2.1) (C := RX2) (T := TX2) (N := 15) hx hb hts hinX2 hown hK.1 hP 0 rfl rfl 0 (by decide) w11 (fun _ h9 => h9) rfl dX2_removeWanted_63 ?_
    refine lv_aload_n hx hb dX2_removeWanted_66 rfl (lv_at hl 0 rfl) ?_
    refine va_get (D := (dC, dI)) (ci := 2) (v := .int (wants - 1)) (C := RX2) (T := TX2) (N := 15) hx hb hts hinX2 hown hK.1 hP 0 rfl rfl 6 (by decide) w44 (fun _ h9 => h9) rfl dX2_removeWanted_67 ?_
    refine lv_aload_n hx hb dX2_removeWanted_70 rfl (lv_at hl 1 rfl) ?_
    obtain ⟨hg9, hf0, hf1, hf2, hf3⟩ := hf
    rcases vin4 hg9 with e9 | e9 | e9 | e9
    · replace hf := hf0 e9
      refine nst (j := 0) (k := 0) hx hb hK.1 hP hD hS rfl (by rw [e9]; rfl) hg9 dX2_removeWanted_71 (fun H locs hP hD hS => ?_)
      exact hf.elim
    · replace hf := hf1 e9
      refine nst (j := 1) (k := 0) hx hb hK.1 hP hD hS rfl (by rw [e9]; rfl) hg9 dX2_removeWanted_71 (fun H locs hP hD hS => ?_)
      exact hf.elim
    · replace hf := hf2 e9
      refine nst (j := 2) (k := 0) hx hb hK.1 hP hD hS rfl (by rw [e9]; rfl) hg9 dX2_removeWanted_71 (fun H locs hP hD hS => ?_)
      have hP : va_P (dC, dI) vwCl (ndW y (aw a (va_up (va_up (va_up (va_up a.2.2.1 0 (a.2.2.1 1)) 1 (a.2.2.1 2)) 2 (a.2.2.1 3)) 2 (a.2.2.1 0))) (on, role, wants - 1, sndC, rcvC, nSent, nRcvd, lastF, found, sending, next, va_up (va_up (va_up wanted 0 (wanted 1)) 1 (wanted 2)) 2 (wanted 0), lastR, line, reader)) H := hP.sub [0, 1, 3, 4, 2, 5, 6, 7, 8, 9, 10, 11] rfl
      have hD : va_D A (ndW y (aw a (va_up (va_up (va_up (va_up a.2.2.1 0 (a.2.2.1 1)) 1 (a.2.2.1 2)) 2 (a.2.2.1 3)) 2 (a.2.2.1 0))) (on, role, wants - 1, sndC, rcvC, nSent, nRcvd, lastF, found, sending, next, va_up (va_up (va_up wanted 0 (wanted 1)) 1 (wanted 2)) 2 (wanted 0), lastR, line, reader)) := hD.sub [0, 1, 3, 4, 2, 5, 6, 7, 8, 9, 10, 11] (by decide) rfl
      exact W.vret hx hb hr (fun t ht hW => ⟨⟨((on, role, wants - 1, sndC, rcvC, nSent, nRcvd, lastF, found, sending, next, va_up (va_up (va_up wanted 0 (wanted 1)) 1 (wanted 2)) 2 (wanted 0), lastR, line, reader), va_up (va_up (va_up (va_up a.2.2.1 0 (a.2.2.1 1)) 1 (a.2.2.1 2)) 2 (a.2.2.1 3)) 2 (a.2.2.1 0)), rfl, hf, by rw [ht]; exact hP, hD⟩, hS.F ht⟩) hS.2.2 dX2_removeWanted_72
    · replace hf := hf3 e9
      refine nst (j := 3) (k := 0) hx hb hK.1 hP hD hS rfl (by rw [e9]; rfl) hg9 dX2_removeWanted_71 (fun H locs hP hD hS => ?_)
      have hP : va_P (dC, dI) vwCl (ndW y (aw a (va_up (va_up (va_up (va_up a.2.2.1 0 (a.2.2.1 1)) 1 (a.2.2.1 2)) 2 (a.2.2.1 3)) 3 (a.2.2.1 0))) (on, role, wants - 1, sndC, rcvC, nSent, nRcvd, lastF, found, sending, next, va_up (va_up (va_up (va_up wanted 0 (wanted 1)) 1 (wanted 2)) 2 (wanted 3)) 3 (wanted 0), lastR, line, reader)) H := hP.sub [0, 1, 3, 4, 5, 2, 6, 7, 8, 9, 10, 11] rfl
      have hD : va_D A (ndW y (aw a (va_up (va_up (va_up (va_up a.2.2.1 0 (a.2.2.1 1)) 1 (a.2.2.1 2)) 2 (a.2.2.1 3)) 3 (a.2.2.1 0))) (on, role, wants - 1, sndC, rcvC, nSent, nRcvd, lastF, found, sending, next, va_up (va_up (va_up (va_up wanted 0 (wanted 1)) 1 (wanted 2)) 2 (wanted 3)) 3 (wanted 0), lastR, line, reader)) := hD.sub [0, 1, 3, 4, 5, 2, 6, 7, 8, 9, 10, 11] (by decide) rfl
      exact W.vret hx hb hr (fun t ht hW => ⟨⟨((on, role, wants - 1, sndC, rcvC, nSent, nRcvd, lastF, found, sending, next, va_up (va_up (va_up (va_up wanted 0 (wanted 1)) 1 (wanted 2)) 2 (wanted 3)) 3 (wanted 0), lastR, line, reader), va_up (va_up (va_up (va_up a.2.2.1 0 (a.2.2.1 1)) 1 (a.2.2.1 2)) 2 (a.2.2.1 3)) 3 (a.2.2.1 0)), rfl, hf, by rw [ht]; exact hP, hD⟩, hS.F ht⟩) hS.2.2 dX2_removeWanted_72
  · replace hf := hf.2 c6
    refine lv_aload_n hx hb dX2_removeWanted_32 rfl (lv_at hl 0 rfl) ?_
    refine va_get (D := (dC, dI)) (ci := 2) (v := .ref a.2.1) (C := RX2) (T := TX2) (N := 15) hx hb hts hinX2 hown hK.1 hP 0 rfl rfl 0 (by decide) w11 (fun _ h9 => h9) rfl dX2_removeWanted_33 ?_
    refine lv_iload_n hx hb dX2_removeWanted_36 rfl (lv_at hl 2 rfl) ?_
    refine lv_iconst (v := 1) hx hb dX2_removeWanted_37 (by decide) ?_
    refine lv_isub hx hb dX2_removeWanted_38 ?_
    refine fold_i (v := 3) (by decide) ?_
    refine lv_aload_n hx hb dX2_removeWanted_39 rfl (lv_at hl 0 rfl) ?_
    refine va_get (D := (dC, dI)) (ci := 2) (v := .ref a.2.1) (C := RX2) (T := TX2) (N := 15) hx hb hts hinX2 hown hK.1 hP 0 rfl rfl 0 (by decide) w11 (fun _ h9 => h9) rfl dX2_removeWanted_40 ?_
    refine lv_iload_n hx hb dX2_removeWanted_43 rfl (lv_at hl 2 rfl) ?_
    exact hf.elim
set_option maxHeartbeats 4000000 in
set_option maxRecDepth 100000 in
theorem j_X2_removeWanted_24_3 {p : Program} {l : Launch} {e : Env} {s : State} {m : MethodId} {args : Array Value} {below : List Frame} {meth : Method} {c : Code} {dC : Nat → ClassId} {dI : Nat → Nat → Nat} {y : Nat → ClassId} {A : Nat → Prop} (C0 : Cx p s m args meth c cX2_removeWanted 4 none wsX2_removeWanted RX2 A dC dI y) (a : NodeA) (K : NodeS → Prop) : ∀ (S : NodeS) (H : Heap) (locs : List Loc) (ls : Array Slot), va_P (dC, dI) vwCl (ndX y a (va_up (va_up a.2.2.1 0 (a.2.2.1 1)) 1 (a.2.2.1 2)) S) H → va_D A (ndX y a (va_up (va_up a.2.2.1 0 (a.2.2.1 1)) 1 (a.2.2.1 2)) S) → va_S A s.heap H locs → lv_has ls 4 [(0, .ref a.1), (2, .ref (a.2.2.1 0)), (3, .int 3)] → wp_X2_removeWanted_24_3 K S → W p l e ({ frames := 0, cells := 0, slots := 0, locals := 0 } : Room) s m args below meth c H locs 0 0 (MQ below (va_Qv (fun u => K u.1) (BW dC dI A (fun u : NodeS × (Nat → Nat) => ndW y (aw a u.2) u.1)) A) args s 0 0 A) (F0 m 24 ls []) := by
  obtain ⟨hx, hb, hr, hml, hown, hts, hlocks, hA, hK⟩ := id C0
  have w11 := hts (.fieldLink RX2 11 "SharedWire$Node" "wanted" "[LSharedWire$Frame;") (List.mem_of_getElem? (i := 2) rfl)
  have w44 := hts (.fieldLink RX2 44 "SharedWire$Node" "wants" "I") (List.mem_of_getElem? (i := 1) rfl)
  have hinX2 : ∀ w ∈ wsX20, w ∈ wsX2_removeWanted := fun w h => List.mem_cons_of_mem _ (List.mem_append_right _ (h))
  intro S H locs ls hP hD hS hl hf
  obtain ⟨on, role, wants, sndC, rcvC, nSent, nRcvd, lastF, found, sending, next, wanted, lastR, line, reader⟩ := S
  unfold wp_X2_removeWanted_24_3 at hf
  refine lv_iload_n hx hb dX2_removeWanted_24 rfl (lv_at hl 2 rfl) ?_
  refine lv_aload_n hx hb dX2_removeWanted_25 rfl (lv_at hl 0 rfl) ?_
  refine va_get (D := (dC, dI)) (ci := 2) (v := .int wants) (C := RX2) (T := TX2) (N := 15) hx hb hts hinX2 hown hK.1 hP 0 rfl rfl 6 (by decide) w44 (fun _ h9 => h9) rfl dX2_removeWanted_26 ?_
  refine lv_icmp_ge (tgt := 52) hx hb dX2_removeWanted_29 (by decide) (fun c5 => ?_) (fun c5 => ?_)
  · replace hf := hf.1 c5
    refine lv_aload_n hx hb dX2_removeWanted_52 rfl (lv_at hl 0 rfl) ?_
    refine lv_dup hx hb dX2_removeWanted_53 rfl ?_
    refine va_get (D := (dC, dI)) (ci := 2) (v := .int wants) (C := RX2) (T := TX2) (N := 15) hx hb hts hinX2 hown hK.1 hP 0 rfl rfl 6 (by decide) w44 (fun _ h9 => h9) rfl dX2_removeWanted_54 ?_
    refine lv_iconst (v := 1) hx hb dX2_removeWanted_57 (by decide) ?_
    refine lv_isub hx hb dX2_removeWanted_58 ?_
    refine va_put (D := (dC, dI)) (ci := 2) (v := .int (wants - 1)) (ty := .int) (C := RX2) (T := TX2) (N := 15) hx hb hts hinX2 tyX2 tyX2_ok nmX2 hown hK.1 hP hD hS 0 rfl rfl 6 (by decide) w44 (fun _ h9 => h9) rfl (by decide +kernel) rfl rfl (Nat.le_of_ble_eq_true rfl) dX2_removeWanted_59 (fun H locs hP hD hS => ?_)
    have hP : va_P (dC, dI) vwCl (ndX y a (va_up (va_up a.2.2.1 0 (a.2.2.1 1)) 1 (a.2.2.1 2)) (on, role, wants - 1, sndC, rcvC, nSent, nRcvd, lastF, found, sending, next, wanted, lastR, line, reader)) H := hP
    have hD : va_D A (ndX y a (va_up (va_up a.2.2.1 0 (a.2.2.1 1)) 1 (a.2.2.1 2)) (on, role, wants - 1, sndC, rcvC, nSent, nRcvd, lastF, found, sending, next, wanted, lastR, line, reader)) := hD
    refine lv_aload_n hx hb dX2_removeWanted_62 rfl (lv_at hl 0 rfl) ?_
    refine va_get (D := (dC, dI)) (ci := 2) (v := .ref a.2.1) (C := RX2) (T := TX2) (N := 15) hx hb hts hinX2 hown hK.1 hP 0 rfl rfl 0 (by decide) w11 (fun _ h9 => h9) rfl dX2_removeWanted_63 ?_
    refine lv_aload_n hx hb dX2_removeWanted_66 rfl (lv_at hl 0 rfl) ?_
    refine va_get (D := (dC, dI)) (ci := 2) (v := .int (wants - 1)) (C := RX2) (T := TX2) (N := 15) hx hb hts hinX2 hown hK.1 hP 0 rfl rfl 6 (by decide) w44 (fun _ h9 => h9) rfl dX2_removeWanted_67 ?_
    refine lv_aload_n hx hb dX2_removeWanted_70 rfl (lv_at hl 1 rfl) ?_
    obtain ⟨hg9, hf0, hf1, hf2, hf3⟩ := hf
    rcases vin4 hg9 with e9 | e9 | e9 | e9
    · replace hf := hf0 e9
      refine nst (j := 0) (k := 0) hx hb hK.1 hP hD hS rfl (by rw [e9]; rfl) hg9 dX2_removeWanted_71 (fun H locs hP hD hS => ?_)
      exact hf.elim
    · replace hf := hf1 e9
      refine nst (j := 1) (k := 0) hx hb hK.1 hP hD hS rfl (by rw [e9]; rfl) hg9 dX2_removeWanted_71 (fun H locs hP hD hS => ?_)
      have hP : va_P (dC, dI) vwCl (ndW y (aw a (va_up (va_up (va_up a.2.2.1 0 (a.2.2.1 1)) 1 (a.2.2.1 2)) 1 (a.2.2.1 0))) (on, role, wants - 1, sndC, rcvC, nSent, nRcvd, lastF, found, sending, next, va_up (va_up wanted 0 (wanted 1)) 1 (wanted 0), lastR, line, reader)) H := hP.sub [0, 1, 3, 2, 4, 5, 6, 7, 8, 9, 10, 11] rfl
      have hD : va_D A (ndW y (aw a (va_up (va_up (va_up a.2.2.1 0 (a.2.2.1 1)) 1 (a.2.2.1 2)) 1 (a.2.2.1 0))) (on, role, wants - 1, sndC, rcvC, nSent, nRcvd, lastF, found, sending, next, va_up (va_up wanted 0 (wanted 1)) 1 (wanted 0), lastR, line, reader)) := hD.sub [0, 1, 3, 2, 4, 5, 6, 7, 8, 9, 10, 11] (by decide) rfl
      exact W.vret hx hb hr (fun t ht hW => ⟨⟨((on, role, wants - 1, sndC, rcvC, nSent, nRcvd, lastF, found, sending, next, va_up (va_up wanted 0 (wanted 1)) 1 (wanted 0), lastR, line, reader), va_up (va_up (va_up a.2.2.1 0 (a.2.2.1 1)) 1 (a.2.2.1 2)) 1 (a.2.2.1 0)), rfl, hf, by rw [ht]; exact hP, hD⟩, hS.F ht⟩) hS.2.2 dX2_removeWanted_72
    · replace hf := hf2 e9
      refine nst (j := 2) (k := 0) hx hb hK.1 hP hD hS rfl (by rw [e9]; rfl) hg9 dX2_removeWanted_71 (fun H locs hP hD hS => ?_)
      have hP : va_P (dC, dI) vwCl (ndW y (aw a (va_up (va_up (va_up a.2.2.1 0 (a.2.2.1 1)) 1 (a.2.2.1 2)) 2 (a.2.2.1 0))) (on, role, wants - 1, sndC, rcvC, nSent, nRcvd, lastF, found, sending, next, va_up (va_up (va_up wanted 0 (wanted 1)) 1 (wanted 2)) 2 (wanted 0), lastR, line, reader)) H := hP.sub [0, 1, 3, 4, 2, 5, 6, 7, 8, 9, 10, 11] rfl
      have hD : va_D A (ndW y (aw a (va_up (va_up (va_up a.2.2.1 0 (a.2.2.1 1)) 1 (a.2.2.1 2)) 2 (a.2.2.1 0))) (on, role, wants - 1, sndC, rcvC, nSent, nRcvd, lastF, found, sending, next, va_up (va_up (va_up wanted 0 (wanted 1)) 1 (wanted 2)) 2 (wanted 0), lastR, line, reader)) := hD.sub [0, 1, 3, 4, 2, 5, 6, 7, 8, 9, 10, 11] (by decide) rfl
      exact W.vret hx hb hr (fun t ht hW => ⟨⟨((on, role, wants - 1, sndC, rcvC, nSent, nRcvd, lastF, found, sending, next, va_up (va_up (va_up wanted 0 (wanted 1)) 1 (wanted 2)) 2 (wanted 0), lastR, line, reader), va_up (va_up (va_up a.2.2.1 0 (a.2.2.1 1)) 1 (a.2.2.1 2)) 2 (a.2.2.1 0)), rfl, hf, by rw [ht]; exact hP, hD⟩, hS.F ht⟩) hS.2.2 dX2_removeWanted_72
    · replace hf := hf3 e9
      refine nst (j := 3) (k := 0) hx hb hK.1 hP hD hS rfl (by rw [e9]; rfl) hg9 dX2_removeWanted_71 (fun H locs hP hD hS => ?_)
      exact hf.elim
  · replace hf := hf.2 c5
    refine lv_aload_n hx hb dX2_removeWanted_32 rfl (lv_at hl 0 rfl) ?_
    refine va_get (D := (dC, dI)) (ci := 2) (v := .ref a.2.1) (C := RX2) (T := TX2) (N := 15) hx hb hts hinX2 hown hK.1 hP 0 rfl rfl 0 (by decide) w11 (fun _ h9 => h9) rfl dX2_removeWanted_33 ?_
    refine lv_iload_n hx hb dX2_removeWanted_36 rfl (lv_at hl 2 rfl) ?_
    refine lv_iconst (v := 1) hx hb dX2_removeWanted_37 (by decide) ?_
    refine lv_isub hx hb dX2_removeWanted_38 ?_
    refine fold_i (v := 2) (by decide) ?_
    refine lv_aload_n hx hb dX2_removeWanted_39 rfl (lv_at hl 0 rfl) ?_
    refine va_get (D := (dC, dI)) (ci := 2) (v := .ref a.2.1) (C := RX2) (T := TX2) (N := 15) hx hb hts hinX2 hown hK.1 hP 0 rfl rfl 0 (by decide) w11 (fun _ h9 => h9) rfl dX2_removeWanted_40 ?_
    refine lv_iload_n hx hb dX2_removeWanted_43 rfl (lv_at hl 2 rfl) ?_
    refine ar_qld (j := 3) hx hb hK.1 hP 1 3 rfl rfl (clamp_lit 3 rfl) (vin_lit 3 4 rfl rfl) dX2_removeWanted_44 ?_
    refine nst (j := 2) (k := 3) hx hb hK.1 hP hD hS rfl (clamp_lit 2 rfl) (vin_lit 2 4 rfl rfl) dX2_removeWanted_45 (fun H locs hP hD hS => ?_)
    refine lv_iinc (v := 4) (lv' := [(3, .int 4), (0, .ref a.1), (2, .ref (a.2.2.1 0))]) hx hb dX2_removeWanted_46 hl (k := 2) rfl (by decide) (by decide) rfl (fun ls hl => ?_)
    refine lv_goto (tgt := 24) hx hb dX2_removeWanted_49 (by decide) ?_
    exact j_X2_removeWanted_24_4 C0 a K (on, role, wants, sndC, rcvC, nSent, nRcvd, lastF, found, sending, next, wanted, lastR, line, reader) H locs ls hP hD hS (lv_sub hl [1, 2, 0] rfl) hf
set_option maxHeartbeats 4000000 in
set_option maxRecDepth 100000 in
theorem j_X2_removeWanted_24_2 {p : Program} {l : Launch} {e : Env} {s : State} {m : MethodId} {args : Array Value} {below : List Frame} {meth : Method} {c : Code} {dC : Nat → ClassId} {dI : Nat → Nat → Nat} {y : Nat → ClassId} {A : Nat → Prop} (C0 : Cx p s m args meth c cX2_removeWanted 4 none wsX2_removeWanted RX2 A dC dI y) (a : NodeA) (K : NodeS → Prop) : ∀ (S : NodeS) (H : Heap) (locs : List Loc) (ls : Array Slot), va_P (dC, dI) vwCl (ndX y a (va_up a.2.2.1 0 (a.2.2.1 1)) S) H → va_D A (ndX y a (va_up a.2.2.1 0 (a.2.2.1 1)) S) → va_S A s.heap H locs → lv_has ls 4 [(0, .ref a.1), (2, .ref (a.2.2.1 0)), (3, .int 2)] → wp_X2_removeWanted_24_2 K S → W p l e ({ frames := 0, cells := 0, slots := 0, locals := 0 } : Room) s m args below meth c H locs 0 0 (MQ below (va_Qv (fun u => K u.1) (BW dC dI A (fun u : NodeS × (Nat → Nat) => ndW y (aw a u.2) u.1)) A) args s 0 0 A) (F0 m 24 ls []) := by
  obtain ⟨hx, hb, hr, hml, hown, hts, hlocks, hA, hK⟩ := id C0
  have w11 := hts (.fieldLink RX2 11 "SharedWire$Node" "wanted" "[LSharedWire$Frame;") (List.mem_of_getElem? (i := 2) rfl)
  have w44 := hts (.fieldLink RX2 44 "SharedWire$Node" "wants" "I") (List.mem_of_getElem? (i := 1) rfl)
  have hinX2 : ∀ w ∈ wsX20, w ∈ wsX2_removeWanted := fun w h => List.mem_cons_of_mem _ (List.mem_append_right _ (h))
  intro S H locs ls hP hD hS hl hf
  obtain ⟨on, role, wants, sndC, rcvC, nSent, nRcvd, lastF, found, sending, next, wanted, lastR, line, reader⟩ := S
  unfold wp_X2_removeWanted_24_2 at hf
  refine lv_iload_n hx hb dX2_removeWanted_24 rfl (lv_at hl 2 rfl) ?_
  refine lv_aload_n hx hb dX2_removeWanted_25 rfl (lv_at hl 0 rfl) ?_
  refine va_get (D := (dC, dI)) (ci := 2) (v := .int wants) (C := RX2) (T := TX2) (N := 15) hx hb hts hinX2 hown hK.1 hP 0 rfl rfl 6 (by decide) w44 (fun _ h9 => h9) rfl dX2_removeWanted_26 ?_
  refine lv_icmp_ge (tgt := 52) hx hb dX2_removeWanted_29 (by decide) (fun c4 => ?_) (fun c4 => ?_)
  · replace hf := hf.1 c4
    refine lv_aload_n hx hb dX2_removeWanted_52 rfl (lv_at hl 0 rfl) ?_
    refine lv_dup hx hb dX2_removeWanted_53 rfl ?_
    refine va_get (D := (dC, dI)) (ci := 2) (v := .int wants) (C := RX2) (T := TX2) (N := 15) hx hb hts hinX2 hown hK.1 hP 0 rfl rfl 6 (by decide) w44 (fun _ h9 => h9) rfl dX2_removeWanted_54 ?_
    refine lv_iconst (v := 1) hx hb dX2_removeWanted_57 (by decide) ?_
    refine lv_isub hx hb dX2_removeWanted_58 ?_
    refine va_put (D := (dC, dI)) (ci := 2) (v := .int (wants - 1)) (ty := .int) (C := RX2) (T := TX2) (N := 15) hx hb hts hinX2 tyX2 tyX2_ok nmX2 hown hK.1 hP hD hS 0 rfl rfl 6 (by decide) w44 (fun _ h9 => h9) rfl (by decide +kernel) rfl rfl (Nat.le_of_ble_eq_true rfl) dX2_removeWanted_59 (fun H locs hP hD hS => ?_)
    have hP : va_P (dC, dI) vwCl (ndX y a (va_up a.2.2.1 0 (a.2.2.1 1)) (on, role, wants - 1, sndC, rcvC, nSent, nRcvd, lastF, found, sending, next, wanted, lastR, line, reader)) H := hP
    have hD : va_D A (ndX y a (va_up a.2.2.1 0 (a.2.2.1 1)) (on, role, wants - 1, sndC, rcvC, nSent, nRcvd, lastF, found, sending, next, wanted, lastR, line, reader)) := hD
    refine lv_aload_n hx hb dX2_removeWanted_62 rfl (lv_at hl 0 rfl) ?_
    refine va_get (D := (dC, dI)) (ci := 2) (v := .ref a.2.1) (C := RX2) (T := TX2) (N := 15) hx hb hts hinX2 hown hK.1 hP 0 rfl rfl 0 (by decide) w11 (fun _ h9 => h9) rfl dX2_removeWanted_63 ?_
    refine lv_aload_n hx hb dX2_removeWanted_66 rfl (lv_at hl 0 rfl) ?_
    refine va_get (D := (dC, dI)) (ci := 2) (v := .int (wants - 1)) (C := RX2) (T := TX2) (N := 15) hx hb hts hinX2 hown hK.1 hP 0 rfl rfl 6 (by decide) w44 (fun _ h9 => h9) rfl dX2_removeWanted_67 ?_
    refine lv_aload_n hx hb dX2_removeWanted_70 rfl (lv_at hl 1 rfl) ?_
    obtain ⟨hg9, hf0, hf1, hf2, hf3⟩ := hf
    rcases vin4 hg9 with e9 | e9 | e9 | e9
    · replace hf := hf0 e9
      refine nst (j := 0) (k := 0) hx hb hK.1 hP hD hS rfl (by rw [e9]; rfl) hg9 dX2_removeWanted_71 (fun H locs hP hD hS => ?_)
      have hP : va_P (dC, dI) vwCl (ndW y (aw a (va_up (va_up a.2.2.1 0 (a.2.2.1 1)) 0 (a.2.2.1 0))) (on, role, wants - 1, sndC, rcvC, nSent, nRcvd, lastF, found, sending, next, wanted, lastR, line, reader)) H := hP.sub [0, 1, 2, 3, 4, 5, 6, 7, 8, 9, 10, 11] rfl
      have hD : va_D A (ndW y (aw a (va_up (va_up a.2.2.1 0 (a.2.2.1 1)) 0 (a.2.2.1 0))) (on, role, wants - 1, sndC, rcvC, nSent, nRcvd, lastF, found, sending, next, wanted, lastR, line, reader)) := hD.sub [0, 1, 2, 3, 4, 5, 6, 7, 8, 9, 10, 11] (by decide) rfl
      exact W.vret hx hb hr (fun t ht hW => ⟨⟨((on, role, wants - 1, sndC, rcvC, nSent, nRcvd, lastF, found, sending, next, wanted, lastR, line, reader), va_up (va_up a.2.2.1 0 (a.2.2.1 1)) 0 (a.2.2.1 0)), rfl, hf, by rw [ht]; exact hP, hD⟩, hS.F ht⟩) hS.2.2 dX2_removeWanted_72
    · replace hf := hf1 e9
      refine nst (j := 1) (k := 0) hx hb hK.1 hP hD hS rfl (by rw [e9]; rfl) hg9 dX2_removeWanted_71 (fun H locs hP hD hS => ?_)
      have hP : va_P (dC, dI) vwCl (ndW y (aw a (va_up (va_up a.2.2.1 0 (a.2.2.1 1)) 1 (a.2.2.1 0))) (on, role, wants - 1, sndC, rcvC, nSent, nRcvd, lastF, found, sending, next, va_up (va_up wanted 0 (wanted 1)) 1 (wanted 0), lastR, line, reader)) H := hP.sub [0, 1, 3, 2, 4, 5, 6, 7, 8, 9, 10, 11] rfl
      have hD : va_D A (ndW y (aw a (va_up (va_up a.2.2.1 0 (a.2.2.1 1)) 1 (a.2.2.1 0))) (on, role, wants - 1, sndC, rcvC, nSent, nRcvd, lastF, found, sending, next, va_up (va_up wanted 0 (wanted 1)) 1 (wanted 0), lastR, line, reader)) := hD.sub [0, 1, 3, 2, 4, 5, 6, 7, 8, 9, 10, 11] (by decide) rfl
      exact W.vret hx hb hr (fun t ht hW => ⟨⟨((on, role, wants - 1, sndC, rcvC, nSent, nRcvd, lastF, found, sending, next, va_up (va_up wanted 0 (wanted 1)) 1 (wanted 0), lastR, line, reader), va_up (va_up a.2.2.1 0 (a.2.2.1 1)) 1 (a.2.2.1 0)), rfl, hf, by rw [ht]; exact hP, hD⟩, hS.F ht⟩) hS.2.2 dX2_removeWanted_72
    · replace hf := hf2 e9
      refine nst (j := 2) (k := 0) hx hb hK.1 hP hD hS rfl (by rw [e9]; rfl) hg9 dX2_removeWanted_71 (fun H locs hP hD hS => ?_)
      exact hf.elim
    · replace hf := hf3 e9
      refine nst (j := 3) (k := 0) hx hb hK.1 hP hD hS rfl (by rw [e9]; rfl) hg9 dX2_removeWanted_71 (fun H locs hP hD hS => ?_)
      exact hf.elim
  · replace hf := hf.2 c4
    refine lv_aload_n hx hb dX2_removeWanted_32 rfl (lv_at hl 0 rfl) ?_
    refine va_get (D := (dC, dI)) (ci := 2) (v := .ref a.2.1) (C := RX2) (T := TX2) (N := 15) hx hb hts hinX2 hown hK.1 hP 0 rfl rfl 0 (by decide) w11 (fun _ h9 => h9) rfl dX2_removeWanted_33 ?_
    refine lv_iload_n hx hb dX2_removeWanted_36 rfl (lv_at hl 2 rfl) ?_
    refine lv_iconst (v := 1) hx hb dX2_removeWanted_37 (by decide) ?_
    refine lv_isub hx hb dX2_removeWanted_38 ?_
    refine fold_i (v := 1) (by decide) ?_
    refine lv_aload_n hx hb dX2_removeWanted_39 rfl (lv_at hl 0 rfl) ?_
    refine va_get (D := (dC, dI)) (ci := 2) (v := .ref a.2.1) (C := RX2) (T := TX2) (N := 15) hx hb hts hinX2 hown hK.1 hP 0 rfl rfl 0 (by decide) w11 (fun _ h9 => h9) rfl dX2_removeWanted_40 ?_
    refine lv_iload_n hx hb dX2_removeWanted_43 rfl (lv_at hl 2 rfl) ?_
    refine ar_qld (j := 2) hx hb hK.1 hP 1 3 rfl rfl (clamp_lit 2 rfl) (vin_lit 2 4 rfl rfl) dX2_removeWanted_44 ?_
    refine nst (j := 1) (k := 2) hx hb hK.1 hP hD hS rfl (clamp_lit 1 rfl) (vin_lit 1 4 rfl rfl) dX2_removeWanted_45 (fun H locs hP hD hS => ?_)
    refine lv_iinc (v := 3) (lv' := [(3, .int 3), (0, .ref a.1), (2, .ref (a.2.2.1 0))]) hx hb dX2_removeWanted_46 hl (k := 2) rfl (by decide) (by decide) rfl (fun ls hl => ?_)
    refine lv_goto (tgt := 24) hx hb dX2_removeWanted_49 (by decide) ?_
    exact j_X2_removeWanted_24_3 C0 a K (on, role, wants, sndC, rcvC, nSent, nRcvd, lastF, found, sending, next, wanted, lastR, line, reader) H locs ls hP hD hS (lv_sub hl [1, 2, 0] rfl) hf
set_option maxHeartbeats 4000000 in
set_option maxRecDepth 100000 in
theorem j_X2_removeWanted_24_1 {p : Program} {l : Launch} {e : Env} {s : State} {m : MethodId} {args : Array Value} {below : List Frame} {meth : Method} {c : Code} {dC : Nat → ClassId} {dI : Nat → Nat → Nat} {y : Nat → ClassId} {A : Nat → Prop} (C0 : Cx p s m args meth c cX2_removeWanted 4 none wsX2_removeWanted RX2 A dC dI y) (a : NodeA) (K : NodeS → Prop) : ∀ (S : NodeS) (H : Heap) (locs : List Loc) (ls : Array Slot), va_P (dC, dI) vwCl (ndW y a S) H → va_D A (ndW y a S) → va_S A s.heap H locs → lv_has ls 4 [(0, .ref a.1), (2, .ref (a.2.2.1 0)), (3, .int 1)] → wp_X2_removeWanted_24_1 K S → W p l e ({ frames := 0, cells := 0, slots := 0, locals := 0 } : Room) s m args below meth c H locs 0 0 (MQ below (va_Qv (fun u => K u.1) (BW dC dI A (fun u : NodeS × (Nat → Nat) => ndW y (aw a u.2) u.1)) A) args s 0 0 A) (F0 m 24 ls []) := by
  obtain ⟨hx, hb, hr, hml, hown, hts, hlocks, hA, hK⟩ := id C0
  have w11 := hts (.fieldLink RX2 11 "SharedWire$Node" "wanted" "[LSharedWire$Frame;") (List.mem_of_getElem? (i := 2) rfl)
  have w44 := hts (.fieldLink RX2 44 "SharedWire$Node" "wants" "I") (List.mem_of_getElem? (i := 1) rfl)
  have hinX2 : ∀ w ∈ wsX20, w ∈ wsX2_removeWanted := fun w h => List.mem_cons_of_mem _ (List.mem_append_right _ (h))
  intro S H locs ls hP hD hS hl hf
  obtain ⟨on, role, wants, sndC, rcvC, nSent, nRcvd, lastF, found, sending, next, wanted, lastR, line, reader⟩ := S
  unfold wp_X2_removeWanted_24_1 at hf
  refine lv_iload_n hx hb dX2_removeWanted_24 rfl (lv_at hl 2 rfl) ?_
  refine lv_aload_n hx hb dX2_removeWanted_25 rfl (lv_at hl 0 rfl) ?_
  refine va_get (D := (dC, dI)) (ci := 2) (v := .int wants) (C := RX2) (T := TX2) (N := 15) hx hb hts hinX2 hown hK.1 hP 0 rfl rfl 6 (by decide) w44 (fun _ h9 => h9) rfl dX2_removeWanted_26 ?_
  refine lv_icmp_ge (tgt := 52) hx hb dX2_removeWanted_29 (by decide) (fun c3 => ?_) (fun c3 => ?_)
  · replace hf := hf.1 c3
    refine lv_aload_n hx hb dX2_removeWanted_52 rfl (lv_at hl 0 rfl) ?_
    refine lv_dup hx hb dX2_removeWanted_53 rfl ?_
    refine va_get (D := (dC, dI)) (ci := 2) (v := .int wants) (C := RX2) (T := TX2) (N := 15) hx hb hts hinX2 hown hK.1 hP 0 rfl rfl 6 (by decide) w44 (fun _ h9 => h9) rfl dX2_removeWanted_54 ?_
    refine lv_iconst (v := 1) hx hb dX2_removeWanted_57 (by decide) ?_
    refine lv_isub hx hb dX2_removeWanted_58 ?_
    refine va_put (D := (dC, dI)) (ci := 2) (v := .int (wants - 1)) (ty := .int) (C := RX2) (T := TX2) (N := 15) hx hb hts hinX2 tyX2 tyX2_ok nmX2 hown hK.1 hP hD hS 0 rfl rfl 6 (by decide) w44 (fun _ h9 => h9) rfl (by decide +kernel) rfl rfl (Nat.le_of_ble_eq_true rfl) dX2_removeWanted_59 (fun H locs hP hD hS => ?_)
    have hP : va_P (dC, dI) vwCl (ndW y a (on, role, wants - 1, sndC, rcvC, nSent, nRcvd, lastF, found, sending, next, wanted, lastR, line, reader)) H := hP
    have hD : va_D A (ndW y a (on, role, wants - 1, sndC, rcvC, nSent, nRcvd, lastF, found, sending, next, wanted, lastR, line, reader)) := hD
    refine lv_aload_n hx hb dX2_removeWanted_62 rfl (lv_at hl 0 rfl) ?_
    refine va_get (D := (dC, dI)) (ci := 2) (v := .ref a.2.1) (C := RX2) (T := TX2) (N := 15) hx hb hts hinX2 hown hK.1 hP 0 rfl rfl 0 (by decide) w11 (fun _ h9 => h9) rfl dX2_removeWanted_63 ?_
    refine lv_aload_n hx hb dX2_removeWanted_66 rfl (lv_at hl 0 rfl) ?_
    refine va_get (D := (dC, dI)) (ci := 2) (v := .int (wants - 1)) (C := RX2) (T := TX2) (N := 15) hx hb hts hinX2 hown hK.1 hP 0 rfl rfl 6 (by decide) w44 (fun _ h9 => h9) rfl dX2_removeWanted_67 ?_
    refine lv_aload_n hx hb dX2_removeWanted_70 rfl (lv_at hl 1 rfl) ?_
    obtain ⟨hg9, hf0, hf1, hf2, hf3⟩ := hf
    rcases vin4 hg9 with e9 | e9 | e9 | e9
    · replace hf := hf0 e9
      refine nst (j := 0) (k := 0) hx hb hK.1 hP hD hS rfl (by rw [e9]; rfl) hg9 dX2_removeWanted_71 (fun H locs hP hD hS => ?_)
      have hP : va_P (dC, dI) vwCl (ndW y (aw a (va_up a.2.2.1 0 (a.2.2.1 0))) (on, role, wants - 1, sndC, rcvC, nSent, nRcvd, lastF, found, sending, next, wanted, lastR, line, reader)) H := hP.sub [0, 1, 2, 3, 4, 5, 6, 7, 8, 9, 10, 11] rfl
      have hD : va_D A (ndW y (aw a (va_up a.2.2.1 0 (a.2.2.1 0))) (on, role, wants - 1, sndC, rcvC, nSent, nRcvd, lastF, found, sending, next, wanted, lastR, line, reader)) := hD.sub [0, 1, 2, 3, 4, 5, 6, 7, 8, 9, 10, 11] (by decide) rfl
      exact W.vret hx hb hr (fun t ht hW => ⟨⟨((on, role, wants - 1, sndC, rcvC, nSent, nRcvd, lastF, found, sending, next, wanted, lastR, line, reader), va_up a.2.2.1 0 (a.2.2.1 0)), rfl, hf, by rw [ht]; exact hP, hD⟩, hS.F ht⟩) hS.2.2 dX2_removeWanted_72
    · replace hf := hf1 e9
      refine nst (j := 1) (k := 0) hx hb hK.1 hP hD hS rfl (by rw [e9]; rfl) hg9 dX2_removeWanted_71 (fun H locs hP hD hS => ?_)
      exact hf.elim
    · replace hf := hf2 e9
      refine nst (j := 2) (k := 0) hx hb hK.1 hP hD hS rfl (by rw [e9]; rfl) hg9 dX2_removeWanted_71 (fun H locs hP hD hS => ?_)
      exact hf.elim
    · replace hf := hf3 e9
      refine nst (j := 3) (k := 0) hx hb hK.1 hP hD hS rfl (by rw [e9]; rfl) hg9 dX2_removeWanted_71 (fun H locs hP hD hS => ?_)
      exact hf.elim
  · replace hf := hf.2 c3
    refine lv_aload_n hx hb dX2_removeWanted_32 rfl (lv_at hl 0 rfl) ?_
    refine va_get (D := (dC, dI)) (ci := 2) (v := .ref a.2.1) (C := RX2) (T := TX2) (N := 15) hx hb hts hinX2 hown hK.1 hP 0 rfl rfl 0 (by decide) w11 (fun _ h9 => h9) rfl dX2_removeWanted_33 ?_
    refine lv_iload_n hx hb dX2_removeWanted_36 rfl (lv_at hl 2 rfl) ?_
    refine lv_iconst (v := 1) hx hb dX2_removeWanted_37 (by decide) ?_
    refine lv_isub hx hb dX2_removeWanted_38 ?_
    refine fold_i (v := 0) (by decide) ?_
    refine lv_aload_n hx hb dX2_removeWanted_39 rfl (lv_at hl 0 rfl) ?_
    refine va_get (D := (dC, dI)) (ci := 2) (v := .ref a.2.1) (C := RX2) (T := TX2) (N := 15) hx hb hts hinX2 hown hK.1 hP 0 rfl rfl 0 (by decide) w11 (fun _ h9 => h9) rfl dX2_removeWanted_40 ?_
    refine lv_iload_n hx hb dX2_removeWanted_43 rfl (lv_at hl 2 rfl) ?_
    refine ar_qld (j := 1) hx hb hK.1 hP 1 3 rfl rfl (clamp_lit 1 rfl) (vin_lit 1 4 rfl rfl) dX2_removeWanted_44 ?_
    refine nst (j := 0) (k := 1) hx hb hK.1 hP hD hS rfl (clamp_lit 0 rfl) (vin_lit 0 4 rfl rfl) dX2_removeWanted_45 (fun H locs hP hD hS => ?_)
    refine lv_iinc (v := 2) (lv' := [(3, .int 2), (0, .ref a.1), (2, .ref (a.2.2.1 0))]) hx hb dX2_removeWanted_46 hl (k := 2) rfl (by decide) (by decide) rfl (fun ls hl => ?_)
    refine lv_goto (tgt := 24) hx hb dX2_removeWanted_49 (by decide) ?_
    exact j_X2_removeWanted_24_2 C0 a K (on, role, wants, sndC, rcvC, nSent, nRcvd, lastF, found, sending, next, wanted, lastR, line, reader) H locs ls hP hD hS (lv_sub hl [1, 2, 0] rfl) hf
set_option maxHeartbeats 4000000 in
set_option maxRecDepth 100000 in
theorem j_X2_removeWanted_24_4_v6 {p : Program} {l : Launch} {e : Env} {s : State} {m : MethodId} {args : Array Value} {below : List Frame} {meth : Method} {c : Code} {dC : Nat → ClassId} {dI : Nat → Nat → Nat} {y : Nat → ClassId} {A : Nat → Prop} (C0 : Cx p s m args meth c cX2_removeWanted 4 none wsX2_removeWanted RX2 A dC dI y) (a : NodeA) (K : NodeS → Prop) : ∀ (S : NodeS) (H : Heap) (locs : List Loc) (ls : Array Slot), va_P (dC, dI) vwCl (ndX y a (va_up (va_up a.2.2.1 1 (a.2.2.1 2)) 2 (a.2.2.1 3)) S) H → va_D A (ndX y a (va_up (va_up a.2.2.1 1 (a.2.2.1 2)) 2 (a.2.2.1 3)) S) → va_S A s.heap H locs → lv_has ls 4 [(0, .ref a.1), (2, .ref (a.2.2.1 1)), (3, .int 4)] → wp_X2_removeWanted_24_4_v6 K S → W p l e ({ frames := 0, cells := 0, slots := 0, locals := 0 } : Room) s m args below meth c H locs 0 0 (MQ below (va_Qv (fun u => K u.1) (BW dC dI A (fun u : NodeS × (Nat → Nat) => ndW y (aw a u.2) u.1)) A) args s 0 0 A) (F0 m 24 ls []) := by
  obtain ⟨hx, hb, hr, hml, hown, hts, hlocks, hA, hK⟩ := id C0
  have w11 := hts (.fieldLink RX2 11 "SharedWire$Node" "wanted" "[LSharedWire$Frame;") (List.mem_of_getElem? (i := 2) rfl)
  have w44 := hts (.fieldLink RX2 44 "SharedWire$Node" "wants" "I") (List.mem_of_getElem? (i := 1) rfl)
  have hinX2 : ∀ w ∈ wsX20, w ∈ wsX2_removeWanted := fun w h => List.mem_cons_of_mem _ (List.mem_append_right _ (h))
  intro S H locs ls hP hD hS hl hf
  obtain ⟨on, role, wants, sndC, rcvC, nSent, nRcvd, lastF, found, sending, next, wanted, lastR, line, reader⟩ := S
  unfold wp_X2_removeWanted_24_4_v6 at hf
  refine lv_iload_n hx hb dX2_removeWanted_24 rfl (lv_at hl 2 rfl) ?_
  refine lv_aload_n hx hb dX2_removeWanted_25 rfl (lv_at hl 0 rfl) ?_
  refine va_get (D := (dC, dI)) (ci := 2) (v := .int wants) (C := RX2) (T := TX2) (N := 15) hx hb hts hinX2 hown hK.1 hP 0 rfl rfl 6 (by decide) w44 (fun _ h9 => h9) rfl dX2_removeWanted_26 ?_
  refine lv_icmp_ge (tgt := 52) hx hb dX2_removeWanted_29 (by decide) (fun c9 => ?_) (fun c9 => ?_)
  · replace hf := hf.1 c9
    refine lv_aload_n hx hb dX2_removeWanted_52 rfl (lv_at hl 0 rfl) ?_
    refine lv_dup hx hb dX2_removeWanted_53 rfl ?_
    refine va_get (D := (dC, dI)) (ci := 2) (v := .int wants) (C := RX2) (T := TX2) (N := 15) hx hb hts hinX2 hown hK.1 hP 0 rfl rfl 6 (by decide) w44 (fun _ h9 => h9) rfl dX2_removeWanted_54 ?_
    refine lv_iconst (v := 1) hx hb dX2_removeWanted_57 (by decide) ?_
    refine lv_isub hx hb dX2_removeWanted_58 ?_
    refine va_put (D := (dC, dI)) (ci := 2) (v := .int (wants - 1)) (ty := .int) (C := RX2) (T := TX2) (N := 15) hx hb hts hinX2 tyX2 tyX2_ok nmX2 hown hK.1 hP hD hS 0 rfl rfl 6 (by decide) w44 (fun _ h9 => h9) rfl (by decide +kernel) rfl rfl (Nat.le_of_ble_eq_true rfl) dX2_removeWanted_59 (fun H locs hP hD hS => ?_)
    have hP : va_P (dC, dI) vwCl (ndX y a (va_up (va_up a.2.2.1 1 (a.2.2.1 2)) 2 (a.2.2.1 3)) (on, role, wants - 1, sndC, rcvC, nSent, nRcvd, lastF, found, sending, next, wanted, lastR, line, reader)) H := hP
    have hD : va_D A (ndX y a (va_up (va_up a.2.2.1 1 (a.2.2.1 2)) 2 (a.2.2.1 3)) (on, role, wants - 1, sndC, rcvC, nSent, nRcvd, lastF, found, sending, next, wanted, lastR, line, reader)) := hD
    refine lv_aload_n hx hb dX2_removeWanted_62 rfl (lv_at hl 0 rfl) ?_
    refine va_get (D := (dC, dI)) (ci := 2) (v := .ref a.2.1) (C := RX2) (T := TX2) (N := 15) hx hb hts hinX2 hown hK.1 hP 0 rfl rfl 0 (by decide) w11 (fun _ h9 => h9) rfl dX2_removeWanted_63 ?_
    refine lv_aload_n hx hb dX2_removeWanted_66 rfl (lv_at hl 0 rfl) ?_
    refine va_get (D := (dC, dI)) (ci := 2) (v := .int (wants - 1)) (C := RX2) (T := TX2) (N := 15) hx hb hts hinX2 hown hK.1 hP 0 rfl rfl 6 (by decide) w44 (fun _ h9 => h9) rfl dX2_removeWanted_67 ?_
    refine lv_aload_n hx hb dX2_removeWanted_70 rfl (lv_at hl 1 rfl) ?_
    obtain ⟨hg9, hf0, hf1, hf2, hf3⟩ := hf
    rcases vin4 hg9 with e9 | e9 | e9 | e9
    · replace hf := hf0 e9
      refine nst (j := 0) (k := 1) hx hb hK.1 hP hD hS rfl (by rw [e9]; rfl) hg9 dX2_removeWanted_71 (fun H locs hP hD hS => ?_)
      exact hf.elim
    · replace hf := hf1 e9
      refine nst (j := 1) (k := 1) hx hb hK.1 hP hD hS rfl (by rw [e9]; rfl) hg9 dX2_removeWanted_71 (fun H locs hP hD hS => ?_)
      exact hf.elim
    · replace hf := hf2 e9
      refine nst (j := 2) (k := 1) hx hb hK.1 hP hD hS rfl (by rw [e9]; rfl) hg9 dX2_removeWanted_71 (fun H locs hP hD hS => ?_)
      have hP : va_P (dC, dI) vwCl (ndW y (aw a (va_up (va_up (va_up a.2.2.1 1 (a.2.2.1 2)) 2 (a.2.2.1 3)) 2 (a.2.2.1 1))) (on, role, wants - 1, sndC, rcvC, nSent, nRcvd, lastF, found, sending, next, va_up (va_up wanted 1 (wanted 2)) 2 (wanted 1), lastR, line, reader)) H := hP.sub [0, 1, 2, 4, 3, 5, 6, 7, 8, 9, 10, 11] rfl
      have hD : va_D A (ndW y (aw a (va_up (va_up (va_up a.2.2.1 1 (a.2.2.1 2)) 2 (a.2.2.1 3)) 2 (a.2.2.1 1))) (on, role, wants - 1, sndC, rcvC, nSent, nRcvd, lastF, found, sending, next, va_up (va_up wanted 1 (wanted 2)) 2 (wanted 1), lastR, line, reader)) := hD.sub [0, 1, 2, 4, 3, 5, 6, 7, 8, 9, 10, 11] (by decide) rfl
      exact W.vret hx hb hr (fun t ht hW => ⟨⟨((on, role, wants - 1, sndC, rcvC, nSent, nRcvd, lastF, found, sending, next, va_up (va_up wanted 1 (wanted 2)) 2 (wanted 1), lastR, line, reader), va_up (va_up (va_up a.2.2.1 1 (a.2.2.1 2)) 2 (a.2.2.1 3)) 2 (a.2.2.1 1)), rfl, hf, by rw [ht]; exact hP, hD⟩, hS.F ht⟩) hS.2.2 dX2_removeWanted_72
    · replace hf := hf3 e9
      refine nst (j := 3) (k := 1) hx hb hK.1 hP hD hS rfl (by rw [e9]; rfl) hg9 dX2_removeWanted_71 (fun H locs hP hD hS => ?_)
      have hP : va_P (dC, dI) vwCl (ndW y (aw a (va_up (va_up (va_up a.2.2.1 1 (a.2.2.1 2)) 2 (a.2.2.1 3)) 3 (a.2.2.1 1))) (on, role, wants - 1, sndC, rcvC, nSent, nRcvd, lastF, found, sending, next, va_up (va_up (va_up wanted 1 (wanted 2)) 2 (wanted 3)) 3 (wanted 1), lastR, line, reader)) H := hP.sub [0, 1, 2, 4, 5, 3, 6, 7, 8, 9, 10, 11] rfl
      have hD : va_D A (ndW y (aw a (va_up (va_up (va_up a.2.2.1 1 (a.2.2.1 2)) 2 (a.2.2.1 3)) 3 (a.2.2.1 1))) (on, role, wants - 1, sndC, rcvC, nSent, nRcvd, lastF, found, sending, next, va_up (va_up (va_up wanted 1 (wanted 2)) 2 (wanted 3)) 3 (wanted 1), lastR, line, reader)) := hD.sub [0, 1, 2, 4, 5, 3, 6, 7, 8, 9, 10, 11] (by decide) rfl
      exact W.vret hx hb hr (fun t ht hW => ⟨⟨((on, role, wants - 1, sndC, rcvC, nSent, nRcvd, lastF, found, sending, next, va_up (va_up (va_up wanted 1 (wanted 2)) 2 (wanted 3)) 3 (wanted 1), lastR, line, reader), va_up (va_up (va_up a.2.2.1 1 (a.2.2.1 2)) 2 (a.2.2.1 3)) 3 (a.2.2.1 1)), rfl, hf, by rw [ht]; exact hP, hD⟩, hS.F ht⟩) hS.2.2 dX2_removeWanted_72
  · replace hf := hf.2 c9
    refine lv_aload_n hx hb dX2_removeWanted_32 rfl (lv_at hl 0 rfl) ?_
    refine va_get (D := (dC, dI)) (ci := 2) (v := .ref a.2.1) (C := RX2) (T := TX2) (N := 15) hx hb hts hinX2 hown hK.1 hP 0 rfl rfl 0 (by decide) w11 (fun _ h9 => h9) rfl dX2_removeWanted_33 ?_
    refine lv_iload_n hx hb dX2_removeWanted_36 rfl (lv_at hl 2 rfl) ?_
    refine lv_iconst (v := 1) hx hb dX2_removeWanted_37 (by decide) ?_
    refine lv_isub hx hb dX2_removeWanted_38 ?_
    refine fold_i (v := 3) (by decide) ?_
    refine lv_aload_n hx hb dX2_removeWanted_39 rfl (lv_at hl 0 rfl) ?_
    refine va_get (D := (dC, dI)) (ci := 2) (v := .ref a.2.1) (C := RX2) (T := TX2) (N := 15) hx hb hts hinX2 hown hK.1 hP 0 rfl rfl 0 (by decide) w11 (fun _ h9 => h9) rfl dX2_removeWanted_40 ?_
    refine lv_iload_n hx hb dX2_removeWanted_43 rfl (lv_at hl 2 rfl) ?_
    exact hf.elim
set_option maxHeartbeats 4000000 in
set_option maxRecDepth 100000 in
theorem j_X2_removeWanted_24_3_v5 {p : Program} {l : Launch} {e : Env} {s : State} {m : MethodId} {args : Array Value} {below : List Frame} {meth : Method} {c : Code} {dC : Nat → ClassId} {dI : Nat → Nat → Nat} {y : Nat → ClassId} {A : Nat → Prop} (C0 : Cx p s m args meth c cX2_removeWanted 4 none wsX2_removeWanted RX2 A dC dI y) (a : NodeA) (K : NodeS → Prop) : ∀ (S : NodeS) (H : Heap) (locs : List Loc) (ls : Array Slot), va_P (dC, dI) vwCl (ndX y a (va_up a.2.2.1 1 (a.2.2.1 2)) S) H → va_D A (ndX y a (va_up a.2.2.1 1 (a.2.2.1 2)) S) → va_S A s.heap H locs → lv_has ls 4 [(0, .ref a.1), (2, .ref (a.2.2.1 1)), (3, .int 3)] → wp_X2_removeWanted_24_3_v5 K S → W p l e ({ frames := 0, cells := 0, slots := 0, locals := 0 } : Room) s m args below meth c H locs 0 0 (MQ below (va_Qv (fun u => K u.1) (BW dC dI A (fun u : NodeS × (Nat → Nat) => ndW y (aw a u.2) u.1)) A) args s 0 0 A) (F0 m 24 ls []) := by
  obtain ⟨hx, hb, hr, hml, hown, hts, hlocks, hA, hK⟩ := id C0
  have w11 := hts (.fieldLink RX2 11 "SharedWire$Node" "wanted" "[LSharedWire$Frame;") (List.mem_of_getElem? (i := 2) rfl)
  have w44 := hts (.fieldLink RX2 44 "SharedWire$Node" "wants" "I") (List.mem_of_getElem? (i := 1) rfl)
  have hinX2 : ∀ w ∈ wsX20, w ∈ wsX2_removeWanted := fun w h => List.mem_cons_of_mem _ (List.mem_append_right _ (h))
  intro S H locs ls hP hD hS hl hf
  obtain ⟨on, role, wants, sndC, rcvC, nSent, nRcvd, lastF, found, sending, next, wanted, lastR, line, reader⟩ := S
  unfold wp_X2_removeWanted_24_3_v5 at hf
  refine lv_iload_n hx hb dX2_removeWanted_24 rfl (lv_at hl 2 rfl) ?_
  refine lv_aload_n hx hb dX2_removeWanted_25 rfl (lv_at hl 0 rfl) ?_
  refine va_get (D := (dC, dI)) (ci := 2) (v := .int wants) (C := RX2) (T := TX2) (N := 15) hx hb hts hinX2 hown hK.1 hP 0 rfl rfl 6 (by decide) w44 (fun _ h9 => h9) rfl dX2_removeWanted_26 ?_
  refine lv_icmp_ge (tgt := 52) hx hb dX2_removeWanted_29 (by decide) (fun c8 => ?_) (fun c8 => ?_)
  · replace hf := hf.1 c8
    refine lv_aload_n hx hb dX2_removeWanted_52 rfl (lv_at hl 0 rfl) ?_
    refine lv_dup hx hb dX2_removeWanted_53 rfl ?_
    refine va_get (D := (dC, dI)) (ci := 2) (v := .int wants) (C := RX2) (T := TX2) (N := 15) hx hb hts hinX2 hown hK.1 hP 0 rfl rfl 6 (by decide) w44 (fun _ h9 => h9) rfl dX2_removeWanted_54 ?_
    refine lv_iconst (v := 1) hx hb dX2_removeWanted_57 (by decide) ?_
    refine lv_isub hx hb dX2_removeWanted_58 ?_
    refine va_put (D := (dC, dI)) (ci := 2) (v := .int (wants - 1)) (ty := .int) (C := RX2) (T := TX2) (N := 15) hx hb hts hinX2 tyX2 tyX2_ok nmX2 hown hK.1 hP hD hS 0 rfl rfl 6 (by decide) w44 (fun _ h9 => h9) rfl (by decide +kernel) rfl rfl (Nat.le_of_ble_eq_true rfl) dX2_removeWanted_59 (fun H locs hP hD hS => ?_)
    have hP : va_P (dC, dI) vwCl (ndX y a (va_up a.2.2.1 1 (a.2.2.1 2)) (on, role, wants - 1, sndC, rcvC, nSent, nRcvd, lastF, found, sending, next, wanted, lastR, line, reader)) H := hP
    have hD : va_D A (ndX y a (va_up a.2.2.1 1 (a.2.2.1 2)) (on, role, wants - 1, sndC, rcvC, nSent, nRcvd, lastF, found, sending, next, wanted, lastR, line, reader)) := hD
    refine lv_aload_n hx hb dX2_removeWanted_62 rfl (lv_at hl 0 rfl) ?_
    refine va_get (D := (dC, dI)) (ci := 2) (v := .ref a.2.1) (C := RX2) (T := TX2) (N := 15) hx hb hts hinX2 hown hK.1 hP 0 rfl rfl 0 (by decide) w11 (fun _ h9 => h9) rfl dX2_removeWanted_63 ?_
    refine lv_aload_n hx hb dX2_removeWanted_66 rfl (lv_at hl 0 rfl) ?_
    refine va_get (D := (dC, dI)) (ci := 2) (v := .int (wants - 1)) (C := RX2) (T := TX2) (N := 15) hx hb hts hinX2 hown hK.1 hP 0 rfl rfl 6 (by decide) w44 (fun _ h9 => h9) rfl dX2_removeWanted_67 ?_
    refine lv_aload_n hx hb dX2_removeWanted_70 rfl (lv_at hl 1 rfl) ?_
    obtain ⟨hg9, hf0, hf1, hf2, hf3⟩ := hf
    rcases vin4 hg9 with e9 | e9 | e9 | e9
    · replace hf := hf0 e9
      refine nst (j := 0) (k := 1) hx hb hK.1 hP hD hS rfl (by rw [e9]; rfl) hg9 dX2_removeWanted_71 (fun H locs hP hD hS => ?_)
      exact hf.elim
    · replace hf := hf1 e9
      refine nst (j := 1) (k := 1) hx hb hK.1 hP hD hS rfl (by rw [e9]; rfl) hg9 dX2_removeWanted_71 (fun H locs hP hD hS => ?_)
      have hP : va_P (dC, dI) vwCl (ndW y (aw a (va_up (va_up a.2.2.1 1 (a.2.2.1 2)) 1 (a.2.2.1 1))) (on, role, wants - 1, sndC, rcvC, nSent, nRcvd, lastF, found, sending, next, wanted, lastR, line, reader)) H := hP.sub [0, 1, 2, 3, 4, 5, 6, 7, 8, 9, 10, 11] rfl
      have hD : va_D A (ndW y (aw a (va_up (va_up a.2.2.1 1 (a.2.2.1 2)) 1 (a.2.2.1 1))) (on, role, wants - 1, sndC, rcvC, nSent, nRcvd, lastF, found, sending, next, wanted, lastR, line, reader)) := hD.sub [0, 1, 2, 3, 4, 5, 6, 7, 8, 9, 10, 11] (by decide) rfl
      exact W.vret hx hb hr (fun t ht hW => ⟨⟨((on, role, wants - 1, sndC, rcvC, nSent, nRcvd, lastF, found, sending, next, wanted, lastR, line, reader), va_up (va_up a.2.2.1 1 (a.2.2.1 2)) 1 (a.2.2.1 1)), rfl, hf, by rw [ht]; exact hP, hD⟩, hS.F ht⟩) hS.2.2 dX2_removeWanted_72
    · replace hf := hf2 e9
      refine nst (j := 2) (k := 1) hx hb hK.1 hP hD hS rfl (by rw [e9]; rfl) hg9 dX2_removeWanted_71 (fun H locs hP hD hS => ?_)
      have hP : va_P (dC, dI) vwCl (ndW y (aw a (va_up (va_up a.2.2.1 1 (a.2.2.1 2)) 2 (a.2.2.1 1))) (on, role, wants - 1, sndC, rcvC, nSent, nRcvd, lastF, found, sending, next, va_up (va_up wanted 1 (wanted 2)) 2 (wanted 1), lastR, line, reader)) H := hP.sub [0, 1, 2, 4, 3, 5, 6, 7, 8, 9, 10, 11] rfl
      have hD : va_D A (ndW y (aw a (va_up (va_up a.2.2.1 1 (a.2.2.1 2)) 2 (a.2.2.1 1))) (on, role, wants - 1, sndC, rcvC, nSent, nRcvd, lastF, found, sending, next, va_up (va_up wanted 1 (wanted 2)) 2 (wanted 1), lastR, line, reader)) := hD.sub [0, 1, 2, 4, 3, 5, 6, 7, 8, 9, 10, 11] (by decide) rfl
      exact W.vret hx hb hr (fun t ht hW => ⟨⟨((on, role, wants - 1, sndC, rcvC, nSent, nRcvd, lastF, found, sending, next, va_up (va_up wanted 1 (wanted 2)) 2 (wanted 1), lastR, line, reader), va_up (va_up a.2.2.1 1 (a.2.2.1 2)) 2 (a.2.2.1 1)), rfl, hf, by rw [ht]; exact hP, hD⟩, hS.F ht⟩) hS.2.2 dX2_removeWanted_72
    · replace hf := hf3 e9
      refine nst (j := 3) (k := 1) hx hb hK.1 hP hD hS rfl (by rw [e9]; rfl) hg9 dX2_removeWanted_71 (fun H locs hP hD hS => ?_)
      exact hf.elim
  · replace hf := hf.2 c8
    refine lv_aload_n hx hb dX2_removeWanted_32 rfl (lv_at hl 0 rfl) ?_
    refine va_get (D := (dC, dI)) (ci := 2) (v := .ref a.2.1) (C := RX2) (T := TX2) (N := 15) hx hb hts hinX2 hown hK.1 hP 0 rfl rfl 0 (by decide) w11 (fun _ h9 => h9) rfl dX2_removeWanted_33 ?_
    refine lv_iload_n hx hb dX2_removeWanted_36 rfl (lv_at hl 2 rfl) ?_
    refine lv_iconst (v := 1) hx hb dX2_removeWanted_37 (by decide) ?_
    refine lv_isub hx hb dX2_removeWanted_38 ?_
    refine fold_i (v := 2) (by decide) ?_
    refine lv_aload_n hx hb dX2_removeWanted_39 rfl (lv_at hl 0 rfl) ?_
    refine va_get (D := (dC, dI)) (ci := 2) (v := .ref a.2.1) (C := RX2) (T := TX2) (N := 15) hx hb hts hinX2 hown hK.1 hP 0 rfl rfl 0 (by decide) w11 (fun _ h9 => h9) rfl dX2_removeWanted_40 ?_
    refine lv_iload_n hx hb dX2_removeWanted_43 rfl (lv_at hl 2 rfl) ?_
    refine ar_qld (j := 3) hx hb hK.1 hP 1 3 rfl rfl (clamp_lit 3 rfl) (vin_lit 3 4 rfl rfl) dX2_removeWanted_44 ?_
    refine nst (j := 2) (k := 3) hx hb hK.1 hP hD hS rfl (clamp_lit 2 rfl) (vin_lit 2 4 rfl rfl) dX2_removeWanted_45 (fun H locs hP hD hS => ?_)
    refine lv_iinc (v := 4) (lv' := [(3, .int 4), (0, .ref a.1), (2, .ref (a.2.2.1 1))]) hx hb dX2_removeWanted_46 hl (k := 2) rfl (by decide) (by decide) rfl (fun ls hl => ?_)
    refine lv_goto (tgt := 24) hx hb dX2_removeWanted_49 (by decide) ?_
    exact j_X2_removeWanted_24_4_v6 C0 a K (on, role, wants, sndC, rcvC, nSent, nRcvd, lastF, found, sending, next, wanted, lastR, line, reader) H locs ls hP hD hS (lv_sub hl [1, 2, 0] rfl) hf
set_option maxHeartbeats 4000000 in
set_option maxRecDepth 100000 in
theorem j_X2_removeWanted_24_2_v4 {p : Program} {l : Launch} {e : Env} {s : State} {m : MethodId} {args : Array Value} {below : List Frame} {meth : Method} {c : Code} {dC : Nat → ClassId} {dI : Nat → Nat → Nat} {y : Nat → ClassId} {A : Nat → Prop} (C0 : Cx p s m args meth c cX2_removeWanted 4 none wsX2_removeWanted RX2 A dC dI y) (a : NodeA) (K : NodeS → Prop) : ∀ (S : NodeS) (H : Heap) (locs : List Loc) (ls : Array Slot), va_P (dC, dI) vwCl (ndW y a S) H → va_D A (ndW y a S) → va_S A s.heap H locs → lv_has ls 4 [(0, .ref a.1), (2, .ref (a.2.2.1 1)), (3, .int 2)] → wp_X2_removeWanted_24_2_v4 K S → W p l e ({ frames := 0, cells := 0, slots := 0, locals := 0 } : Room) s m args below meth c H locs 0 0 (MQ below (va_Qv (fun u => K u.1) (BW dC dI A (fun u : NodeS × (Nat → Nat) => ndW y (aw a u.2) u.1)) A) args s 0 0 A) (F0 m 24 ls []) := by
  obtain ⟨hx, hb, hr, hml, hown, hts, hlocks, hA, hK⟩ := id C0
  have w11 := hts (.fieldLink RX2 11 "SharedWire$Node" "wanted" "[LSharedWire$Frame;") (List.mem_of_getElem? (i := 2) rfl)
  have w44 := hts (.fieldLink RX2 44 "SharedWire$Node" "wants" "I") (List.mem_of_getElem? (i := 1) rfl)
  have hinX2 : ∀ w ∈ wsX20, w ∈ wsX2_removeWanted := fun w h => List.mem_cons_of_mem _ (List.mem_append_right _ (h))
  intro S H locs ls hP hD hS hl hf
  obtain ⟨on, role, wants, sndC, rcvC, nSent, nRcvd, lastF, found, sending, next, wanted, lastR, line, reader⟩ := S
  unfold wp_X2_removeWanted_24_2_v4 at hf
  refine lv_iload_n hx hb dX2_removeWanted_24 rfl (lv_at hl 2 rfl) ?_
  refine lv_aload_n hx hb dX2_removeWanted_25 rfl (lv_at hl 0 rfl) ?_
  refine va_get (D := (dC, dI)) (ci := 2) (v := .int wants) (C := RX2) (T := TX2) (N := 15) hx hb hts hinX2 hown hK.1 hP 0 rfl rfl 6 (by decide) w44 (fun _ h9 => h9) rfl dX2_removeWanted_26 ?_
  refine lv_icmp_ge (tgt := 52) hx hb dX2_removeWanted_29 (by decide) (fun c7 => ?_) (fun c7 => ?_)
  · replace hf := hf.1 c7
    refine lv_aload_n hx hb dX2_removeWanted_52 rfl (lv_at hl 0 rfl) ?_
    refine lv_dup hx hb dX2_removeWanted_53 rfl ?_
    refine va_get (D := (dC, dI)) (ci := 2) (v := .int wants) (C := RX2) (T := TX2) (N := 15) hx hb hts hinX2 hown hK.1 hP 0 rfl rfl 6 (by decide) w44 (fun _ h9 => h9) rfl dX2_removeWanted_54 ?_
    refine lv_iconst (v := 1) hx hb dX2_removeWanted_57 (by decide) ?_
    refine lv_isub hx hb dX2_removeWanted_58 ?_
    refine va_put (D := (dC, dI)) (ci := 2) (v := .int (wants - 1)) (ty := .int) (C := RX2) (T := TX2) (N := 15) hx hb hts hinX2 tyX2 tyX2_ok nmX2 hown hK.1 hP hD hS 0 rfl rfl 6 (by decide) w44 (fun _ h9 => h9) rfl (by decide +kernel) rfl rfl (Nat.le_of_ble_eq_true rfl) dX2_removeWanted_59 (fun H locs hP hD hS => ?_)
    have hP : va_P (dC, dI) vwCl (ndW y a (on, role, wants - 1, sndC, rcvC, nSent, nRcvd, lastF, found, sending, next, wanted, lastR, line, reader)) H := hP
    have hD : va_D A (ndW y a (on, role, wants - 1, sndC, rcvC, nSent, nRcvd, lastF, found, sending, next, wanted, lastR, line, reader)) := hD
    refine lv_aload_n hx hb dX2_removeWanted_62 rfl (lv_at hl 0 rfl) ?_
    refine va_get (D := (dC, dI)) (ci := 2) (v := .ref a.2.1) (C := RX2) (T := TX2) (N := 15) hx hb hts hinX2 hown hK.1 hP 0 rfl rfl 0 (by decide) w11 (fun _ h9 => h9) rfl dX2_removeWanted_63 ?_
    refine lv_aload_n hx hb dX2_removeWanted_66 rfl (lv_at hl 0 rfl) ?_
    refine va_get (D := (dC, dI)) (ci := 2) (v := .int (wants - 1)) (C := RX2) (T := TX2) (N := 15) hx hb hts hinX2 hown hK.1 hP 0 rfl rfl 6 (by decide) w44 (fun _ h9 => h9) rfl dX2_removeWanted_67 ?_
    refine lv_aload_n hx hb dX2_removeWanted_70 rfl (lv_at hl 1 rfl) ?_
    obtain ⟨hg9, hf0, hf1, hf2, hf3⟩ := hf
    rcases vin4 hg9 with e9 | e9 | e9 | e9
    · replace hf := hf0 e9
      refine nst (j := 0) (k := 1) hx hb hK.1 hP hD hS rfl (by rw [e9]; rfl) hg9 dX2_removeWanted_71 (fun H locs hP hD hS => ?_)
      exact hf.elim
    · replace hf := hf1 e9
      refine nst (j := 1) (k := 1) hx hb hK.1 hP hD hS rfl (by rw [e9]; rfl) hg9 dX2_removeWanted_71 (fun H locs hP hD hS => ?_)
      have hP : va_P (dC, dI) vwCl (ndW y (aw a (va_up a.2.2.1 1 (a.2.2.1 1))) (on, role, wants - 1, sndC, rcvC, nSent, nRcvd, lastF, found, sending, next, wanted, lastR, line, reader)) H := hP.sub [0, 1, 2, 3, 4, 5, 6, 7, 8, 9, 10, 11] rfl
      have hD : va_D A (ndW y (aw a (va_up a.2.2.1 1 (a.2.2.1 1))) (on, role, wants - 1, sndC, rcvC, nSent, nRcvd, lastF, found, sending, next, wanted, lastR, line, reader)) := hD.sub [0, 1, 2, 3, 4, 5, 6, 7, 8, 9, 10, 11] (by decide) rfl
      exact W.vret hx hb hr (fun t ht hW => ⟨⟨((on, role, wants - 1, sndC, rcvC, nSent, nRcvd, lastF, found, sending, next, wanted, lastR, line, reader), va_up a.2.2.1 1 (a.2.2.1 1)), rfl, hf, by rw [ht]; exact hP, hD⟩, hS.F ht⟩) hS.2.2 dX2_removeWanted_72
    · replace hf := hf2 e9
      refine nst (j := 2) (k := 1) hx hb hK.1 hP hD hS rfl (by rw [e9]; rfl) hg9 dX2_removeWanted_71 (fun H locs hP hD hS => ?_)
      exact hf.elim
    · replace hf := hf3 e9
      refine nst (j := 3) (k := 1) hx hb hK.1 hP hD hS rfl (by rw [e9]; rfl) hg9 dX2_removeWanted_71 (fun H locs hP hD hS => ?_)
      exact hf.elim
  · replace hf := hf.2 c7
    refine lv_aload_n hx hb dX2_removeWanted_32 rfl (lv_at hl 0 rfl) ?_
    refine va_get (D := (dC, dI)) (ci := 2) (v := .ref a.2.1) (C := RX2) (T := TX2) (N := 15) hx hb hts hinX2 hown hK.1 hP 0 rfl rfl 0 (by decide) w11 (fun _ h9 => h9) rfl dX2_removeWanted_33 ?_
    refine lv_iload_n hx hb dX2_removeWanted_36 rfl (lv_at hl 2 rfl) ?_
    refine lv_iconst (v := 1) hx hb dX2_removeWanted_37 (by decide) ?_
    refine lv_isub hx hb dX2_removeWanted_38 ?_
    refine fold_i (v := 1) (by decide) ?_
    refine lv_aload_n hx hb dX2_removeWanted_39 rfl (lv_at hl 0 rfl) ?_
    refine va_get (D := (dC, dI)) (ci := 2) (v := .ref a.2.1) (C := RX2) (T := TX2) (N := 15) hx hb hts hinX2 hown hK.1 hP 0 rfl rfl 0 (by decide) w11 (fun _ h9 => h9) rfl dX2_removeWanted_40 ?_
    refine lv_iload_n hx hb dX2_removeWanted_43 rfl (lv_at hl 2 rfl) ?_
    refine ar_qld (j := 2) hx hb hK.1 hP 1 3 rfl rfl (clamp_lit 2 rfl) (vin_lit 2 4 rfl rfl) dX2_removeWanted_44 ?_
    refine nst (j := 1) (k := 2) hx hb hK.1 hP hD hS rfl (clamp_lit 1 rfl) (vin_lit 1 4 rfl rfl) dX2_removeWanted_45 (fun H locs hP hD hS => ?_)
    refine lv_iinc (v := 3) (lv' := [(3, .int 3), (0, .ref a.1), (2, .ref (a.2.2.1 1))]) hx hb dX2_removeWanted_46 hl (k := 2) rfl (by decide) (by decide) rfl (fun ls hl => ?_)
    refine lv_goto (tgt := 24) hx hb dX2_removeWanted_49 (by decide) ?_
    exact j_X2_removeWanted_24_3_v5 C0 a K (on, role, wants, sndC, rcvC, nSent, nRcvd, lastF, found, sending, next, wanted, lastR, line, reader) H locs ls hP hD hS (lv_sub hl [1, 2, 0] rfl) hf
set_option maxHeartbeats 4000000 in
set_option maxRecDepth 100000 in
theorem j_X2_removeWanted_24_4_v8 {p : Program} {l : Launch} {e : Env} {s : State} {m : MethodId} {args : Array Value} {below : List Frame} {meth : Method} {c : Code} {dC : Nat → ClassId} {dI : Nat → Nat → Nat} {y : Nat → ClassId} {A : Nat → Prop} (C0 : Cx p s m args meth c cX2_removeWanted 4 none wsX2_removeWanted RX2 A dC dI y) (a : NodeA) (K : NodeS → Prop) : ∀ (S : NodeS) (H : Heap) (locs : List Loc) (ls : Array Slot), va_P (dC, dI) vwCl (ndX y a (va_up a.2.2.1 2 (a.2.2.1 3)) S) H → va_D A (ndX y a (va_up a.2.2.1 2 (a.2.2.1 3)) S) → va_S A s.heap H locs → lv_has ls 4 [(0, .ref a.1), (2, .ref (a.2.2.1 2)), (3, .int 4)] → wp_X2_removeWanted_24_4_v8 K S → W p l e ({ frames := 0, cells := 0, slots := 0, locals := 0 } : Room) s m args below meth c H locs 0 0 (MQ below (va_Qv (fun u => K u.1) (BW dC dI A (fun u : NodeS × (Nat → Nat) => ndW y (aw a u.2) u.1)) A) args s 0 0 A) (F0 m 24 ls []) := by
  obtain ⟨hx, hb, hr, hml, hown, hts, hlocks, hA, hK⟩ := id C0
  have w11 := hts (.fieldLink RX2 11 "SharedWire$Node" "wanted" "[LSharedWire$Frame;") (List.mem_of_getElem? (i := 2) rfl)
  have w44 := hts (.fieldLink RX2 44 "SharedWire$Node" "wants" "I") (List.mem_of_getElem? (i := 1) rfl)
  have hinX2 : ∀ w ∈ wsX20, w ∈ wsX2_removeWanted := fun w h => List.mem_cons_of_mem _ (List.mem_append_right _ (h))
  intro S H locs ls hP hD hS hl hf
  obtain ⟨on, role, wants, sndC, rcvC, nSent, nRcvd, lastF, found, sending, next, wanted, lastR, line, reader⟩ := S
  unfold wp_X2_removeWanted_24_4_v8 at hf
  refine lv_iload_n hx hb dX2_removeWanted_24 rfl (lv_at hl 2 rfl) ?_
  refine lv_aload_n hx hb dX2_removeWanted_25 rfl (lv_at hl 0 rfl) ?_
  refine va_get (D := (dC, dI)) (ci := 2) (v := .int wants) (C := RX2) (T := TX2) (N := 15) hx hb hts hinX2 hown hK.1 hP 0 rfl rfl 6 (by decide) w44 (fun _ h9 => h9) rfl dX2_removeWanted_26 ?_
  refine lv_icmp_ge (tgt := 52) hx hb dX2_removeWanted_29 (by decide) (fun c11 => ?_) (fun c11 => ?_)
  · replace hf := hf.1 c11
    refine lv_aload_n hx hb dX2_removeWanted_52 rfl (lv_at hl 0 rfl) ?_
    refine lv_dup hx hb dX2_removeWanted_53 rfl ?_
    refine va_get (D := (dC, dI)) (ci := 2) (v := .int wants) (C := RX2) (T := TX2) (N := 15) hx hb hts hinX2 hown hK.1 hP 0 rfl rfl 6 (by decide) w44 (fun _ h9 => h9) rfl dX2_removeWanted_54 ?_
    refine lv_iconst (v := 1) hx hb dX2_removeWanted_57 (by decide) ?_
    refine lv_isub hx hb dX2_removeWanted_58 ?_
    refine va_put (D := (dC, dI)) (ci := 2) (v := .int (wants - 1)) (ty := .int) (C := RX2) (T := TX2) (N := 15) hx hb hts hinX2 tyX2 tyX2_ok nmX2 hown hK.1 hP hD hS 0 rfl rfl 6 (by decide) w44 (fun _ h9 => h9) rfl (by decide +kernel) rfl rfl (Nat.le_of_ble_eq_true rfl) dX2_removeWanted_59 (fun H locs hP hD hS => ?_)
    have hP : va_P (dC, dI) vwCl (ndX y a (va_up a.2.2.1 2 (a.2.2.1 3)) (on, role, wants - 1, sndC, rcvC, nSent, nRcvd, lastF, found, sending, next, wanted, lastR, line, reader)) H := hP
    have hD : va_D A (ndX y a (va_up a.2.2.1 2 (a.2.2.1 3)) (on, role, wants - 1, sndC, rcvC, nSent, nRcvd, lastF, found, sending, next, wanted, lastR, line, reader)) := hD
    refine lv_aload_n hx hb dX2_removeWanted_62 rfl (lv_at hl 0 rfl) ?_
    refine va_get (D := (dC, dI)) (ci := 2) (v := .ref a.2.1) (C := RX2) (T := TX2) (N := 15) hx hb hts hinX2 hown hK.1 hP 0 rfl rfl 0 (by decide) w11 (fun _ h9 => h9) rfl dX2_removeWanted_63 ?_
    refine lv_aload_n hx hb dX2_removeWanted_66 rfl (lv_at hl 0 rfl) ?_
    refine va_get (D := (dC, dI)) (ci := 2) (v := .int (wants - 1)) (C := RX2) (T := TX2) (N := 15) hx hb hts hinX2 hown hK.1 hP 0 rfl rfl 6 (by decide) w44 (fun _ h9 => h9) rfl dX2_removeWanted_67 ?_
    refine lv_aload_n hx hb dX2_removeWanted_70 rfl (lv_at hl 1 rfl) ?_
    obtain ⟨hg9, hf0, hf1, hf2, hf3⟩ := hf
    rcases vin4 hg9 with e9 | e9 | e9 | e9
    · replace hf := hf0 e9
      refine nst (j := 0) (k := 2) hx hb hK.1 hP hD hS rfl (by rw [e9]; rfl) hg9 dX2_removeWanted_71 (fun H locs hP hD hS => ?_)
      exact hf.elim
    · replace hf := hf1 e9
      refine nst (j := 1) (k := 2) hx hb hK.1 hP hD hS rfl (by rw [e9]; rfl) hg9 dX2_removeWanted_71 (fun H locs hP hD hS => ?_)
      exact hf.elim
    · replace hf := hf2 e9
      refine nst (j := 2) (k := 2) hx hb hK.1 hP hD hS rfl (by rw [e9]; rfl) hg9 dX2_removeWanted_71 (fun H locs hP hD hS => ?_)
      have hP : va_P (dC, dI) vwCl (ndW y (aw a (va_up (va_up a.2.2.1 2 (a.2.2.1 3)) 2 (a.2.2.1 2))) (on, role, wants - 1, sndC, rcvC, nSent, nRcvd, lastF, found, sending, next, wanted, lastR, line, reader)) H := hP.sub [0, 1, 2, 3, 4, 5, 6, 7, 8, 9, 10, 11] rfl
      have hD : va_D A (ndW y (aw a (va_up (va_up a.2.2.1 2 (a.2.2.1 3)) 2 (a.2.2.1 2))) (on, role, wants - 1, sndC, rcvC, nSent, nRcvd, lastF, found, sending, next, wanted, lastR, line, reader)) := hD.sub [0, 1, 2, 3, 4, 5, 6, 7, 8, 9, 10, 11] (by decide) rfl
      exact W.vret hx hb hr (fun t ht hW => ⟨⟨((on, role, wants - 1, sndC, rcvC, nSent, nRcvd, lastF, found, sending, next, wanted, lastR, line, reader), va_up (va_up a.2.2.1 2 (a.2.2.1 3)) 2 (a.2.2.1 2)), rfl, hf, by rw [ht]; exact hP, hD⟩, hS.F ht⟩) hS.2.2 dX2_removeWanted_72
    · replace hf := hf3 e9
      refine nst (j := 3) (k := 2) hx hb hK.1 hP hD hS rfl (by rw [e9]; rfl) hg9 dX2_removeWanted_71 (fun H locs hP hD hS => ?_)
      have hP : va_P (dC, dI) vwCl (ndW y (aw a (va_up (va_up a.2.2.1 2 (a.2.2.1 3)) 3 (a.2.2.1 2))) (on, role, wants - 1, sndC, rcvC, nSent, nRcvd, lastF, found, sending, next, va_up (va_up wanted 2 (wanted 3)) 3 (wanted 2), lastR, line, reader)) H := hP.sub [0, 1, 2, 3, 5, 4, 6, 7, 8, 9, 10, 11] rfl
      have hD : va_D A (ndW y (aw a (va_up (va_up a.2.2.1 2 (a.2.2.1 3)) 3 (a.2.2.1 2))) (on, role, wants - 1, sndC, rcvC, nSent, nRcvd, lastF, found, sending, next, va_up (va_up wanted 2 (wanted 3)) 3 (wanted 2), lastR, line, reader)) := hD.sub [0, 1, 2, 3, 5, 4, 6, 7, 8, 9, 10, 11] (by decide) rfl
      exact W.vret hx hb hr (fun t ht hW => ⟨⟨((on, role, wants - 1, sndC, rcvC, nSent, nRcvd, lastF, found, sending, next, va_up (va_up wanted 2 (wanted 3)) 3 (wanted 2), lastR, line, reader), va_up (va_up a.2.2.1 2 (a.2.2.1 3)) 3 (a.2.2.1 2)), rfl, hf, by rw [ht]; exact hP, hD⟩, hS.F ht⟩) hS.2.2 dX2_removeWanted_72
  · replace hf := hf.2 c11
    refine lv_aload_n hx hb dX2_removeWanted_32 rfl (lv_at hl 0 rfl) ?_
    refine va_get (D := (dC, dI)) (ci := 2) (v := .ref a.2.1) (C := RX2) (T := TX2) (N := 15) hx hb hts hinX2 hown hK.1 hP 0 rfl rfl 0 (by decide) w11 (fun _ h9 => h9) rfl dX2_removeWanted_33 ?_
    refine lv_iload_n hx hb dX2_removeWanted_36 rfl (lv_at hl 2 rfl) ?_
    refine lv_iconst (v := 1) hx hb dX2_removeWanted_37 (by decide) ?_
    refine lv_isub hx hb dX2_removeWanted_38 ?_
    refine fold_i (v := 3) (by decide) ?_
    refine lv_aload_n hx hb dX2_removeWanted_39 rfl (lv_at hl 0 rfl) ?_
    refine va_get (D := (dC, dI)) (ci := 2) (v := .ref a.2.1) (C := RX2) (T := TX2) (N := 15) hx hb hts hinX2 hown hK.1 hP 0 rfl rfl 0 (by decide) w11 (fun _ h9 => h9) rfl dX2_removeWanted_40 ?_
    refine lv_iload_n hx hb dX2_removeWanted_43 rfl (lv_at hl 2 rfl) ?_
    exact hf.elim
set_option maxHeartbeats 4000000 in
set_option maxRecDepth 100000 in
theorem j_X2_removeWanted_24_3_v7 {p : Program} {l : Launch} {e : Env} {s : State} {m : MethodId} {args : Array Value} {below : List Frame} {meth : Method} {c : Code} {dC : Nat → ClassId} {dI : Nat → Nat → Nat} {y : Nat → ClassId} {A : Nat → Prop} (C0 : Cx p s m args meth c cX2_removeWanted 4 none wsX2_removeWanted RX2 A dC dI y) (a : NodeA) (K : NodeS → Prop) : ∀ (S : NodeS) (H : Heap) (locs : List Loc) (ls : Array Slot), va_P (dC, dI) vwCl (ndW y a S) H → va_D A (ndW y a S) → va_S A s.heap H locs → lv_has ls 4 [(0, .ref a.1), (2, .ref (a.2.2.1 2)), (3, .int 3)] → wp_X2_removeWanted_24_3_v7 K S → W p l e ({ frames := 0, cells := 0, slots := 0, locals := 0 } : Room) s m args below meth c H locs 0 0 (MQ below (va_Qv (fun u => K u.1) (BW dC dI A (fun u : NodeS × (Nat → Nat) => ndW y (aw a u.2) u.1)) A) args s 0 0 A) (F0 m 24 ls []) := by
  obtain ⟨hx, hb, hr, hml, hown, hts, hlocks, hA, hK⟩ := id C0
  have w11 := hts (.fieldLink RX2 11 "SharedWire$Node" "wanted" "[LSharedWire$Frame;") (List.mem_of_getElem? (i := 2) rfl)
  have w44 := hts (.fieldLink RX2 44 "SharedWire$Node" "wants" "I") (List.mem_of_getElem? (i := 1) rfl)
  have hinX2 : ∀ w ∈ wsX20, w ∈ wsX2_removeWanted := fun w h => List.mem_cons_of_mem _ (List.mem_append_right _ (h))
  intro S H locs ls hP hD hS hl hf
  obtain ⟨on, role, wants, sndC, rcvC, nSent, nRcvd, lastF, found, sending, next, wanted, lastR, line, reader⟩ := S
  unfold wp_X2_removeWanted_24_3_v7 at hf
  refine lv_iload_n hx hb dX2_removeWanted_24 rfl (lv_at hl 2 rfl) ?_
  refine lv_aload_n hx hb dX2_removeWanted_25 rfl (lv_at hl 0 rfl) ?_
  refine va_get (D := (dC, dI)) (ci := 2) (v := .int wants) (C := RX2) (T := TX2) (N := 15) hx hb hts hinX2 hown hK.1 hP 0 rfl rfl 6 (by decide) w44 (fun _ h9 => h9) rfl dX2_removeWanted_26 ?_
  refine lv_icmp_ge (tgt := 52) hx hb dX2_removeWanted_29 (by decide) (fun c10 => ?_) (fun c10 => ?_)
  · replace hf := hf.1 c10
    refine lv_aload_n hx hb dX2_removeWanted_52 rfl (lv_at hl 0 rfl) ?_
    refine lv_dup hx hb dX2_removeWanted_53 rfl ?_
    refine va_get (D := (dC, dI)) (ci := 2) (v := .int wants) (C := RX2) (T := TX2) (N := 15) hx hb hts hinX2 hown hK.1 hP 0 rfl rfl 6 (by decide) w44 (fun _ h9 => h9) rfl dX2_removeWanted_54 ?_
    refine lv_iconst (v := 1) hx hb dX2_removeWanted_57 (by decide) ?_
    refine lv_isub hx hb dX2_removeWanted_58 ?_
    refine va_put (D := (dC, dI)) (ci := 2) (v := .int (wants - 1)) (ty := .int) (C := RX2) (T := TX2) (N := 15) hx hb hts hinX2 tyX2 tyX2_ok nmX2 hown hK.1 hP hD hS 0 rfl rfl 6 (by decide) w44 (fun _ h9 => h9) rfl (by decide +kernel) rfl rfl (Nat.le_of_ble_eq_true rfl) dX2_removeWanted_59 (fun H locs hP hD hS => ?_)
    have hP : va_P (dC, dI) vwCl (ndW y a (on, role, wants - 1, sndC, rcvC, nSent, nRcvd, lastF, found, sending, next, wanted, lastR, line, reader)) H := hP
    have hD : va_D A (ndW y a (on, role, wants - 1, sndC, rcvC, nSent, nRcvd, lastF, found, sending, next, wanted, lastR, line, reader)) := hD
    refine lv_aload_n hx hb dX2_removeWanted_62 rfl (lv_at hl 0 rfl) ?_
    refine va_get (D := (dC, dI)) (ci := 2) (v := .ref a.2.1) (C := RX2) (T := TX2) (N := 15) hx hb hts hinX2 hown hK.1 hP 0 rfl rfl 0 (by decide) w11 (fun _ h9 => h9) rfl dX2_removeWanted_63 ?_
    refine lv_aload_n hx hb dX2_removeWanted_66 rfl (lv_at hl 0 rfl) ?_
    refine va_get (D := (dC, dI)) (ci := 2) (v := .int (wants - 1)) (C := RX2) (T := TX2) (N := 15) hx hb hts hinX2 hown hK.1 hP 0 rfl rfl 6 (by decide) w44 (fun _ h9 => h9) rfl dX2_removeWanted_67 ?_
    refine lv_aload_n hx hb dX2_removeWanted_70 rfl (lv_at hl 1 rfl) ?_
    obtain ⟨hg9, hf0, hf1, hf2, hf3⟩ := hf
    rcases vin4 hg9 with e9 | e9 | e9 | e9
    · replace hf := hf0 e9
      refine nst (j := 0) (k := 2) hx hb hK.1 hP hD hS rfl (by rw [e9]; rfl) hg9 dX2_removeWanted_71 (fun H locs hP hD hS => ?_)
      exact hf.elim
    · replace hf := hf1 e9
      refine nst (j := 1) (k := 2) hx hb hK.1 hP hD hS rfl (by rw [e9]; rfl) hg9 dX2_removeWanted_71 (fun H locs hP hD hS => ?_)
      exact hf.elim
    · replace hf := hf2 e9
      refine nst (j := 2) (k := 2) hx hb hK.1 hP hD hS rfl (by rw [e9]; rfl) hg9 dX2_removeWanted_71 (fun H locs hP hD hS => ?_)
      have hP : va_P (dC, dI) vwCl (ndW y (aw a (va_up a.2.2.1 2 (a.2.2.1 2))) (on, role, wants - 1, sndC, rcvC, nSent, nRcvd, lastF, found, sending, next, wanted, lastR, line, reader)) H := hP.sub [0, 1, 2, 3, 4, 5, 6, 7, 8, 9, 10, 11] rfl
      have hD : va_D A (ndW y (aw a (va_up a.2.2.1 2 (a.2.2.1 2))) (on, role, wants - 1, sndC, rcvC, nSent, nRcvd, lastF, found, sending, next, wanted, lastR, line, reader)) := hD.sub [0, 1, 2, 3, 4, 5, 6, 7, 8, 9, 10, 11] (by decide) rfl
      exact W.vret hx hb hr (fun t ht hW => ⟨⟨((on, role, wants - 1, sndC, rcvC, nSent, nRcvd, lastF, found, sending, next, wanted, lastR, line, reader), va_up a.2.2.1 2 (a.2.2.1 2)), rfl, hf, by rw [ht]; exact hP, hD⟩, hS.F ht⟩) hS.2.2 dX2_removeWanted_72
    · replace hf := hf3 e9
      refine nst (j := 3) (k := 2) hx hb hK.1 hP hD hS rfl (by rw [e9]; rfl) hg9 dX2_removeWanted_71 (fun H locs hP hD hS => ?_)
      exact hf.elim
  · replace hf := hf.2 c10
    refine lv_aload_n hx hb dX2_removeWanted_32 rfl (lv_at hl 0 rfl) ?_
    refine va_get (D := (dC, dI)) (ci := 2) (v := .ref a.2.1) (C := RX2) (T := TX2) (N := 15) hx hb hts hinX2 hown hK.1 hP 0 rfl rfl 0 (by decide) w11 (fun _ h9 => h9) rfl dX2_removeWanted_33 ?_
    refine lv_iload_n hx hb dX2_removeWanted_36 rfl (lv_at hl 2 rfl) ?_
    refine lv_iconst (v := 1) hx hb dX2_removeWanted_37 (by decide) ?_
    refine lv_isub hx hb dX2_removeWanted_38 ?_
    refine fold_i (v := 2) (by decide) ?_
    refine lv_aload_n hx hb dX2_removeWanted_39 rfl (lv_at hl 0 rfl) ?_
    refine va_get (D := (dC, dI)) (ci := 2) (v := .ref a.2.1) (C := RX2) (T := TX2) (N := 15) hx hb hts hinX2 hown hK.1 hP 0 rfl rfl 0 (by decide) w11 (fun _ h9 => h9) rfl dX2_removeWanted_40 ?_
    refine lv_iload_n hx hb dX2_removeWanted_43 rfl (lv_at hl 2 rfl) ?_
    refine ar_qld (j := 3) hx hb hK.1 hP 1 3 rfl rfl (clamp_lit 3 rfl) (vin_lit 3 4 rfl rfl) dX2_removeWanted_44 ?_
    refine nst (j := 2) (k := 3) hx hb hK.1 hP hD hS rfl (clamp_lit 2 rfl) (vin_lit 2 4 rfl rfl) dX2_removeWanted_45 (fun H locs hP hD hS => ?_)
    refine lv_iinc (v := 4) (lv' := [(3, .int 4), (0, .ref a.1), (2, .ref (a.2.2.1 2))]) hx hb dX2_removeWanted_46 hl (k := 2) rfl (by decide) (by decide) rfl (fun ls hl => ?_)
    refine lv_goto (tgt := 24) hx hb dX2_removeWanted_49 (by decide) ?_
    exact j_X2_removeWanted_24_4_v8 C0 a K (on, role, wants, sndC, rcvC, nSent, nRcvd, lastF, found, sending, next, wanted, lastR, line, reader) H locs ls hP hD hS (lv_sub hl [1, 2, 0] rfl) hf
set_option maxHeartbeats 4000000 in
set_option maxRecDepth 100000 in
theorem j_X2_removeWanted_24_4_v9 {p : Program} {l : Launch} {e : Env} {s : State} {m : MethodId} {args : Array Value} {below : List Frame} {meth : Method} {c : Code} {dC : Nat → ClassId} {dI : Nat → Nat → Nat} {y : Nat → ClassId} {A : Nat → Prop} (C0 : Cx p s m args meth c cX2_removeWanted 4 none wsX2_removeWanted RX2 A dC dI y) (a : NodeA) (K : NodeS → Prop) : ∀ (S : NodeS) (H : Heap) (locs : List Loc) (ls : Array Slot), va_P (dC, dI) vwCl (ndW y a S) H → va_D A (ndW y a S) → va_S A s.heap H locs → lv_has ls 4 [(0, .ref a.1), (2, .ref (a.2.2.1 3)), (3, .int 4)] → wp_X2_removeWanted_24_4_v9 K S → W p l e ({ frames := 0, cells := 0, slots := 0, locals := 0 } : Room) s m args below meth c H locs 0 0 (MQ below (va_Qv (fun u => K u.1) (BW dC dI A (fun u : NodeS × (Nat → Nat) => ndW y (aw a u.2) u.1)) A) args s 0 0 A) (F0 m 24 ls []) := by
  obtain ⟨hx, hb, hr, hml, hown, hts, hlocks, hA, hK⟩ := id C0
  have w11 := hts (.fieldLink RX2 11 "SharedWire$Node" "wanted" "[LSharedWire$Frame;") (List.mem_of_getElem? (i := 2) rfl)
  have w44 := hts (.fieldLink RX2 44 "SharedWire$Node" "wants" "I") (List.mem_of_getElem? (i := 1) rfl)
  have hinX2 : ∀ w ∈ wsX20, w ∈ wsX2_removeWanted := fun w h => List.mem_cons_of_mem _ (List.mem_append_right _ (h))
  intro S H locs ls hP hD hS hl hf
  obtain ⟨on, role, wants, sndC, rcvC, nSent, nRcvd, lastF, found, sending, next, wanted, lastR, line, reader⟩ := S
  unfold wp_X2_removeWanted_24_4_v9 at hf
  refine lv_iload_n hx hb dX2_removeWanted_24 rfl (lv_at hl 2 rfl) ?_
  refine lv_aload_n hx hb dX2_removeWanted_25 rfl (lv_at hl 0 rfl) ?_
  refine va_get (D := (dC, dI)) (ci := 2) (v := .int wants) (C := RX2) (T := TX2) (N := 15) hx hb hts hinX2 hown hK.1 hP 0 rfl rfl 6 (by decide) w44 (fun _ h9 => h9) rfl dX2_removeWanted_26 ?_
  refine lv_icmp_ge (tgt := 52) hx hb dX2_removeWanted_29 (by decide) (fun c12 => ?_) (fun c12 => ?_)
  · replace hf := hf.1 c12
    refine lv_aload_n hx hb dX2_removeWanted_52 rfl (lv_at hl 0 rfl) ?_
    refine lv_dup hx hb dX2_removeWanted_53 rfl ?_
    refine va_get (D := (dC, dI)) (ci := 2) (v := .int wants) (C := RX2) (T := TX2) (N := 15) hx hb hts hinX2 hown hK.1 hP 0 rfl rfl 6 (by decide) w44 (fun _ h9 => h9) rfl dX2_removeWanted_54 ?_
    refine lv_iconst (v := 1) hx hb dX2_removeWanted_57 (by decide) ?_
    refine lv_isub hx hb dX2_removeWanted_58 ?_
    refine va_put (D := (dC, dI)) (ci := 2) (v := .int (wants - 1)) (ty := .int) (C := RX2) (T := TX2) (N := 15) hx hb hts hinX2 tyX2 tyX2_ok nmX2 hown hK.1 hP hD hS 0 rfl rfl 6 (by decide) w44 (fun _ h9 => h9) rfl (by decide +kernel) rfl rfl (Nat.le_of_ble_eq_true rfl) dX2_removeWanted_59 (fun H locs hP hD hS => ?_)
    have hP : va_P (dC, dI) vwCl (ndW y a (on, role, wants - 1, sndC, rcvC, nSent, nRcvd, lastF, found, sending, next, wanted, lastR, line, reader)) H := hP
    have hD : va_D A (ndW y a (on, role, wants - 1, sndC, rcvC, nSent, nRcvd, lastF, found, sending, next, wanted, lastR, line, reader)) := hD
    refine lv_aload_n hx hb dX2_removeWanted_62 rfl (lv_at hl 0 rfl) ?_
    refine va_get (D := (dC, dI)) (ci := 2) (v := .ref a.2.1) (C := RX2) (T := TX2) (N := 15) hx hb hts hinX2 hown hK.1 hP 0 rfl rfl 0 (by decide) w11 (fun _ h9 => h9) rfl dX2_removeWanted_63 ?_
    refine lv_aload_n hx hb dX2_removeWanted_66 rfl (lv_at hl 0 rfl) ?_
    refine va_get (D := (dC, dI)) (ci := 2) (v := .int (wants - 1)) (C := RX2) (T := TX2) (N := 15) hx hb hts hinX2 hown hK.1 hP 0 rfl rfl 6 (by decide) w44 (fun _ h9 => h9) rfl dX2_removeWanted_67 ?_
    refine lv_aload_n hx hb dX2_removeWanted_70 rfl (lv_at hl 1 rfl) ?_
    obtain ⟨hg9, hf0, hf1, hf2, hf3⟩ := hf
    rcases vin4 hg9 with e9 | e9 | e9 | e9
    · replace hf := hf0 e9
      refine nst (j := 0) (k := 3) hx hb hK.1 hP hD hS rfl (by rw [e9]; rfl) hg9 dX2_removeWanted_71 (fun H locs hP hD hS => ?_)
      exact hf.elim
    · replace hf := hf1 e9
      refine nst (j := 1) (k := 3) hx hb hK.1 hP hD hS rfl (by rw [e9]; rfl) hg9 dX2_removeWanted_71 (fun H locs hP hD hS => ?_)
      exact hf.elim
    · replace hf := hf2 e9
      refine nst (j := 2) (k := 3) hx hb hK.1 hP hD hS rfl (by rw [e9]; rfl) hg9 dX2_removeWanted_71 (fun H locs hP hD hS => ?_)
      exact hf.elim
    · replace hf := hf3 e9
      refine nst (j := 3) (k := 3) hx hb hK.1 hP hD hS rfl (by rw [e9]; rfl) hg9 dX2_removeWanted_71 (fun H locs hP hD hS => ?_)
      have hP : va_P (dC, dI) vwCl (ndW y (aw a (va_up a.2.2.1 3 (a.2.2.1 3))) (on, role, wants - 1, sndC, rcvC, nSent, nRcvd, lastF, found, sending, next, wanted, lastR, line, reader)) H := hP.sub [0, 1, 2, 3, 4, 5, 6, 7, 8, 9, 10, 11] rfl
      have hD : va_D A (ndW y (aw a (va_up a.2.2.1 3 (a.2.2.1 3))) (on, role, wants - 1, sndC, rcvC, nSent, nRcvd, lastF, found, sending, next, wanted, lastR, line, reader)) := hD.sub [0, 1, 2, 3, 4, 5, 6, 7, 8, 9, 10, 11] (by decide) rfl
      exact W.vret hx hb hr (fun t ht hW => ⟨⟨((on, role, wants - 1, sndC, rcvC, nSent, nRcvd, lastF, found, sending, next, wanted, lastR, line, reader), va_up a.2.2.1 3 (a.2.2.1 3)), rfl, hf, by rw [ht]; exact hP, hD⟩, hS.F ht⟩) hS.2.2 dX2_removeWanted_72
  · replace hf := hf.2 c12
    refine lv_aload_n hx hb dX2_removeWanted_32 rfl (lv_at hl 0 rfl) ?_
    refine va_get (D := (dC, dI)) (ci := 2) (v := .ref a.2.1) (C := RX2) (T := TX2) (N := 15) hx hb hts hinX2 hown hK.1 hP 0 rfl rfl 0 (by decide) w11 (fun _ h9 => h9) rfl dX2_removeWanted_33 ?_
    refine lv_iload_n hx hb dX2_removeWanted_36 rfl (lv_at hl 2 rfl) ?_
    refine lv_iconst (v := 1) hx hb dX2_removeWanted_37 (by decide) ?_
    refine lv_isub hx hb dX2_removeWanted_38 ?_
    refine fold_i (v := 3) (by decide) ?_
    refine lv_aload_n hx hb dX2_removeWanted_39 rfl (lv_at hl 0 rfl) ?_
    refine va_get (D := (dC, dI)) (ci := 2) (v := .ref a.2.1) (C := RX2) (T := TX2) (N := 15) hx hb hts hinX2 hown hK.1 hP 0 rfl rfl 0 (by decide) w11 (fun _ h9 => h9) rfl dX2_removeWanted_40 ?_
    refine lv_iload_n hx hb dX2_removeWanted_43 rfl (lv_at hl 2 rfl) ?_
    exact hf.elim
set_option maxHeartbeats 4000000 in
set_option maxRecDepth 100000 in
theorem c_X2_removeWanted (l : Launch) (dC : Nat → ClassId) (dI : Nat → Nat → Nat) (y : Nat → ClassId) (a : NodeA) (sz : Nat) (S : NodeS) (p0 : Int32) (K : NodeS → Prop) (hf : wp_X2_removeWanted S p0 K) : MV l yX2_removeWanted wsX2_removeWanted { frames := 0, cells := 0, slots := 0, locals := 0 } dC dI y [.ref a.1, .int p0] (ndW y a S) sz (fun u : NodeS × (Nat → Nat) => ndW y (aw a u.2) u.1) (fun u => K u.1) := by
  refine Met.ofW (cc := cX2_removeWanted) (maxL := 4) (ret := none) (by decide) rfl ?_
  intro p e s m args below meth c s₁ B hml hv
  obtain ⟨rfl, hsz, hP, hK, hD0⟩ := hv
  have hx := B.exec
  have hb := B.bytes
  have hr := B.returns
  have hts := atoms_spec (ws := wsX2_removeWanted) B.pre
  have hown : s.vm.findClass RX2 = some m.cls := findClass_of_methodNamed B.named
  have hlocks := B.notSynchronized
  subst hsz
  have hD := hD0.self (sz := s.heap.size)
  generalize hAe : va_A (ndW y a S) s.heap.size = A at hD ⊢
  have hA : ∀ q : Nat, s.heap.size ≤ q → A q := fun q h => by rw [← hAe]; exact Or.inr h
  have hS : va_S A s.heap s.heap [] := va_S.rf
  have C0 : Cx p s m [.ref a.1, .int p0].toArray meth c cX2_removeWanted 4 none wsX2_removeWanted RX2 A dC dI y := ⟨hx, hb, hr, hml, hown, hts, hlocks, hA, hK⟩
  have w11 := hts (.fieldLink RX2 11 "SharedWire$Node" "wanted" "[LSharedWire$Frame;") (List.mem_of_getElem? (i := 2) rfl)
  have w44 := hts (.fieldLink RX2 44 "SharedWire$Node" "wants" "I") (List.mem_of_getElem? (i := 1) rfl)
  have hinX2 : ∀ w ∈ wsX20, w ∈ wsX2_removeWanted := fun w h => List.mem_cons_of_mem _ (List.mem_append_right _ (h))
  have hl := lv_entry ([.ref a.1, .int p0]) (n := 4) (Nat.le_of_ble_eq_true rfl)
  rw [lg_entry_eq]
  generalize (lg_sl ([.ref a.1, .int p0]) ++ List.replicate (4 - (lg_sl ([.ref a.1, .int p0])).length) Slot.unset).toArray = ls at hl ⊢
  have hl : lv_has ls 4 [(0, .ref a.1), (1, .int p0)] := hl
  obtain ⟨on, role, wants, sndC, rcvC, nSent, nRcvd, lastF, found, sending, next, wanted, lastR, line, reader⟩ := S
  clear hAe hD0
  generalize hL0 : ([] : List Loc) = locs at hS ⊢
  unfold wp_X2_removeWanted at hf
  refine lv_iload_n hx hb dX2_removeWanted_0 rfl (lv_at hl 1 rfl) ?_
  refine lv_if_lt (tgt := 12) hx hb dX2_removeWanted_1 (by decide) (fun c1 => ?_) (fun c1 => ?_)
  · replace hf := hf.1 c1
    exact W.vret hx hb hr (fun t ht hW => ⟨⟨((on, role, wants, sndC, rcvC, nSent, nRcvd, lastF, found, sending, next, wanted, lastR, line, reader), a.2.2.1), rfl, hf, by rw [ht]; exact hP, hD⟩, hS.F ht⟩) hS.2.2 dX2_removeWanted_12
  · replace hf := hf.2 c1
    refine lv_iload_n hx hb dX2_removeWanted_4 rfl (lv_at hl 1 rfl) ?_
    refine lv_aload_n hx hb dX2_removeWanted_5 rfl (lv_at hl 0 rfl) ?_
    refine va_get (D := (dC, dI)) (ci := 2) (v := .int wants) (C := RX2) (T := TX2) (N := 15) hx hb hts hinX2 hown hK.1 hP 0 rfl rfl 6 (by decide) w44 (fun _ h9 => h9) rfl dX2_removeWanted_6 ?_
    refine lv_icmp_lt (tgt := 13) hx hb dX2_removeWanted_9 (by decide) (fun c2 => ?_) (fun c2 => ?_)
    · replace hf := hf.1 c2
      refine lv_aload_n hx hb dX2_removeWanted_13 rfl (lv_at hl 0 rfl) ?_
      refine va_get (D := (dC, dI)) (ci := 2) (v := .ref a.2.1) (C := RX2) (T := TX2) (N := 15) hx hb hts hinX2 hown hK.1 hP 0 rfl rfl 0 (by decide) w11 (fun _ h9 => h9) rfl dX2_removeWanted_14 ?_
      refine lv_iload_n hx hb dX2_removeWanted_17 rfl (lv_at hl 1 rfl) ?_
      obtain ⟨hg9, hf0, hf1, hf2, hf3⟩ := hf
      rcases vin4 hg9 with e9 | e9 | e9 | e9
      · replace hf := hf0 e9
        subst e9
        refine ar_qld (j := 0) hx hb hK.1 hP 1 3 rfl rfl (clamp_lit 0 rfl) (vin_lit 0 4 rfl rfl) dX2_removeWanted_18 ?_
        refine lv_astore_n (lv' := [(2, .ref (a.2.2.1 0)), (0, .ref a.1), (1, .int 0)]) hx hb dX2_removeWanted_19 rfl hl (by decide) rfl (fun ls hl => ?_)
        refine lv_iload_n hx hb dX2_removeWanted_20 rfl (lv_at hl 2 rfl) ?_
        refine lv_iconst (v := 1) hx hb dX2_removeWanted_21 (by decide) ?_
        refine lv_iadd hx hb dX2_removeWanted_22 ?_
        refine fold_i (v := 1) (by decide) ?_
        refine lv_istore_n (lv' := [(3, .int 1), (2, .ref (a.2.2.1 0)), (0, .ref a.1), (1, .int 0)]) hx hb dX2_removeWanted_23 rfl hl (by decide) rfl (fun ls hl => ?_)
        exact j_X2_removeWanted_24_1 C0 a K (on, role, wants, sndC, rcvC, nSent, nRcvd, lastF, found, sending, next, wanted, lastR, line, reader) s.heap locs ls hP hD hS (lv_sub hl [2, 1, 0] rfl) hf
      · replace hf := hf1 e9
        subst e9
        refine ar_qld (j := 1) hx hb hK.1 hP 1 3 rfl rfl (clamp_lit 1 rfl) (vin_lit 1 4 rfl rfl) dX2_removeWanted_18 ?_
        refine lv_astore_n (lv' := [(2, .ref (a.2.2.1 1)), (0, .ref a.1), (1, .int 1)]) hx hb dX2_removeWanted_19 rfl hl (by decide) rfl (fun ls hl => ?_)
        refine lv_iload_n hx hb dX2_removeWanted_20 rfl (lv_at hl 2 rfl) ?_
        refine lv_iconst (v := 1) hx hb dX2_removeWanted_21 (by decide) ?_
        refine lv_iadd hx hb dX2_removeWanted_22 ?_
        refine fold_i (v := 2) (by decide) ?_
        refine lv_istore_n (lv' := [(3, .int 2), (2, .ref (a.2.2.1 1)), (0, .ref a.1), (1, .int 1)]) hx hb dX2_removeWanted_23 rfl hl (by decide) rfl (fun ls hl => ?_)
        exact j_X2_removeWanted_24_2_v4 C0 a K (on, role, wants, sndC, rcvC, nSent, nRcvd, lastF, found, sending, next, wanted, lastR, line, reader) s.heap locs ls hP hD hS (lv_sub hl [2, 1, 0] rfl) hf
      · replace hf := hf2 e9
        subst e9
        refine ar_qld (j := 2) hx hb hK.1 hP 1 3 rfl rfl (clamp_lit 2 rfl) (vin_lit 2 4 rfl rfl) dX2_removeWanted_18 ?_
        refine lv_astore_n (lv' := [(2, .ref (a.2.2.1 2)), (0, .ref a.1), (1, .int 2)]) hx hb dX2_removeWanted_19 rfl hl (by decide) rfl (fun ls hl => ?_)
        refine lv_iload_n hx hb dX2_removeWanted_20 rfl (lv_at hl 2 rfl) ?_
        refine lv_iconst (v := 1) hx hb dX2_removeWanted_21 (by decide) ?_
        refine lv_iadd hx hb dX2_removeWanted_22 ?_
        refine fold_i (v := 3) (by decide) ?_
        refine lv_istore_n (lv' := [(3, .int 3), (2, .ref (a.2.2.1 2)), (0, .ref a.1), (1, .int 2)]) hx hb dX2_removeWanted_23 rfl hl (by decide) rfl (fun ls hl => ?_)
        exact j_X2_removeWanted_24_3_v7 C0 a K (on, role, wants, sndC, rcvC, nSent, nRcvd, lastF, found, sending, next, wanted, lastR, line, reader) s.heap locs ls hP hD hS (lv_sub hl [2, 1, 0] rfl) hf
      · replace hf := hf3 e9
        subst e9
        refine ar_qld (j := 3) hx hb hK.1 hP 1 3 rfl rfl (clamp_lit 3 rfl) (vin_lit 3 4 rfl rfl) dX2_removeWanted_18 ?_
        refine lv_astore_n (lv' := [(2, .ref (a.2.2.1 3)), (0, .ref a.1), (1, .int 3)]) hx hb dX2_removeWanted_19 rfl hl (by decide) rfl (fun ls hl => ?_)
        refine lv_iload_n hx hb dX2_removeWanted_20 rfl (lv_at hl 2 rfl) ?_
        refine lv_iconst (v := 1) hx hb dX2_removeWanted_21 (by decide) ?_
        refine lv_iadd hx hb dX2_removeWanted_22 ?_
        refine fold_i (v := 4) (by decide) ?_
        refine lv_istore_n (lv' := [(3, .int 4), (2, .ref (a.2.2.1 3)), (0, .ref a.1), (1, .int 3)]) hx hb dX2_removeWanted_23 rfl hl (by decide) rfl (fun ls hl => ?_)
        exact j_X2_removeWanted_24_4_v9 C0 a K (on, role, wants, sndC, rcvC, nSent, nRcvd, lastF, found, sending, next, wanted, lastR, line, reader) s.heap locs ls hP hD hS (lv_sub hl [2, 1, 0] rfl) hf
    · replace hf := hf.2 c2
      exact W.vret hx hb hr (fun t ht hW => ⟨⟨((on, role, wants, sndC, rcvC, nSent, nRcvd, lastF, found, sending, next, wanted, lastR, line, reader), a.2.2.1), rfl, hf, by rw [ht]; exact hP, hD⟩, hS.F ht⟩) hS.2.2 dX2_removeWanted_12

def wp_X2_endSending : NodeS → (NodeS → Prop) → Prop := fun (on, role, wants, sndC, rcvC, nSent, nRcvd, lastF, found, sending, next, wanted, lastR, line, reader) K => (∀ n1 : Int32, n1 = (if sndC - 1 < (0 : Int32) then (0 : Int32) else sndC - 1) → wp_X2_removeWanted (on, 1, wants, n1, rcvC, nSent + 1, nRcvd, lastF, found, sending, next, wanted, lastR, line, reader) sending (fun u2 => K u2))
set_option maxHeartbeats 4000000 in
set_option maxRecDepth 100000 in
theorem c_X2_endSending (l : Launch) (dC : Nat → ClassId) (dI : Nat → Nat → Nat) (y : Nat → ClassId) (a : NodeA) (sz : Nat) (S : NodeS) (K : NodeS → Prop) (hf : wp_X2_endSending S K) : MV l yX2_endSending wsX2_endSending { frames := 1, cells := 0, slots := 0, locals := 23 } dC dI y [.ref a.1] (ndW y a S) sz (fun u : NodeS × (Nat → Nat) => ndW y (aw a u.2) u.1) (fun u => K u.1) := by
  refine Met.ofW (cc := cX2_endSending) (maxL := 1) (ret := none) (by decide) rfl ?_
  intro p e s m args below meth c s₁ B hml hv
  obtain ⟨rfl, hsz, hP, hK, hD0⟩ := hv
  have hx := B.exec
  have hb := B.bytes
  have hr := B.returns
  have hts := atoms_spec (ws := wsX2_endSending) B.pre
  have hown : s.vm.findClass RX2 = some m.cls := findClass_of_methodNamed B.named
  have hlocks := B.notSynchronized
  subst hsz
  have hD := hD0.self (sz := s.heap.size)
  generalize hAe : va_A (ndW y a S) s.heap.size = A at hD ⊢
  have hA : ∀ q : Nat, s.heap.size ≤ q → A q := fun q h => by rw [← hAe]; exact Or.inr h
  have hS : va_S A s.heap s.heap [] := va_S.rf
  have C0 : Cx p s m [.ref a.1].toArray meth c cX2_endSending 1 none wsX2_endSending RX2 A dC dI y := ⟨hx, hb, hr, hml, hown, hts, hlocks, hA, hK⟩
  have w40 := hts (.fieldLink RX2 40 "SharedWire$Node" "role" "I") (List.mem_of_getElem? (i := 1) rfl)
  have w47 := hts (.fieldLink RX2 47 "SharedWire$Node" "sendingCount" "I") (List.mem_of_getElem? (i := 3) rfl)
  have w53 := hts (.fieldLink RX2 53 "SharedWire$Node" "framesSent" "I") (List.mem_of_getElem? (i := 2) rfl)
  have w65 := hts (.fieldLink RX2 65 "SharedWire$Node" "sending" "I") (List.mem_of_getElem? (i := 8) rfl)
  have w123 := hts (.methodLink RX2 123 Lib.Math.max.name) (List.mem_of_getElem? (i := 4) rfl)
  have hinX2 : ∀ w ∈ wsX20, w ∈ wsX2_endSending := fun w h => List.mem_cons_of_mem _ (List.mem_append_right _ (h))
  have hl := lv_entry ([.ref a.1]) (n := 1) (Nat.le_of_ble_eq_true rfl)
  rw [lg_entry_eq]
  generalize (lg_sl ([.ref a.1]) ++ List.replicate (1 - (lg_sl ([.ref a.1])).length) Slot.unset).toArray = ls at hl ⊢
  have hl : lv_has ls 1 [(0, .ref a.1)] := hl
  obtain ⟨on, role, wants, sndC, rcvC, nSent, nRcvd, lastF, found, sending, next, wanted, lastR, line, reader⟩ := S
  clear hAe hD0
  generalize hL0 : ([] : List Loc) = locs at hS ⊢
  unfold wp_X2_endSending at hf
  refine lv_aload_n hx hb dX2_endSending_0 rfl (lv_at hl 0 rfl) ?_
  refine lv_iconst (v := 1) hx hb dX2_endSending_1 (by decide) ?_
  refine va_put (D := (dC, dI)) (ci := 2) (v := .int 1) (ty := .int) (C := RX2) (T := TX2) (N := 15) hx hb hts hinX2 tyX2 tyX2_ok nmX2 hown hK.1 hP hD hS 0 rfl rfl 5 (by decide) w40 (fun _ h9 => h9) rfl (by decide +kernel) rfl rfl (Nat.le_of_ble_eq_true rfl) dX2_endSending_2 (fun H locs hP hD hS => ?_)
  have hP : va_P (dC, dI) vwCl (ndW y a (on, 1, wants, sndC, rcvC, nSent, nRcvd, lastF, found, sending, next, wanted, lastR, line, reader)) H := hP
  have hD : va_D A (ndW y a (on, 1, wants, sndC, rcvC, nSent, nRcvd, lastF, found, sending, next, wanted, lastR, line, reader)) := hD
  refine lv_aload_n hx hb dX2_endSending_5 rfl (lv_at hl 0 rfl) ?_
  refine lv_dup hx hb dX2_endSending_6 rfl ?_
  refine va_get (D := (dC, dI)) (ci := 2) (v := .int nSent) (C := RX2) (T := TX2) (N := 15) hx hb hts hinX2 hown hK.1 hP 0 rfl rfl 9 (by decide) w53 (fun _ h9 => h9) rfl dX2_endSending_7 ?_
  refine lv_iconst (v := 1) hx hb dX2_endSending_10 (by decide) ?_
  refine lv_iadd hx hb dX2_endSending_11 ?_
  refine va_put (D := (dC, dI)) (ci := 2) (v := .int (nSent + 1)) (ty := .int) (C := RX2) (T := TX2) (N := 15) hx hb hts hinX2 tyX2 tyX2_ok nmX2 hown hK.1 hP hD hS 0 rfl rfl 9 (by decide) w53 (fun _ h9 => h9) rfl (by decide +kernel) rfl rfl (Nat.le_of_ble_eq_true rfl) dX2_endSending_12 (fun H locs hP hD hS => ?_)
  have hP : va_P (dC, dI) vwCl (ndW y a (on, 1, wants, sndC, rcvC, nSent + 1, nRcvd, lastF, found, sending, next, wanted, lastR, line, reader)) H := hP
  have hD : va_D A (ndW y a (on, 1, wants, sndC, rcvC, nSent + 1, nRcvd, lastF, found, sending, next, wanted, lastR, line, reader)) := hD
  refine lv_aload_n hx hb dX2_endSending_15 rfl (lv_at hl 0 rfl) ?_
  refine lv_aload_n hx hb dX2_endSending_16 rfl (lv_at hl 0 rfl) ?_
  refine va_get (D := (dC, dI)) (ci := 2) (v := .int sndC) (C := RX2) (T := TX2) (N := 15) hx hb hts hinX2 hown hK.1 hP 0 rfl rfl 7 (by decide) w47 (fun _ h9 => h9) rfl dX2_endSending_17 ?_
  refine lv_iconst (v := 1) hx hb dX2_endSending_20 (by decide) ?_
  refine lv_isub hx hb dX2_endSending_21 ?_
  refine lv_iconst (v := 0) hx hb dX2_endSending_22 (by decide) ?_
  refine va_mmax hx hb (hml.trans hl.1.symm) hown w123 (hts (.static Lib.Math.max.name) (List.mem_of_getElem? (i := 5) rfl)) (hts (.initialized "java/lang/Math") (List.mem_of_getElem? (i := 6) rfl)) (hts (.code Lib.Math.max.name Lib.Math.max.code 2 (some .int)) (List.mem_of_getElem? (i := 7) rfl)) (Nat.le_of_ble_eq_true rfl) (Nat.le_of_ble_eq_true rfl) (Nat.zero_le _) (Nat.zero_le _) dX2_endSending_23 ?_
  refine lv_topi (fun n1 en1 => ?_)
  replace hf := hf n1 en1
  refine va_put (D := (dC, dI)) (ci := 2) (v := .int n1) (ty := .int) (C := RX2) (T := TX2) (N := 15) hx hb hts hinX2 tyX2 tyX2_ok nmX2 hown hK.1 hP hD hS 0 rfl rfl 7 (by decide) w47 (fun _ h9 => h9) rfl (by decide +kernel) rfl rfl (Nat.le_of_ble_eq_true rfl) dX2_endSending_26 (fun H locs hP hD hS => ?_)
  have hP : va_P (dC, dI) vwCl (ndW y a (on, 1, wants, n1, rcvC, nSent + 1, nRcvd, lastF, found, sending, next, wanted, lastR, line, reader)) H := hP
  have hD : va_D A (ndW y a (on, 1, wants, n1, rcvC, nSent + 1, nRcvd, lastF, found, sending, next, wanted, lastR, line, reader)) := hD
  refine lv_aload_n hx hb dX2_endSending_29 rfl (lv_at hl 0 rfl) ?_
  refine lv_aload_n hx hb dX2_endSending_30 rfl (lv_at hl 0 rfl) ?_
  refine va_get (D := (dC, dI)) (ci := 2) (v := .int sending) (C := RX2) (T := TX2) (N := 15) hx hb hts hinX2 hown hK.1 hP 0 rfl rfl 13 (by decide) w65 (fun _ h9 => h9) rfl dX2_endSending_31 ?_
  refine k0v (As := [.int sending]) (rest := []) ⟨hx, hb, hml, hown, hts⟩ (c_X2_removeWanted l dC dI y a H.size (on, 1, wants, n1, rcvC, nSent + 1, nRcvd, lastF, found, sending, next, wanted, lastR, line, reader) sending _ hf) (cwV 1 hts gX2_endSending_X2_removeWanted rfl rfl rfl (by decide +kernel) ⟨Nat.le_of_ble_eq_true rfl, Nat.le_of_ble_eq_true rfl⟩) hK hP hD (va_recv hK.1 hP (ci := 2) (q0 := 0) rfl rfl) hS hA rfl hl.1 rfl (Nat.le_of_ble_eq_true rfl) dX2_endSending_34 ⟨Nat.zero_le _, Nat.zero_le _⟩ (fun u2 H locs hf hP hD hS => ?_)
  have hP : va_P (dC, dI) vwCl (ndW y (aw a u2.2) u2.1) H := hP
  have hD : va_D A (ndW y (aw a u2.2) u2.1) := hD
  exact W.vret hx hb hr (fun t ht hW => ⟨⟨(u2.1, u2.2), rfl, hf, by rw [ht]; exact hP, hD⟩, hS.F ht⟩) hS.2.2 dX2_endSending_37

def wp_X2_endFrame_29 (K : NodeS → Prop) : NodeS → Prop := fun (on, role, wants, sndC, rcvC, nSent, nRcvd, lastF, found, sending, next, wanted, lastR, line, reader) => ((¬ role = 2 → K (on, role, wants, sndC, rcvC, nSent, nRcvd, lastF, found, sending, next, wanted, lastR, line, reader)) ∧ (role = 2 → wp_X3_isFinished reader (fun r3 => ((r3 = 0 → K (on, role, wants, sndC, rcvC, nSent, nRcvd, lastF, found, sending, next, wanted, lastR, line, reader)) ∧ (¬ r3 = 0 → wp_X2_endReading (on, role, wants, sndC, rcvC, nSent, nRcvd, lastF, found, sending, next, wanted, lastR, line, reader) (fun u6 => K u6))))))
def wp_X2_endFrame : NodeS → (NodeS → Prop) → Prop := fun (on, role, wants, sndC, rcvC, nSent, nRcvd, lastF, found, sending, next, wanted, lastR, line, reader) K => ((¬ role = 3 → wp_X2_endFrame_29 K (on, role, wants, sndC, rcvC, nSent, nRcvd, lastF, found, sending, next, wanted, lastR, line, reader)) ∧ (role = 3 → ((next < line.2.2.1 → wp_X2_endFrame_29 K (on, role, wants, sndC, rcvC, nSent, nRcvd, lastF, found, sending, next, wanted, lastR, line, reader)) ∧ (¬ next < line.2.2.1 → wp_X2_endSending (on, role, wants, sndC, rcvC, nSent, nRcvd, lastF, found, sending, next, wanted, lastR, line, reader) (fun u8 => K u8)))))
set_option maxHeartbeats 4000000 in
set_option maxRecDepth 100000 in
theorem j_X2_endFrame_29 {p : Program} {l : Launch} {e : Env} {s : State} {m : MethodId} {args : Array Value} {below : List Frame} {meth : Method} {c : Code} {dC : Nat → ClassId} {dI : Nat → Nat → Nat} {y : Nat → ClassId} {A : Nat → Prop} (C0 : Cx p s m args meth c cX2_endFrame 1 none wsX2_endFrame RX2 A dC dI y) (a : NodeA) (K : NodeS → Prop) : ∀ (S : NodeS) (H : Heap) (locs : List Loc) (ls : Array Slot), va_P (dC, dI) vwCl (ndW y a S) H → va_D A (ndW y a S) → va_S A s.heap H locs → lv_has ls 1 [(0, .ref a.1)] → wp_X2_endFrame_29 K S → W p l e ({ frames := 2, cells := 0, slots := 0, locals := 46 } : Room) s m args below meth c H locs 0 0 (MQ below (va_Qv (fun u => K u.1) (BW dC dI A (fun u : NodeS × (Nat → Nat) => ndW y (aw a u.2) u.1)) A) args s 0 0 A) (F0 m 29 ls []) := by
  obtain ⟨hx, hb, hr, hml, hown, hts, hlocks, hA, hK⟩ := id C0
  have w32 := hts (Cond.fieldLink RX2 32 "SharedWire$Node" "reader" "LSharedWire$Reader;") (List.mem_of_getElem? (i := 5) rfl)
  have w40 := hts (Cond.fieldLink RX2 40 "SharedWire$Node" "role" "I") (List.mem_of_getElem? (i := 1) rfl)
  have hinX2 : ∀ w ∈ wsX20, w ∈ wsX2_endFrame := fun w h => List.mem_cons_of_mem _ (List.mem_append_left _ (List.mem_append_left _ (List.mem_append_left _ (List.mem_append_right _ (h)))))
  intro S H locs ls hP hD hS hl hf
  obtain ⟨on, role, wants, sndC, rcvC, nSent, nRcvd, lastF, found, sending, next, wanted, lastR, line, reader⟩ := S
  unfold wp_X2_endFrame_29 at hf
  refine lv_aload_n hx hb dX2_endFrame_29 rfl (lv_at hl 0 rfl) ?_
  refine va_get (D := (dC, dI)) (ci := 2) (v := .int role) (C := RX2) (T := TX2) (N := 15) hx hb hts hinX2 hown hK.1 hP 0 rfl rfl 5 (by decide) w40 (fun _ h9 => h9) rfl dX2_endFrame_30 ?_
  refine lv_iconst (v := 2) hx hb dX2_endFrame_33 (by decide) ?_
  refine lv_icmp_ne (tgt := 51) hx hb dX2_endFrame_34 (by decide) (fun c2 => ?_) (fun c2 => ?_)
  · replace hf := hf.1 c2
    exact W.vret hx hb hr (fun t ht hW => ⟨⟨((on, role, wants, sndC, rcvC, nSent, nRcvd, lastF, found, sending, next, wanted, lastR, line, reader), a.2.2.1), rfl, hf, by rw [ht]; exact hP, hD⟩, hS.F ht⟩) hS.2.2 dX2_endFrame_51
  · replace hf := hf.2 c2
    refine lv_aload_n hx hb dX2_endFrame_37 rfl (lv_at hl 0 rfl) ?_
    refine va_get (D := (dC, dI)) (ci := 2) (v := .ref a.2.2.2.2.2.1) (C := RX2) (T := TX2) (N := 15) hx hb hts hinX2 hown hK.1 hP 0 rfl rfl 3 (by decide) w32 (fun _ h9 => h9) rfl dX2_endFrame_38 ?_
    refine kVi (As := []) (rest := []) (pre := (ndW y a (on, role, wants, sndC, rcvC, nSent, nRcvd, lastF, found, sending, next, wanted, lastR, line, reader)).take 10) (post := (ndW y a (on, role, wants, sndC, rcvC, nSent, nRcvd, lastF, found, sending, next, wanted, lastR, line, reader)).drop 12) ⟨hx, hb, hml, hown, hts⟩ (c_X3_isFinished l dC dI y a.2.2.2.2.2 H.size reader _ hf) (cwV 0 hts gX2_endFrame_X3_isFinished rfl rfl rfl (by decide +kernel) ⟨Nat.le_of_ble_eq_true rfl, Nat.le_of_ble_eq_true rfl⟩) hK hP hD (va_recv hK.1 hP (ci := 3) (q0 := 10) rfl rfl) hS hA rfl hl.1 rfl (Nat.le_of_ble_eq_true rfl) dX2_endFrame_41 ⟨Nat.zero_le _, Nat.zero_le _⟩ (fun r3 u4 H locs hf hP hD hS => ?_)
    obtain ⟨hf, e9⟩ := hf
    have e9 := e9.symm
    subst e9
    have hP : va_P (dC, dI) vwCl (ndW y a (on, role, wants, sndC, rcvC, nSent, nRcvd, lastF, found, sending, next, wanted, lastR, line, reader)) H := hP
    have hD : va_D A (ndW y a (on, role, wants, sndC, rcvC, nSent, nRcvd, lastF, found, sending, next, wanted, lastR, line, reader)) := hD
    refine lv_if_eq (tgt := 51) hx hb dX2_endFrame_44 (by decide) (fun c5 => ?_) (fun c5 => ?_)
    · replace hf := hf.1 c5
      exact W.vret hx hb hr (fun t ht hW => ⟨⟨((on, role, wants, sndC, rcvC, nSent, nRcvd, lastF, found, sending, next, wanted, lastR, line, reader), a.2.2.1), rfl, hf, by rw [ht]; exact hP, hD⟩, hS.F ht⟩) hS.2.2 dX2_endFrame_51
    · replace hf := hf.2 c5
      refine lv_aload_n hx hb dX2_endFrame_47 rfl (lv_at hl 0 rfl) ?_
      refine k0v (As := []) (rest := []) ⟨hx, hb, hml, hown, hts⟩ (c_X2_endReading l dC dI y a H.size (on, role, wants, sndC, rcvC, nSent, nRcvd, lastF, found, sending, next, wanted, lastR, line, reader) _ hf) (cwV 0 hts gX2_endFrame_X2_endReading rfl rfl rfl (by decide +kernel) ⟨Nat.le_of_ble_eq_true rfl, Nat.le_of_ble_eq_true rfl⟩) hK hP hD (va_recv hK.1 hP (ci := 2) (q0 := 0) rfl rfl) hS hA rfl hl.1 rfl (Nat.le_of_ble_eq_true rfl) dX2_endFrame_48 ⟨Nat.zero_le _, Nat.zero_le _⟩ (fun u6 H locs hf hP hD hS => ?_)
      have hP : va_P (dC, dI) vwCl (ndW y a u6) H := hP
      have hD : va_D A (ndW y a u6) := hD
      exact W.vret hx hb hr (fun t ht hW => ⟨⟨(u6, a.2.2.1), rfl, hf, by rw [ht]; exact hP, hD⟩, hS.F ht⟩) hS.2.2 dX2_endFrame_51
set_option maxHeartbeats 4000000 in
set_option maxRecDepth 100000 in
theorem c_X2_endFrame (l : Launch) (dC : Nat → ClassId) (dI : Nat → Nat → Nat) (y : Nat → ClassId) (a : NodeA) (sz : Nat) (S : NodeS) (K : NodeS → Prop) (hf : wp_X2_endFrame S K) : MV l yX2_endFrame wsX2_endFrame { frames := 2, cells := 0, slots := 0, locals := 46 } dC dI y [.ref a.1] (ndW y a S) sz (fun u : NodeS × (Nat → Nat) => ndW y (aw a u.2) u.1) (fun u => K u.1) := by
  refine Met.ofW (cc := cX2_endFrame) (maxL := 1) (ret := none) (by decide) rfl ?_
  intro p e s m args below meth c s₁ B hml hv
  obtain ⟨rfl, hsz, hP, hK, hD0⟩ := hv
  have hx := B.exec
  have hb := B.bytes
  have hr := B.returns
  have hts := atoms_spec (ws := wsX2_endFrame) B.pre
  have hown : s.vm.findClass RX2 = some m.cls := findClass_of_methodNamed B.named
  have hlocks := B.notSynchronized
  subst hsz
  have hD := hD0.self (sz := s.heap.size)
  generalize hAe : va_A (ndW y a S) s.heap.size = A at hD ⊢
  have hA : ∀ q : Nat, s.heap.size ≤ q → A q := fun q h => by rw [← hAe]; exact Or.inr h
  have hS : va_S A s.heap s.heap [] := va_S.rf
  have C0 : Cx p s m [.ref a.1].toArray meth c cX2_endFrame 1 none wsX2_endFrame RX2 A dC dI y := ⟨hx, hb, hr, hml, hown, hts, hlocks, hA, hK⟩
  have w25 := hts (Cond.fieldLink RX2 25 "SharedWire$Node" "line" "LSharedWire$Line;") (List.mem_of_getElem? (i := 3) rfl)
  have w40 := hts (Cond.fieldLink RX2 40 "SharedWire$Node" "role" "I") (List.mem_of_getElem? (i := 1) rfl)
  have w68 := hts (Cond.fieldLink RX2 68 "SharedWire$Node" "next" "I") (List.mem_of_getElem? (i := 2) rfl)
  have w104 := hts (Cond.fieldLink RX2 104 "SharedWire$Line" "length" "I") (List.mem_of_getElem? (i := 4) rfl)
  have hinX1 : ∀ w ∈ wsX10, w ∈ wsX2_endFrame := fun w h => List.mem_cons_of_mem _ (List.mem_append_left _ (List.mem_append_left _ (List.mem_append_right _ (h))))
  have hinX2 : ∀ w ∈ wsX20, w ∈ wsX2_endFrame := fun w h => List.mem_cons_of_mem _ (List.mem_append_left _ (List.mem_append_left _ (List.mem_append_left _ (List.mem_append_right _ (h)))))
  have hl := lv_entry ([.ref a.1]) (n := 1) (Nat.le_of_ble_eq_true rfl)
  rw [lg_entry_eq]
  generalize (lg_sl ([.ref a.1]) ++ List.replicate (1 - (lg_sl ([.ref a.1])).length) Slot.unset).toArray = ls at hl ⊢
  have hl : lv_has ls 1 [(0, .ref a.1)] := hl
  obtain ⟨on, role, wants, sndC, rcvC, nSent, nRcvd, lastF, found, sending, next, wanted, lastR, line, reader⟩ := S
  clear hAe hD0
  generalize hL0 : ([] : List Loc) = locs at hS ⊢
  unfold wp_X2_endFrame at hf
  refine lv_aload_n hx hb dX2_endFrame_0 rfl (lv_at hl 0 rfl) ?_
  refine va_get (D := (dC, dI)) (ci := 2) (v := .int role) (C := RX2) (T := TX2) (N := 15) hx hb hts hinX2 hown hK.1 hP 0 rfl rfl 5 (by decide) w40 (fun _ h9 => h9) rfl dX2_endFrame_1 ?_
  refine lv_iconst (v := 3) hx hb dX2_endFrame_4 (by decide) ?_
  refine lv_icmp_ne (tgt := 29) hx hb dX2_endFrame_5 (by decide) (fun c1 => ?_) (fun c1 => ?_)
  · replace hf := hf.1 c1
    exact j_X2_endFrame_29 C0 a K (on, role, wants, sndC, rcvC, nSent, nRcvd, lastF, found, sending, next, wanted, lastR, line, reader) s.heap locs ls hP hD hS (lv_sub hl [0] rfl) hf
  · replace hf := hf.2 c1
    refine lv_aload_n hx hb dX2_endFrame_8 rfl (lv_at hl 0 rfl) ?_
    refine va_get (D := (dC, dI)) (ci := 2) (v := .int next) (C := RX2) (T := TX2) (N := 15) hx hb hts hinX2 hown hK.1 hP 0 rfl rfl 14 (by decide) w68 (fun _ h9 => h9) rfl dX2_endFrame_9 ?_
    refine lv_aload_n hx hb dX2_endFrame_12 rfl (lv_at hl 0 rfl) ?_
    refine va_get (D := (dC, dI)) (ci := 2) (v := .ref a.2.2.2.2.1.1) (C := RX2) (T := TX2) (N := 15) hx hb hts hinX2 hown hK.1 hP 0 rfl rfl 2 (by decide) w25 (fun _ h9 => h9) rfl dX2_endFrame_13 ?_
    refine va_get (D := (dC, dI)) (ci := 1) (v := .int line.2.2.1) (C := RX1) (T := TX1) (N := 8) hx hb hts hinX1 hown hK.1 hP 7 rfl rfl 2 (by decide) w104 (fun _ h9 => h9) rfl dX2_endFrame_16 ?_
    refine lv_icmp_lt (tgt := 29) hx hb dX2_endFrame_19 (by decide) (fun c7 => ?_) (fun c7 => ?_)
    · replace hf := hf.1 c7
      exact j_X2_endFrame_29 C0 a K (on, role, wants, sndC, rcvC, nSent, nRcvd, lastF, found, sending, next, wanted, lastR, line, reader) s.heap locs ls hP hD hS (lv_sub hl [0] rfl) hf
    · replace hf := hf.2 c7
      refine lv_aload_n hx hb dX2_endFrame_22 rfl (lv_at hl 0 rfl) ?_
      refine k0v (As := []) (rest := []) ⟨hx, hb, hml, hown, hts⟩ (c_X2_endSending l dC dI y a s.heap.size (on, role, wants, sndC, rcvC, nSent, nRcvd, lastF, found, sending, next, wanted, lastR, line, reader) _ hf) (cwV 0 hts gX2_endFrame_X2_endSending rfl rfl rfl (by decide +kernel) ⟨Nat.le_of_ble_eq_true rfl, Nat.le_of_ble_eq_true rfl⟩) hK hP hD (va_recv hK.1 hP (ci := 2) (q0 := 0) rfl rfl) hS hA rfl hl.1 rfl (Nat.le_of_ble_eq_true rfl) dX2_endFrame_23 ⟨Nat.zero_le _, Nat.zero_le _⟩ (fun u8 H locs hf hP hD hS => ?_)
      have hP : va_P (dC, dI) vwCl (ndW y (aw a u8.2) u8.1) H := hP
      have hD : va_D A (ndW y (aw a u8.2) u8.1) := hD
      refine lv_goto (tgt := 51) hx hb dX2_endFrame_26 (by decide) ?_
      exact W.vret hx hb hr (fun t ht hW => ⟨⟨(u8.1, u8.2), rfl, hf, by rw [ht]; exact hP, hD⟩, hS.F ht⟩) hS.2.2 dX2_endFrame_51
