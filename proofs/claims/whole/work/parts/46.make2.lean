/-! the reference's make, whole -/
theorem RowK.ofS {r : Nat} {M M1 : ModelS} (h : Fr PS M M1) : RowK r M M1 := fun q _ => ⟨by rw [h.2.1 18 (by unfold PS; omega)], by rw [h.2.1 19 (by unfold PS; omega)]⟩
theorem Row20.ofS {r : Nat} {M M1 : ModelS} (h : Fr PS M M1) : Row20 r M M1 := fun q _ => by rw [h.2.1 20 (by unfold PS; omega)]
theorem Row20.tr {r : Nat} {M M1 M2 : ModelS} (h1 : Row20 r M M1) (h2 : Row20 r M1 M2) : Row20 r M M2 := fun q hq => (h2 q hq).trans (h1 q hq)
/-- what a make owes: only its row and the scratch change, and the row goes with X -/
def Mk (r : Nat) (M : ModelS) (X : LineS) (M1 : ModelS) : Prop := Fr PMS M M1 ∧ RowK r M M1 ∧ Row20 r M M1 ∧ FinR M1 r X
theorem Mk.say {r : Nat} {M M1 M2 : ModelS} {X : LineS} (h : Fr PS M M1) (h2 : Mk r M1 X M2) : Mk r M X M2 := ⟨(h.mono (fun _ q => Or.inr q)).tr h2.1, (RowK.ofS h).tr h2.2.1, (Row20.ofS h).tr h2.2.2.1, h2.2.2.2⟩
theorem FB.take {M : ModelS} {bs : List Int32} (h : FB M bs) : M.1 34 = nI bs.length := h.1
set_option maxHeartbeats 1000000 in
theorem crc130 (K : ModelS → Prop) (L0 : LineS) (B : List Int32) (hB : ∀ x ∈ B, isB x) (hlen : B.length ≤ 103) (r : Nat) (hr : r < 5) : ∀ (rest done : List Int32) (fuel : Nat) (M : ModelS) (v2 v3 v4 : Int32), done ++ rest = B → rest.length < fuel → FB M B → v2 = nI r → v3 = crc done → v4 = nI done.length →
    (∀ M1, Mk r M ((B ++ numB (crc B) 15).foldl feed (clr L0)) M1 → K M1) → wp_X5_make_130 K fuel M v2 v3 v4 := by
  intro rest
  induction rest with
  | nil =>
    intro done fuel M v2 v3 v4 hd hf hFB h2 h3 h4 h
    rw [List.append_nil] at hd
    subst hd
    cases fuel with
    | zero => simp at hf
    | succ f =>
      have hs : wp_X5_say M v3 15 (fun u12 => wp_X5_make_176 K 1000 (u12.1, u12.2.1, u12.2.2) v2 0 0 2 0) := by
        refine wp_say e15 hFB (by omega) (fun M1 sF sFB => ?_)
        rw [h3] at sFB
        have hne : numB (crc done) 15 ≠ [] := fun q => by
          have := numB_len (crc done) 15
          rw [q] at this
          exact absurd this (by decide)
        have hne2 : done ++ numB (crc done) 15 ≠ [] := fun q => hne (List.append_eq_nil_iff.mp q).2
        refine lay176 K L0 (done ++ numB (crc done) 15) (fun x hx => (List.mem_append.mp hx).elim (hB x) (numB_B _ _ x)) (by rw [List.length_append, numB_len]; omega) r hr (done ++ numB (crc done) 15) [] 1000 M1 0 v2 0 0 2 0 rfl (by rw [List.length_append, numB_len]; omega) sFB h2 rfl (by omega) ?_ (fun M2 tF tR t20 tN => h M2 (Mk.say sF ⟨tF.mono (fun _ q => Or.inl q), tR, t20, tN⟩))
        rw [if_neg hne2]
        have e : feed1 (([] : List Int32).foldl feed (clr L0)) = clr L0 := by
          show feed1 (clr L0) = clr L0
          unfold feed1
          exact if_neg (show ¬ (0 : Int32) = 5 by decide)
        rw [e]
        refine ⟨rfl, rfl, rfl, fun b hb => ?_, fun j hj => absurd hj (by omega)⟩
        constructor
        · intro q
          rcases hb with rfl | rfl <;> exact absurd q (by decide)
        · intro q
          exact absurd q hb.m1
      obtain ⟨mI, mA, mL⟩ := M
      unfold wp_X5_make_130
      refine ⟨fun _ => hs, fun h9 => absurd ?_ h9⟩
      rw [h4, show mI 34 = nI done.length from hFB.1]
      exact nI_le (Nat.le_refl _) (by omega)
  | cons b rest ih =>
    intro done fuel M v2 v3 v4 hd hf hFB h2 h3 h4 h
    cases fuel with
    | zero => simp at hf
    | succ f =>
      have hBl : B.length = done.length + (rest.length + 1) := by rw [← hd]; simp
      have hbB : isB b := hB b (by rw [← hd]; exact List.mem_append_right _ List.mem_cons_self)
      have hat : M.2.1 33 done.length = b := hFB.2 done.length b (by rw [← hd, List.getElem?_append_right (Nat.le_refl _), Nat.sub_self]; rfl)
      have hn : wp_X5_nextCheck v3 b (fun r37 => (∀ n38 : Int32, n38 = v4 + 1 → wp_X5_make_130 K f M v2 r37 n38)) := by
        refine wp_nc5 (by rw [h3]; exact crc_ck done) hbB ?_
        intro n38 e38
        refine ih (done ++ [b]) f M v2 _ n38 (by rw [← hd]; simp) (by simpa using hf) hFB h2 ?_ (by rw [e38, h4, nI_1]; simp) h
        rw [h3]
        unfold crc
        rw [List.foldl_append]
        rfl
      have h34 := hFB.1
      obtain ⟨mI, mA, mL⟩ := M
      unfold wp_X5_make_130
      refine ⟨fun h9 => absurd h9 ?_, fun _ => ⟨by rw [h4]; exact vp_in_nI (by omega) (by decide), ?_⟩⟩
      · rw [h4, show mI 34 = nI B.length from h34]
        exact fun q => absurd ((nI_leI (by omega) (by omega)).mp q) (by omega)
      · rw [show mA 33 v4.toNatClampNeg = b by rw [h4, nI_clamp (by omega)]; exact hat]
        exact hn
/-- the reference's place w holds this frame -/
def FrM (M : ModelS) (w : Nat) (F : FrameS) : Prop := M.2.1 10 w = F.1 ∧ M.2.1 11 w = F.2.1 ∧ M.2.2 12 w = F.2.2.1 ∧ M.2.1 13 w = F.2.2.2
theorem FrM.say {M M1 : ModelS} {w : Nat} {F : FrameS} (h : FrM M w F) (hF : Fr PS M M1) : FrM M1 w F := by
  obtain ⟨h1, h2, h3, h4⟩ := h
  refine ⟨?_, ?_, ?_, ?_⟩
  · rw [hF.2.1 10 (by unfold PS; omega)]; exact h1
  · rw [hF.2.1 11 (by unfold PS; omega)]; exact h2
  · rw [hF.2.2]; exact h3
  · rw [hF.2.1 13 (by unfold PS; omega)]; exact h4
set_option maxHeartbeats 1000000 in
theorem bytes87 (K : ModelS → Prop) (L0 : LineS) (F : FrameS) (sz : Nat) (hs : F.2.2.2 = nI sz) (h8 : sz ≤ 8) (w : Nat) (hw : w < 16) (r : Nat) (hr : r < 5) : ∀ (m j fuel : Nat) (M : ModelS) (bs : List Int32) (v1 v2 v3 : Int32), j + m = sz → m < fuel → FB M bs → (∀ x ∈ bs, isB x) → bs.length + 8 * m ≤ 103 → FrM M w F → v1 = nI w → v2 = nI r → v3 = nI j →
    (∀ M1, Mk r M (((bs ++ bytesB F.2.2.1 m j) ++ numB (crc (bs ++ bytesB F.2.2.1 m j)) 15).foldl feed (clr L0)) M1 → K M1) → wp_X5_make_87 K fuel M v1 v2 v3 := by
  intro m
  induction m with
  | zero =>
    intro j fuel M bs v1 v2 v3 hj hf hFB hB hl hFM h1 h2 h3 h
    cases fuel with
    | zero => omega
    | succ f =>
      have hin : vp_in v1 16 := by rw [h1]; exact vp_in_nI hw (by decide)
      have h' : ∀ M1, Mk r M ((bs ++ numB (crc bs) 15).foldl feed (clr L0)) M1 → K M1 := by
        intro M1 hM
        refine h M1 ?_
        rw [show bytesB F.2.2.1 0 j = [] from rfl, List.append_nil]
        exact hM
      have hc := crc130 K L0 bs hB (by omega) r hr bs [] 1000 M v2 0 0 rfl (by omega) hFB h2 rfl rfl h'
      have h13 := hFM.2.2.2
      obtain ⟨mI, mA, mL⟩ := M
      unfold wp_X5_make_87
      refine ⟨hin, fun _ => hc, fun h9 => absurd ?_ h9⟩
      rw [h1, nI_clamp (by omega), show mA 13 w = nI sz from h13.trans hs, h3, show j = sz by omega]
      exact nI_le (Nat.le_refl _) (by omega)
  | succ m ih =>
    intro j fuel M bs v1 v2 v3 hj hf hFB hB hl hFM h1 h2 h3 h
    cases fuel with
    | zero => omega
    | succ f =>
      have hin : vp_in v1 16 := by rw [h1]; exact vp_in_nI hw (by decide)
      have hsay : wp_X5_say M (byM F.2.2.1 j) 8 (fun u40 => (∀ n41 : Int32, n41 = v3 + 1 → wp_X5_make_87 K f (u40.1, u40.2.1, u40.2.2) v1 v2 n41)) := by
        rw [← byC_M F.2.2.1 j (by omega)]
        refine wp_say e8 hFB (by omega) (fun M1 sF sFB => ?_)
        intro n41 e41
        refine ih (j + 1) f M1 (bs ++ numB (byC F.2.2.1 j) 8) v1 v2 n41 (by omega) (by omega) sFB (fun x hx => (List.mem_append.mp hx).elim (hB x) (numB_B _ _ x)) (by rw [List.length_append, numB_len]; omega) (hFM.say sF) h1 h2 (by rw [e41, h3, nI_1]) (fun M2 hM => h M2 ?_)
        rw [show bytesB F.2.2.1 (m + 1) j = numB (byC F.2.2.1 j) 8 ++ bytesB F.2.2.1 m (j + 1) from rfl, ← List.append_assoc]
        exact Mk.say sF hM
      have h13 := hFM.2.2.2
      have h12 := hFM.2.2.1
      obtain ⟨mI, mA, mL⟩ := M
      unfold wp_X5_make_87
      refine ⟨hin, fun h9 => absurd h9 ?_, fun _ => ⟨hin, ?_⟩⟩
      · rw [h1, nI_clamp (by omega), show mA 13 w = nI sz from h13.trans hs, h3]
        exact fun q => absurd ((nI_leI (by omega) (by omega)).mp q) (by omega)
      · rw [h1, nI_clamp (by omega), show mL 12 w = F.2.2.1 from h12]
        unfold byM at hsay
        rw [← h1]
        rw [← h3] at hsay
        exact hsay
