/-! the reference's make, from its start -/
theorem make68 {K : ModelS → Prop} (L0 : LineS) {F : FrameS} {sz : Nat} (hs : F.2.2.2 = nI sz) (h8 : sz ≤ 8) {w : Nat} (hw : w < 16) {r : Nat} (hr : r < 5) {M : ModelS} {bs : List Int32} {v1 v2 : Int32} (hFB : FB M bs) (hB : ∀ x ∈ bs, isB x) (hl : bs.length ≤ 32) (hFM : FrM M w F) (h1 : v1 = nI w) (h2 : v2 = nI r)
    (h : ∀ M1, Mk r M (((bs ++ (numB 0 3 ++ bodyB F sz)) ++ numB (crc (bs ++ (numB 0 3 ++ bodyB F sz))) 15).foldl feed (clr L0)) M1 → K M1) : wp_X5_make_68 K M v1 v2 := by
  have hin : vp_in v1 16 := by rw [h1]; exact vp_in_nI hw (by decide)
  have hsay : wp_X5_say M 0 3 (fun u6 => (vp_in v1 16 ∧ wp_X5_say (u6.1, u6.2.1, u6.2.2) ((u6.2.1 13) v1.toNatClampNeg) 4 (fun u8 => wp_X5_make_87 K 1000 (u8.1, u8.2.1, u8.2.2) v1 v2 0))) := by
    refine wp_say e3 hFB (by omega) (fun M1 sF sFB => ⟨hin, ?_⟩)
    have hF1 := hFM.say sF
    rw [show M1.2.1 13 v1.toNatClampNeg = F.2.2.2 by rw [h1, nI_clamp (by omega)]; exact hF1.2.2.2]
    refine wp_say (M := M1) e4 sFB (by rw [List.length_append, numB_len]; omega) (fun M2 tF tFB => ?_)
    refine bytes87 K L0 F sz hs h8 w hw r hr sz 0 1000 M2 _ v1 v2 0 (by omega) (by omega) tFB (fun x hx => ?_) (by rw [List.length_append, List.length_append, numB_len, numB_len]; omega) (hF1.say tF) h1 h2 rfl (fun M3 hM => h M3 ?_)
    · rcases List.mem_append.mp hx with hx | hx
      · rcases List.mem_append.mp hx with hx | hx
        · exact hB x hx
        · exact numB_B _ _ x hx
      · exact numB_B _ _ x hx
    · have e : bs ++ (numB 0 3 ++ bodyB F sz) = ((bs ++ numB 0 3) ++ numB F.2.2.2 4) ++ bytesB F.2.2.1 sz 0 := by
        unfold bodyB
        simp [List.append_assoc]
      rw [e]
      exact Mk.say (sF.tr tF) hM
  obtain ⟨mI, mA, mL⟩ := M
  unfold wp_X5_make_68
  exact hsay
theorem wp_make {K : ModelS → Prop} (L0 : LineS) {F : FrameS} {sz : Nat} (hs : F.2.2.2 = nI sz) (h8 : sz ≤ 8) {w : Nat} (hw : w < 16) {r : Nat} (hr : r < 5) {M : ModelS} {v1 v2 : Int32} (hFM : FrM M w F) (h1 : v1 = nI w) (h2 : v2 = nI r)
    (h : ∀ M1, Mk r M ((fullB F sz).foldl feed (clr L0)) M1 → K M1) : wp_X5_make M v1 v2 K := by
  have hin : vp_in v1 16 := by rw [h1]; exact vp_in_nI hw (by decide)
  have hcl : v1.toNatClampNeg = w := by rw [h1]; exact nI_clamp (by omega)
  have hF0 : Fr PS M (va_up M.1 34 0, M.2.1, M.2.2) := ⟨fun k hk => up_n (fun e => hk (Or.inr e)), fun _ _ => rfl, rfl⟩
  have hB0 : FB (va_up M.1 34 0, M.2.1, M.2.2) [] := ⟨rfl, fun j x hx => absurd hx (by simp)⟩
  have hsay : wp_X5_say (va_up M.1 34 0, M.2.1, M.2.2) 0 1 (fun u1 => (vp_in v1 16 ∧ (((u1.2.1 10) v1.toNatClampNeg = 0 → (vp_in v1 16 ∧ wp_X5_say (u1.1, u1.2.1, u1.2.2) ((u1.2.1 11) v1.toNatClampNeg) 11 (fun u5 => wp_X5_make_68 K (u5.1, u5.2.1, u5.2.2) v1 v2))) ∧ (¬ (u1.2.1 10) v1.toNatClampNeg = 0 → (vp_in v1 16 ∧ wp_X5_say (u1.1, u1.2.1, u1.2.2) (((u1.2.1 11) v1.toNatClampNeg) >>> (18 &&& 31)) 11 (fun u43 => wp_X5_say (u43.1, u43.2.1, u43.2.2) 3 2 (fun u44 => wp_X5_make_41 K (u44.1, u44.2.1, u44.2.2) v1 v2))))))) := by
    refine wp_say e1 hB0 (by simp) (fun M1 sF sFB => ⟨hin, ?_⟩)
    have hF1 := (hFM.say hF0).say sF
    rw [List.nil_append] at sFB
    rw [hcl, hF1.1, hF1.2.1]
    unfold fullB allB headB idB at h
    refine ⟨fun hz => ⟨hin, ?_⟩, fun hz => ⟨hin, ?_⟩⟩
    · rw [if_pos hz] at h
      refine wp_say (M := M1) e11 sFB (by rw [numB_len]; omega) (fun M2 tF tFB => ?_)
      refine make68 L0 hs h8 hw hr (M := M2) tFB (fun x hx => (List.mem_append.mp hx).elim (numB_B _ _ x) (numB_B _ _ x)) (by rw [List.length_append, numB_len, numB_len]; omega) (hF1.say tF) h1 h2 (fun M3 hM => h M3 ?_)
      have e : (numB 0 1 ++ (numB F.2.1 11 ++ numB 0 3)) ++ bodyB F sz = (numB 0 1 ++ numB F.2.1 11) ++ (numB 0 3 ++ bodyB F sz) := by simp [List.append_assoc]
      rw [e]
      exact Mk.say ((hF0.tr sF).tr tF) hM
    · rw [if_neg hz] at h
      refine wp_say (M := M1) e11 sFB (by rw [numB_len]; omega) (fun M2 tF tFB => ?_)
      refine wp_say (M := M2) e2 tFB (by rw [List.length_append, numB_len, numB_len]; omega) (fun M3 uF uFB => ?_)
      have hF3 := (hF1.say tF).say uF
      have h4 : wp_X5_say M3 F.2.1 18 (fun u46 => wp_X5_make_68 K (u46.1, u46.2.1, u46.2.2) v1 v2) := by
        refine wp_say (M := M3) e18 uFB (by rw [List.length_append, List.length_append, numB_len, numB_len, numB_len]; omega) (fun M4 vF vFB => ?_)
        refine make68 L0 hs h8 hw hr (M := M4) vFB (fun x hx => ?_) (by rw [List.length_append, List.length_append, List.length_append, numB_len, numB_len, numB_len, numB_len]; omega) (hF3.say vF) h1 h2 (fun M5 hM => h M5 ?_)
        · rcases List.mem_append.mp hx with hx | hx
          · rcases List.mem_append.mp hx with hx | hx
            · exact (List.mem_append.mp hx).elim (numB_B _ _ x) (numB_B _ _ x)
            · exact numB_B _ _ x hx
          · exact numB_B _ _ x hx
        · have e : (numB 0 1 ++ (numB (F.2.1 >>> (18 &&& 31)) 11 ++ (numB 3 2 ++ numB F.2.1 18) ++ numB 0 3)) ++ bodyB F sz = (((numB 0 1 ++ numB (F.2.1 >>> (18 &&& 31)) 11) ++ numB 3 2) ++ numB F.2.1 18) ++ (numB 0 3 ++ bodyB F sz) := by simp [List.append_assoc]
          rw [e]
          exact Mk.say ((((hF0.tr sF).tr tF).tr uF).tr vF) hM
      obtain ⟨mI, mA, mL⟩ := M3
      unfold wp_X5_make_41
      refine ⟨hin, ?_⟩
      rw [show (mI, mA, mL).2.1 11 v1.toNatClampNeg = F.2.1 by rw [hcl]; exact hF3.2.1]
      exact h4
  obtain ⟨mI, mA, mL⟩ := M
  unfold wp_X5_make
  exact hsay
