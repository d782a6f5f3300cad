/-! the reference makes a row: the same as the class's line -/
def PMS (k : Nat) : Prop := PM k ∨ PS k
/-- the finished row r goes with the line X before its tail -/
def FinR (M1 : ModelS) (r : Nat) (X : LineS) : Prop := ∃ n, X.2.2.1 = nI n ∧ n ≤ 147 ∧ (∀ j, j < n → M1.2.1 18 (200 * r + j) = X.1 j ∧ M1.2.1 19 (200 * r + j) = X.2.1 j) ∧ (∀ j, n ≤ j → j < n + 10 → M1.2.1 18 (200 * r + j) = 1) ∧ M1.2.1 19 (200 * r + n) = 200 ∧ M1.2.1 19 (200 * r + (n + 1)) = 201 ∧ (∀ j, n + 2 ≤ j → j < n + 10 → M1.2.1 19 (200 * r + j) = 200) ∧ M1.2.1 20 r = nI (n + 10)
def Row20 (r : Nat) (M M1 : ModelS) : Prop := ∀ q, q ≠ r → M1.2.1 20 q = M.2.1 20 q
theorem tail307 (K : ModelS → Prop) (r : Nat) (hr : r < 5) : ∀ (m fuel j : Nat) (M : ModelS) (pos : Nat) (v2 v4 v7 : Int32), j + m = 8 → m < fuel → pos + m ≤ 199 → v2 = nI r → v4 = nI pos → v7 = nI j →
    (∀ M1, Fr PM M M1 → RowK r M M1 → Row20 r M M1 → (∀ q, q < pos → M1.2.1 18 (200 * r + q) = M.2.1 18 (200 * r + q) ∧ M1.2.1 19 (200 * r + q) = M.2.1 19 (200 * r + q)) → (∀ q, pos ≤ q → q < pos + m → M1.2.1 18 (200 * r + q) = 1 ∧ M1.2.1 19 (200 * r + q) = 200) → M1.2.1 20 r = nI (pos + m) → K M1) → wp_X5_make_307 K fuel M v2 v4 v7 := by
  intro m
  induction m with
  | zero =>
    intro fuel j M pos v2 v4 v7 hj hf hp h2 h4 h7 h
    cases fuel with
    | zero => omega
    | succ f =>
      obtain ⟨mI, mA, mL⟩ := M
      unfold wp_X5_make_307
      refine ⟨fun _ => ⟨by rw [h2]; exact vp_in_nI hr (by decide), ?_⟩, fun h9 => absurd (by rw [h7, show j = 8 by omega]; decide) h9⟩
      rw [h2, h4, nI_clamp (by omega)]
      refine h _ ⟨fun _ _ => rfl, fun k hk => up_n (fun e => hk (Or.inr (Or.inr e))), rfl⟩ (fun q _ => ⟨rfl, rfl⟩) (fun q hq => pk_un hq) (fun q _ => ⟨rfl, rfl⟩) (fun q h1 h2 => absurd h2 (by omega)) pk_us
  | succ m ih =>
    intro fuel j M pos v2 v4 v7 hj hf hp h2 h4 h7 h
    cases fuel with
    | zero => omega
    | succ f =>
      have h3 : wp_X5_lay M v2 v4 1 200 (fun r20 u21 => (∀ n22 : Int32, n22 = v7 + 1 → wp_X5_make_307 K f (u21.1, u21.2.1, u21.2.2) v2 r20 n22)) := by
        refine wp_lay h2 h4 hr (by omega) (fun M1 hF e18 e19 e20 hR => ?_)
        intro n22 e22
        refine ih f (j + 1) M1 (pos + 1) v2 _ n22 (by omega) (by omega) (by omega) h2 rfl (by rw [e22, h7, nI_1]) (fun M2 gF gR g20 gk gn g20r => ?_)
        refine h M2 (hF.tr gF) (hR.tr gR) (fun q hq => (g20 q hq).trans (by rw [e20])) (fun q hq => ?_) (fun q h1 h2 => ?_) (by rw [g20r, show pos + 1 + m = pos + (m + 1) by omega])
        · obtain ⟨a1, a2⟩ := gk q (by omega)
          rw [a1, a2, e18, e19, pk_un (by omega), pk_un (by omega)]
          exact ⟨rfl, rfl⟩
        · by_cases e : q = pos
          · subst e
            obtain ⟨a1, a2⟩ := gk q (by omega)
            rw [a1, a2, e18, e19]
            exact ⟨pk_us, pk_us⟩
          · exact gn q (by omega) (by omega)
      obtain ⟨mI, mA, mL⟩ := M
      unfold wp_X5_make_307
      refine ⟨fun h9 => absurd h9 ?_, fun _ => h3⟩
      rw [h7, lit 8]
      exact fun q => absurd ((nI_leI (by omega) (by omega)).mp q) (by omega)
theorem MR_feed2 {M : ModelS} {r n : Nat} {X : LineS} {v4 v5 v6 b : Int32} (h : MR M r (app X b X.2.2.2.2.1) n v4 v5 v6) : MR M r (feed2 X b) n v4 v5 v6 := by
  rw [feed2_eq]
  exact h
theorem FB.same {M M1 : ModelS} {bs : List Int32} (h : FB M bs) (hF : Fr PM M M1) : FB M1 bs := by
  refine ⟨(hF.1 34 (by unfold PM; omega)).trans h.1, fun j x hx => ?_⟩
  rw [hF.2.1 33 (by unfold PM; omega)]
  exact h.2 j x hx
theorem lay272 {K : ModelS → Prop} {C : ModelS → Int32 → Int32 → Int32 → Int32 → Int32 → Prop} {M : ModelS} {v2 v4 v5 v6 v7 : Int32} (h : C M v2 v4 v5 v6 (v7 + 1)) : wp_X5_make_272 K C M v2 v4 v5 v6 v7 := by
  obtain ⟨mI, mA, mL⟩ := M
  unfold wp_X5_make_272
  intro n31 e31
  rw [e31]
  exact h
set_option maxHeartbeats 1000000 in
theorem lay176 (K : ModelS → Prop) (L0 : LineS) (B : List Int32) (hB : ∀ x ∈ B, isB x) (hlen : B.length ≤ 118) (r : Nat) (hr : r < 5) : ∀ (rest done : List Int32) (fuel : Nat) (M : ModelS) (n : Nat) (v2 v4 v5 v6 v7 : Int32), done ++ rest = B → rest.length < fuel → FB M B → v2 = nI r → v7 = nI done.length → n ≤ 150 →
    MR M r (if rest = [] then done.foldl feed (clr L0) else feed1 (done.foldl feed (clr L0))) n v4 v5 v6 → (∀ M1, Fr PM M M1 → RowK r M M1 → Row20 r M M1 → FinR M1 r (B.foldl feed (clr L0)) → K M1) → wp_X5_make_176 K fuel M v2 v4 v5 v6 v7 := by
  intro rest
  induction rest with
  | nil =>
    intro done fuel M n v2 v4 v5 v6 v7 hd hf hFB h2 h7 hn hMR h
    rw [List.append_nil] at hd
    subst hd
    rw [if_pos rfl] at hMR
    cases fuel with
    | zero => simp at hf
    | succ f =>
      have hLI := fold_LI done (clr_LI L0) hB
      obtain ⟨n2, hn2, hle⟩ := LI_len hLI (by omega)
      obtain ⟨m1, m2, m3, m4, m5⟩ := hMR
      have hnn : n2 = n := (nI_eq (by omega) (by omega)).mp (hn2.symm.trans m1)
      subst hnn
      have h3 : wp_X5_lay M v2 v4 1 200 (fun r14 u15 => wp_X5_lay (u15.1, u15.2.1, u15.2.2) v2 r14 1 201 (fun r16 u17 => wp_X5_make_307 K 1000 (u17.1, u17.2.1, u17.2.2) v2 r16 0)) := by
        refine wp_lay h2 m2 hr (by omega) (fun M1 aF a18 a19 a20 aR => ?_)
        refine wp_lay (M := M1) h2 rfl hr (by omega) (fun M2 bF b18 b19 b20 bR => ?_)
        refine tail307 K r hr 8 1000 0 M2 (n2 + 1 + 1) v2 _ 0 (by omega) (by omega) (by omega) h2 rfl rfl (fun M3 cF cR c20 ck cn c20r => ?_)
        refine h M3 ((aF.tr bF).tr cF) ((aR.tr bR).tr cR) (fun q hq => (c20 q hq).trans (by rw [b20, a20])) ⟨n2, m1, hle, fun j hj => ?_, fun j h8 h9 => ?_, ?_, ?_, fun j h8 h9 => ?_, ?_⟩
        · obtain ⟨k1, k2⟩ := ck j (by omega)
          rw [k1, k2, b18, b19, pk_un (by omega), pk_un (by omega), a18, a19, pk_un (by omega), pk_un (by omega)]
          exact m5 j hj
        · by_cases e1 : j = n2
          · subst e1
            rw [(ck j (by omega)).1, b18, pk_un (by omega), a18]
            exact pk_us
          · by_cases e2 : j = n2 + 1
            · subst e2
              rw [(ck (n2 + 1) (by omega)).1, b18]
              exact pk_us
            · exact (cn j (by omega) (by omega)).1
        · rw [(ck n2 (by omega)).2, b19, pk_un (by omega), a19]
          exact pk_us
        · rw [(ck (n2 + 1) (by omega)).2, b19]
          exact pk_us
        · exact (cn j (by omega) (by omega)).2
        · rw [c20r]
      obtain ⟨mI, mA, mL⟩ := M
      unfold wp_X5_make_176
      refine ⟨fun _ => h3, fun h9 => absurd ?_ h9⟩
      rw [h7, show mI 34 = nI done.length from hFB.1]
      exact nI_le (Nat.le_refl _) (by omega)
  | cons b rest ih =>
    intro done fuel M n v2 v4 v5 v6 v7 hd hf hFB h2 h7 hn hMR h
    rw [if_neg (by simp)] at hMR
    cases fuel with
    | zero => simp at hf
    | succ f =>
      have hBl : B.length = done.length + (rest.length + 1) := by rw [← hd]; simp
      have hdB : ∀ x ∈ done, isB x := fun x hx => hB x (by rw [← hd]; exact List.mem_append_left _ hx)
      have hbB : isB b := hB b (by rw [← hd]; exact List.mem_append_right _ List.mem_cons_self)
      have hLI := fold_LI done (clr_LI L0) hdB
      rw [Nat.zero_add] at hLI
      obtain ⟨n1, al1, hj1, q4, q5, q6, -⟩ := feed1_LJ hLI
      have hnn : n1 = n := (nI_eq (by omega) (by omega)).mp (hj1.1.symm.trans hMR.1)
      subst hnn
      have hLI2 := feed_LI (b := b) hLI hbB
      have hL2 : (done ++ [b]).foldl feed (clr L0) = feed (done.foldl feed (clr L0)) b := by rw [List.foldl_append]; rfl
      have hat : M.2.1 33 done.length = b := hFB.2 done.length b (by rw [← hd, List.getElem?_append_right (Nat.le_refl _), Nat.sub_self]; rfl)
      have h34 : M.1 34 = nI B.length := hFB.1
      have hv7 : vp_in v7 128 := by rw [h7]; exact vp_in_nI (by omega) (by decide)
      have hc7 : v7.toNatClampNeg = done.length := by rw [h7]; exact nI_clamp (by omega)
      -- behind the bit
      have go : ∀ (M1 : ModelS) (k0 : Int32), FB M1 B → MR M1 r (feed (done.foldl feed (clr L0)) b) (n1 + 1) (nI (n1 + 1)) k0 b → (∀ M2, Fr PM M1 M2 → RowK r M1 M2 → Row20 r M1 M2 → FinR M2 r (B.foldl feed (clr L0)) → K M2) → wp_X5_make_223 K (wp_X5_make_176 K f) M1 v2 (nI (n1 + 1)) v7 k0 := by
        intro M1 k0 gFB gMR gh
        have g33 : M1.2.1 33 done.length = b := gFB.2 done.length b (by rw [← hd, List.getElem?_append_right (Nat.le_refl _), Nat.sub_self]; rfl)
        have g34 : M1.1 34 = nI B.length := gFB.1
        have step : ∀ (M3 : ModelS) (n3 : Nat) (w4 w5 w6 : Int32), FB M3 B → n3 ≤ 150 → MR M3 r (if rest = [] then (done ++ [b]).foldl feed (clr L0) else feed1 ((done ++ [b]).foldl feed (clr L0))) n3 w4 w5 w6 → (∀ M2, Fr PM M3 M2 → RowK r M3 M2 → Row20 r M3 M2 → FinR M2 r (B.foldl feed (clr L0)) → K M2) → wp_X5_make_272 K (wp_X5_make_176 K f) M3 v2 w4 w5 w6 v7 := by
          intro M3 n3 w4 w5 w6 sFB sn sMR sh
          refine lay272 ?_
          exact ih (done ++ [b]) f M3 n3 v2 w4 w5 w6 (v7 + 1) (by rw [← hd]; simp) (by simpa using hf) sFB h2 (by rw [h7, nI_1]; simp) sn sMR sh
        have hlast : (feed (done.foldl feed (clr L0)) b).2.2.2.2.2.2.1 = b := by
          unfold feed
          rw [feed2_eq]
          exact app_last (feed1 (done.foldl feed (clr L0))) b (feed1 (done.foldl feed (clr L0))).2.2.2.2.1
        have hal : k0 = (feed (done.foldl feed (clr L0)) b).2.2.2.2.2.1 := gMR.2.2.1
        have stay : (rest = [] ∨ ¬ k0 = 5) → wp_X5_make_272 K (wp_X5_make_176 K f) M1 v2 (nI (n1 + 1)) k0 b v7 := by
          intro hs
          refine step M1 (n1 + 1) _ _ _ gFB (by omega) ?_ gh
          rw [hL2]
          by_cases e : rest = []
          · rw [if_pos e]
            exact gMR
          · rw [if_neg e]
            rcases hs with hs | hs
            · exact absurd hs e
            · unfold feed1
              rw [if_neg (fun q => hs (hal.trans q))]
              exact gMR
        have stuff : rest ≠ [] → k0 = 5 → wp_X5_lay M1 v2 (nI (n1 + 1)) (1 - b) (-1) (fun r34 u35 => wp_X5_make_272 K (wp_X5_make_176 K f) (u35.1, u35.2.1, u35.2.2) v2 r34 1 (1 - b) v7) := by
          intro e hk0
          refine wp_lay h2 rfl hr (by omega) (fun M3 dF d18 d19 d20 dR => ?_)
          refine step M3 (n1 + 1 + 1) _ _ _ (gFB.same dF) (by omega) ?_ (fun M2 eF eR e20 eN => gh M2 (dF.tr eF) (dR.tr eR) (fun q hq => (e20 q hq).trans (by rw [d20])) eN)
          rw [hL2, if_neg e]
          have hm := MR_app gMR d18 d19 hbB.sub (by omega)
          rw [if_neg hbB.ne] at hm
          unfold feed1
          rw [if_pos (hal.symm.trans hk0), hlast]
          exact hm
        obtain ⟨mI1, mA1, mL1⟩ := M1
        unfold wp_X5_make_223
        refine ⟨hv7, fun n29 e29 => ?_⟩
        have e29 : n29 = b := by rw [e29, hc7]; exact g33
        subst e29
        refine ⟨fun hk => stay (Or.inr hk), fun hk => ⟨fun hle => stay (Or.inl ?_), fun hle => ?_⟩⟩
        · rw [show mI1 34 = nI B.length from g34, h7, e1, pk_sub (by omega)] at hle
          have := (nI_leI (by omega) (by omega)).mp hle
          exact List.length_eq_zero_iff.mp (by omega)
        · intro n33 e33
          subst e33
          refine stuff (fun e => hle ?_) hk
          rw [show mI1 34 = nI B.length from g34, h7, e1, pk_sub (by omega)]
          have : rest.length = 0 := by rw [e]; rfl
          exact nI_le (by omega) (by omega)
      have h3 : wp_X5_lay M v2 v4 b v7 (fun r24 u25 => (vp_in v7 128 ∧ ((¬ (u25.2.1 33) v7.toNatClampNeg = v6 → wp_X5_make_223 K (wp_X5_make_176 K f) (u25.1, u25.2.1, u25.2.2) v2 r24 v7 1) ∧ ((u25.2.1 33) v7.toNatClampNeg = v6 → wp_X5_make_223 K (wp_X5_make_176 K f) (u25.1, u25.2.1, u25.2.2) v2 r24 v7 (v5 + 1))))) := by
        refine wp_lay h2 hMR.2.1 hr (by omega) (fun M1 aF a18 a19 a20 aR => ?_)
        have aFB := hFB.same aF
        have a33 : M1.2.1 33 v7.toNatClampNeg = b := by rw [hc7, aF.2.1 33 (by unfold PM; omega)]; exact hat
        have hm := MR_app (b := b) (p := v7) hMR a18 a19 hbB (by omega)
        have hfr : v7 = (feed1 (done.foldl feed (clr L0))).2.2.2.2.1 := by rw [h7, hj1.2.1]
        rw [hfr] at hm
        have hm2 := MR_feed2 hm
        have gh : ∀ M2, Fr PM M1 M2 → RowK r M1 M2 → Row20 r M1 M2 → FinR M2 r (B.foldl feed (clr L0)) → K M2 := fun M2 eF eR e20 eN => h M2 (aF.tr eF) (aR.tr eR) (fun q hq => (e20 q hq).trans (by rw [a20])) eN
        refine ⟨hv7, fun hne => ?_, fun heq => ?_⟩
        · rw [a33] at hne
          rw [if_neg hne] at hm2
          exact go M1 1 aFB hm2 gh
        · rw [a33] at heq
          rw [if_pos heq] at hm2
          exact go M1 (v5 + 1) aFB hm2 gh
      rw [← hat, ← hc7] at h3
      obtain ⟨mI, mA, mL⟩ := M
      unfold wp_X5_make_176
      refine ⟨fun h9 => absurd h9 ?_, fun _ => ⟨hv7, h3⟩⟩
      rw [h7, show mI 34 = nI B.length from h34]
      exact fun q => absurd ((nI_leI (by omega) (by omega)).mp q) (by omega)
