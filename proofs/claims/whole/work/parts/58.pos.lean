/-! a line's places -/
/-- below n nothing changes -/
def Pre (n : Nat) (L L1 : LineS) : Prop := ∀ j, j < n → L1.1 j = L.1 j ∧ L1.2.1 j = L.2.1 j
theorem Pre.rf {n : Nat} {L : LineS} : Pre n L L := fun _ _ => ⟨rfl, rfl⟩
theorem Pre.tr {n m : Nat} {L L1 L2 : LineS} (h1 : Pre n L L1) (h2 : Pre m L1 L2) (h : n ≤ m) : Pre n L L2 := fun j hj => ⟨(h2 j (by omega)).1.trans (h1 j hj).1, (h2 j (by omega)).2.trans (h1 j hj).2⟩
theorem app_pre {L : LineS} {n : Nat} {b p : Int32} (h : L.2.2.1 = nI n) (hn : n < 1000) : Pre n L (app L b p) ∧ (app L b p).1 n = b ∧ (app L b p).2.1 n = p := by
  have c : L.2.2.1.toNatClampNeg = n := pk_cl n h
  refine ⟨fun j hj => ?_, ?_, ?_⟩
  · rw [app_bits, app_places, c, pk_un (by omega), pk_un (by omega)]
    exact ⟨rfl, rfl⟩
  · rw [app_bits, c, pk_us]
  · rw [app_places, c, pk_us]
theorem feed2_pre {L : LineS} {n : Nat} {b : Int32} (h : L.2.2.1 = nI n) (hn : n < 1000) : Pre n L (feed2 L b) ∧ (feed2 L b).1 n = b ∧ (feed2 L b).2.1 n = L.2.2.2.2.1 ∧ (feed2 L b).2.2.1 = nI (n + 1) ∧ (feed2 L b).2.2.2.2.2.1 = (if b = L.2.2.2.2.2.2.1 then L.2.2.2.2.2.1 + 1 else 1) ∧ (feed2 L b).2.2.2.2.2.2.1 = b := by
  have h1 := app_pre (b := b) (p := L.2.2.2.2.1) h hn
  rw [feed2_eq]
  refine ⟨h1.1, h1.2.1, h1.2.2, ?_, ?_, ?_⟩
  · show (app L b L.2.2.2.2.1).2.2.1 = _
    rw [app_len, h, nI_1]
  · show (app L b L.2.2.2.2.1).2.2.2.2.2.1 = _
    rw [app_alike]
  · show (app L b L.2.2.2.2.1).2.2.2.2.2.2.1 = _
    rw [app_last]
theorem feed1_pre {L : LineS} {n : Nat} (h : L.2.2.1 = nI n) (hn : n < 1000) : Pre n L (feed1 L) := by
  unfold feed1
  split
  · exact (app_pre h hn).1
  · exact Pre.rf
/-- what a line's length says -/
theorem LI_n {L : LineS} {k n : Nat} (h : LI L k) (hk : k ≤ 118) (hn : L.2.2.1 = nI n) (h2 : n < 2 ^ 31) : n ≤ 147 ∧ k ≤ n := by
  obtain ⟨m, al, h1, -, -, h4, -, h6, -⟩ := h
  have : n = m := (nI_eq h2 (by omega)).mp (hn.symm.trans h1)
  omega
theorem fold_pre : ∀ (bs : List Int32) (L : LineS) (k n : Nat), LI L k → k + bs.length ≤ 118 → (∀ x ∈ bs, isB x) → L.2.2.1 = nI n → n ≤ 147 → Pre n L (bs.foldl feed L) ∧ ∃ m, (bs.foldl feed L).2.2.1 = nI m ∧ n + bs.length ≤ m ∧ m ≤ 147
  | [], L, k, n, hL, hk, hB, hn, h147 => ⟨Pre.rf, n, hn, Nat.le_refl _, h147⟩
  | b :: bs, L, k, n, hL, hk, hB, hn, h147 => by
    have hk' : k + (bs.length + 1) ≤ 118 := hk
    have hbB := hB b List.mem_cons_self
    have hL2 := feed_LI (b := b) hL hbB
    obtain ⟨n1, al1, hj1, q4, q5, q6, -⟩ := feed1_LJ hL
    have p1 : Pre n L (feed1 L) := feed1_pre hn (by omega)
    have hn1 : n ≤ n1 := by
      have h := hj1.1
      unfold feed1 at h
      split at h
      · rw [app_len, hn, nI_1] at h
        have := (nI_eq (by omega) (by omega)).mp h
        omega
      · rw [hn] at h
        have := (nI_eq (by omega) (by omega)).mp h
        omega
    have p2 := feed2_pre (b := b) hj1.1 (by omega)
    have p12 : Pre n L (feed L b) := p1.tr p2.1 hn1
    have hlen : (feed L b).2.2.1 = nI (n1 + 1) := p2.2.2.2.1
    have hle := LI_n hL2 (by omega) hlen (by omega)
    obtain ⟨r1, m, r2, r3, r4⟩ := fold_pre bs (feed L b) (k + 1) (n1 + 1) hL2 (by omega) (fun x hx => hB x (List.mem_cons_of_mem _ hx)) hlen hle.1
    refine ⟨p12.tr r1 (by omega), m, r2, ?_, r4⟩
    show n + (bs.length + 1) ≤ m
    omega
/-- all bits on a line are bits -/
def LBt (L : LineS) : Prop := ∀ n, L.2.2.1 = nI n → n ≤ 157 → ∀ j, j < n → isB (L.1 j)
theorem app_LBt {L : LineS} {n : Nat} {b p : Int32} (hn : L.2.2.1 = nI n) (h157 : n < 157) (hb : isB b) (h : LBt L) : LBt (app L b p) := by
  intro n' hn' hle j hj
  rw [app_len, hn, nI_1] at hn'
  have e := (nI_eq (by omega) (by omega)).mp hn'
  have h1 := app_pre (b := b) (p := p) hn (by omega)
  by_cases hjn : j = n
  · subst hjn
    rw [h1.2.1]
    exact hb
  · rw [(h1.1 j (by omega)).1]
    exact h n hn (by omega) j (by omega)
theorem feed_LBt {L : LineS} {k : Nat} {b : Int32} (hL : LI L k) (hk : k + 1 ≤ 118) (hb : isB b) (h : LBt L) : LBt (feed L b) := by
  obtain ⟨n0, al0, g1, g2, g3, g4, g5, g6, g7, g8⟩ := hL
  have hL : LI L k := ⟨n0, al0, g1, g2, g3, g4, g5, g6, g7, g8⟩
  obtain ⟨n1, al1, hj1, q4, q5, q6, -⟩ := feed1_LJ hL
  have h1 : LBt (feed1 L) := by
    unfold feed1
    by_cases h5 : L.2.2.2.2.2.1 = 5
    · rw [if_pos h5]
      have : al0 = 5 := (five_iff g3 g5).mp h5
      exact app_LBt g1 (by omega) (g8 (by omega)).sub h
    · rw [if_neg h5]
      exact h
  have h2 : LBt (app (feed1 L) b (feed1 L).2.2.2.2.1) := app_LBt hj1.1 (by omega) hb h1
  unfold feed
  rw [feed2_eq]
  exact h2
theorem fold_LBt : ∀ (bs : List Int32) (L : LineS) (k : Nat), LI L k → k + bs.length ≤ 118 → (∀ x ∈ bs, isB x) → LBt L → LBt (bs.foldl feed L)
  | [], _, _, _, _, _, h => h
  | b :: bs, L, k, hL, hk, hB, h => by
    have hk' : k + (bs.length + 1) ≤ 118 := hk
    exact fold_LBt bs (feed L b) (k + 1) (feed_LI hL (hB b List.mem_cons_self)) (by omega) (fun x hx => hB x (List.mem_cons_of_mem _ hx)) (feed_LBt hL (by omega) (hB b List.mem_cons_self) h)
theorem tailL_facts : ∀ (m : Nat) (L : LineS) (n : Nat), L.2.2.1 = nI n → n + m < 1000 → (tailL m L).2.2.1 = nI (n + m) ∧ (tailL m L).2.2.2.2.1 = L.2.2.2.2.1 ∧ Pre n L (tailL m L) ∧ ∀ j, n ≤ j → j < n + m → (tailL m L).1 j = 1 ∧ (tailL m L).2.1 j = L.2.2.2.2.1
  | 0, L, n, h, _ => ⟨h, rfl, Pre.rf, fun j a b => absurd b (by omega)⟩
  | m + 1, L, n, h, hm => by
    have h1 := app_pre (b := 1) (p := L.2.2.2.2.1) h (by omega)
    obtain ⟨a1, a2, a3, a4⟩ := tailL_facts m (app L 1 L.2.2.2.2.1) (n + 1) (by rw [app_len, h, nI_1]) (by omega)
    rw [app_framed] at a2 a4
    have e : tailL (m + 1) L = tailL m (app L 1 L.2.2.2.2.1) := rfl
    rw [e]
    refine ⟨by rw [a1, show n + 1 + m = n + (m + 1) by omega], a2, h1.1.tr a3 (by omega), fun j hj1 hj2 => ?_⟩
    by_cases hj : j = n
    · subst hj
      obtain ⟨b1, b2⟩ := a3 j (by omega)
      rw [b1, b2]
      exact ⟨h1.2.1, h1.2.2⟩
    · exact a4 j (by omega) (by omega)
/-- the bits of a frame as they lie before the tail -/
abbrev xb (L0 : LineS) (F : FrameS) (sz : Nat) : LineS := (fullB F sz).foldl feed (clr L0)
theorem fullB_le {F : FrameS} {sz : Nat} (h8 : sz ≤ 8) : (fullB F sz).length ≤ 118 ∧ hlen F + 19 ≤ (fullB F sz).length := by
  have := hlen_le F
  rw [fullB_len]
  omega
theorem fullB_0 (F : FrameS) (sz : Nat) : ∃ r, fullB F sz = 0 :: r := by
  unfold fullB allB headB
  exact ⟨_, rfl⟩
theorem clr_LBt (L : LineS) : LBt (clr L) := by
  intro n hn hle j hj
  have : n = 0 := (nI_eq (a := n) (b := 0) (by omega) (by omega)).mp hn.symm
  omega
/-- a frame's line, place by place -/
theorem wln_facts {L0 : LineS} {F : FrameS} {sz n : Nat} (h8 : sz ≤ 8) (hn : (xb L0 F sz).2.2.1 = nI n) (h147 : n ≤ 147) : (wln L0 F sz).2.2.1 = nI (n + 10) ∧ (wln L0 F sz).2.2.2.1 = nI (hlen F) ∧ Pre n (xb L0 F sz) (wln L0 F sz) ∧ (∀ j, n ≤ j → j < n + 10 → (wln L0 F sz).1 j = 1 ∧ (wln L0 F sz).2.1 j = nI (fullB F sz).length) ∧ ∀ j, j < n → isB ((xb L0 F sz).1 j) := by
  have hLI := fold_LI (fullB F sz) (clr_LI L0) (fullB_B F sz)
  have hl := fullB_le (F := F) h8
  have hB := fold_LBt (fullB F sz) (clr L0) 0 (clr_LI L0) (by omega) (fullB_B F sz) (clr_LBt L0)
  rw [wln_eq]
  obtain ⟨a1, a2, a3, a4⟩ := tailL_facts 10 (xb L0 F sz) n hn (by omega)
  refine ⟨a1, rfl, a3, fun j h1 h2 => ⟨(a4 j h1 h2).1, ?_⟩, fun j hj => hB n hn (by omega) j hj⟩
  obtain ⟨m, al, -, h2', -⟩ := hLI
  refine (a4 j h1 h2).2.trans ?_
  rw [h2', Nat.zero_add]
/-- where a sender is: its line up to p is sent, and its own reader goes with it as long as it may lose -/
def Pos (B : List Int32) (L0 : LineS) (n p : Nat) (R : ReaderS) (ρ : RowS) : Prop := (∃ (done rest : List Int32) (X : LineS), done ++ rest = B ∧ (X = done.foldl feed (clr L0) ∨ (X = feed1 (done.foldl feed (clr L0)) ∧ rest ≠ [])) ∧ X.2.2.1 = nI p ∧ p ≤ 147 ∧ (done.length ≤ 32 → RD R ρ ∧ ρ.2.1 = done.length ∧ ρ.2.2.2.2.2 = 0 ∧ ρ.2.2.1 = X.2.2.2.2.2.1 ∧ (∀ b, isB b → (b = ρ.2.2.2.1 ↔ b = X.2.2.2.2.2.2.1)))) ∨ n ≤ p
theorem Pos_0 {B : List Int32} {L0 : LineS} {n : Nat} {β : Nat → Int32} : Pos B L0 n 0 beginR (row0 β) := by
  refine Or.inl ⟨[], B, clr L0, rfl, Or.inl rfl, rfl, by omega, fun _ => ⟨row0_RD β, rfl, rfl, rfl, fun b hb => ⟨fun q => ?_, fun q => absurd q hb.m1⟩⟩⟩
  have q : b = 2 := q
  rcases hb with rfl | rfl <;> exact absurd q (by decide)
/-- a sender before the end of its check: what comes next -/
theorem Pos_at {B : List Int32} {L0 : LineS} {n p : Nat} {R : ReaderS} {ρ : RowS} (hB : ∀ x ∈ B, isB x) (hl : B.length ≤ 118) (hn : (B.foldl feed (clr L0)).2.2.1 = nI n) (h147 : n ≤ 147) (hp : p < n) (h : Pos B L0 n p R ρ) : ∃ (done : List Int32) (b : Int32) (rest : List Int32) (X : LineS), done ++ b :: rest = B ∧ isB b ∧ X.2.2.1 = nI p ∧ (done.length ≤ 32 → RD R ρ ∧ ρ.2.1 = done.length ∧ ρ.2.2.2.2.2 = 0 ∧ ρ.2.2.1 = X.2.2.2.2.2.1 ∧ (∀ b, isB b → (b = ρ.2.2.2.1 ↔ b = X.2.2.2.2.2.2.1))) ∧
    ((X.2.2.2.2.2.1 = 5 ∧ X = done.foldl feed (clr L0) ∧ (B.foldl feed (clr L0)).1 p = 1 - X.2.2.2.2.2.2.1 ∧ (B.foldl feed (clr L0)).2.1 p = -1 ∧ isB X.2.2.2.2.2.2.1 ∧ 0 < done.length) ∨ (¬ X.2.2.2.2.2.1 = 5 ∧ feed1 (done.foldl feed (clr L0)) = X ∧ (B.foldl feed (clr L0)).1 p = b ∧ (B.foldl feed (clr L0)).2.1 p = nI done.length)) := by
  rcases h with ⟨done, rest, X, hd, hX, hXp, hp147, hR⟩ | h
  · cases rest with
    | nil =>
      rw [List.append_nil] at hd
      rcases hX with hX | ⟨-, hX⟩
      · rw [hX, hd, hn] at hXp
        have := (nI_eq (by omega) (by omega)).mp hXp
        omega
      · exact absurd rfl hX
    | cons b rest =>
      have hBl : B.length = done.length + (rest.length + 1) := by rw [← hd]; simp
      have hdB : ∀ x ∈ done, isB x := fun x hx => hB x (by rw [← hd]; exact List.mem_append_left _ hx)
      have hbB : isB b := hB b (by rw [← hd]; exact List.mem_append_right _ List.mem_cons_self)
      have hrB : ∀ x ∈ rest, isB x := fun x hx => hB x (by rw [← hd]; exact List.mem_append_right _ (List.mem_cons_of_mem _ hx))
      have hLI := fold_LI done (clr_LI L0) hdB
      rw [Nat.zero_add] at hLI
      have hfold : B.foldl feed (clr L0) = rest.foldl feed (feed (done.foldl feed (clr L0)) b) := by
        rw [← hd, List.foldl_append]
        rfl
      refine ⟨done, b, rest, X, hd, hbB, hXp, hR, ?_⟩
      generalize hD : done.foldl feed (clr L0) = D at *
      obtain ⟨n1, al1, hj1, q4, q5, q6, -⟩ := feed1_LJ hLI
      have hLI2 := feed_LI (b := b) hLI hbB
      have p2 := feed2_pre (b := b) hj1.1 (by omega)
      have hlen : (feed D b).2.2.1 = nI (n1 + 1) := p2.2.2.2.1
      have hle := LI_n hLI2 (by omega) hlen (by omega)
      have r := (fold_pre rest (feed D b) (done.length + 1) (n1 + 1) hLI2 (by omega) hrB hlen hle.1).1
      rw [← hfold] at r
      by_cases h5 : X.2.2.2.2.2.1 = 5
      · left
        have hXD : X = D := by
          rcases hX with hX | ⟨hX, -⟩
          · exact hX
          · rw [hX, hj1.2.2.1] at h5
            have := (five_iff (x := nI al1) (n := al1) rfl (by omega)).mp h5
            omega
        obtain ⟨n0, al0, g1, g2, g3, g4, g5, g6, g7, g8⟩ := hLI
        rw [hXD] at h5 hXp
        have hal : al0 = 5 := (five_iff g3 g5).mp h5
        have e1 : feed1 D = app D (1 - D.2.2.2.2.2.2.1) (-1) := by
          unfold feed1
          rw [if_pos h5]
        have p1 := app_pre (b := 1 - D.2.2.2.2.2.2.1) (p := -1) hXp (by omega)
        have hn1 : n1 = p + 1 := by
          have h := hj1.1
          rw [e1, app_len, hXp, nI_1] at h
          exact ((nI_eq (by omega) (by omega)).mp h).symm
        have r2 := r p (by omega)
        have r3 := p2.1 p (by omega)
        rw [e1] at r3
        refine ⟨by rw [hXD]; exact h5, hXD, ?_, ?_, by rw [hXD]; exact g8 (by omega), by omega⟩
        · rw [r2.1, hXD]
          show (feed2 (feed1 D) b).1 p = _
          rw [e1]
          exact r3.1.trans p1.2.1
        · rw [r2.2]
          show (feed2 (feed1 D) b).2.1 p = _
          rw [e1]
          exact r3.2.trans p1.2.2
      · right
        have hXD : feed1 D = X := by
          rcases hX with hX | ⟨hX, -⟩
          · rw [hX] at h5 ⊢
            unfold feed1
            rw [if_neg h5]
          · exact hX.symm
        have hn1 : n1 = p := by
          have h := hj1.1
          rw [hXD, hXp] at h
          exact ((nI_eq (by omega) (by omega)).mp h).symm
        subst hn1
        have r2 := r n1 (by omega)
        refine ⟨h5, hXD, ?_, ?_⟩
        · rw [r2.1]
          exact p2.2.1
        · rw [r2.2]
          exact p2.2.2.1.trans hj1.2.1
  · omega
theorem rtk_small {β : Nat → Int32} {k nd t : Nat} {al la : Int32} (hw : WF (β, k, al, la, nd, t)) (hk : k ≤ 32) : ¬ k = nd := by
  intro q
  have := hw.open_.mp q
  have := cp_le β k
  omega
theorem take_ok {R : ReaderS} {ρ : RowS} {b : Int32} (hw : WF ρ) (h : RD R ρ) (hb : isB b) (ht : ρ.2.2.2.2.2 ≤ 9) (h0 : (rtk ρ b).1 = 0) : RD (tk R b).2 (rtk ρ b).2 ∧ (tk R b).1 = 0 := by
  obtain ⟨a, c, -⟩ := take_sim hw h hb ht
  have e : (tk R b).1 = 0 := by
    rcases a with a | ⟨a, -⟩
    · rw [← a]; exact h0
    · rw [a] at h0; exact absurd h0 (by decide)
  exact ⟨(c e).1, e⟩
/-- the sender sees what it sent -/
theorem Pos_step {F : FrameS} {sz : Nat} {L0 : LineS} {n p : Nat} {R : ReaderS} {ρ : RowS} {b : Int32} (h8 : sz ≤ 8) (hn : (xb L0 F sz).2.2.1 = nI n) (h147 : n ≤ 147) (hp : p < n) (hw : WF ρ) (h : Pos (fullB F sz) L0 n p R ρ) (hb : b = (xb L0 F sz).1 p) : Pos (fullB F sz) L0 n (p + 1) (tk R b).2 (rtk ρ b).2 := by
  have hl := fullB_le (F := F) h8
  obtain ⟨done, b0, rest, X, hd, hbB, hXp, hR, hc⟩ := Pos_at (fullB_B F sz) hl.1 hn h147 hp h
  rcases hc with ⟨h5, hXD, e1, e2, hlB, h0⟩ | ⟨h5, hXD, e1, e2⟩
  · -- a bit that was stuffed in
    have hbb : b = 1 - X.2.2.2.2.2.2.1 := hb.trans e1
    have hfe : feed1 (done.foldl feed (clr L0)) = app X (1 - X.2.2.2.2.2.2.1) (-1) := by
      rw [← hXD]
      unfold feed1
      rw [if_pos h5]
    refine Or.inl ⟨done, b0 :: rest, feed1 (done.foldl feed (clr L0)), hd, Or.inr ⟨rfl, by simp⟩, ?_, by omega, fun hdl => ?_⟩
    · rw [hfe, app_len, hXp, nI_1]
    · obtain ⟨r1, r2, r3, r4, r5⟩ := hR hdl
      obtain ⟨β, k, al, la, nd, t⟩ := ρ
      dsimp only at r2 r3 r4 r5
      have hbB' : isB b := by rw [hbb]; exact hlB.sub
      have hne : ¬ b = la := by
        intro q
        have := (r5 b hbB').mp q
        rw [hbb] at this
        exact hlB.ne this
      have e : rtk (β, k, al, la, nd, t) b = (0, (β, k, 1, b, nd, t)) := by
        unfold rtk
        dsimp only
        rw [if_neg (rtk_small hw (by omega)), if_pos (r4.trans h5), if_neg hne]
      have ht := take_ok hw r1 hbB' (by dsimp only; omega) (by rw [e])
      refine ⟨ht.1, ?_, ?_, ?_, ?_⟩
      · rw [e]; exact r2
      · rw [e]; exact r3
      · rw [e, hfe, app_alike, if_neg hlB.ne]
      · rw [e, hfe, app_last, ← hbb]
        exact fun c _ => Iff.rfl
  · have hbb : b = b0 := hb.trans e1
    subst hbb
    have hX2 := feed2_pre (b := b) hXp (by omega)
    have hfe : (done ++ [b]).foldl feed (clr L0) = feed2 X b := by
      rw [List.foldl_append, ← hXD]
      rfl
    have hBl : (fullB F sz).length = done.length + (rest.length + 1) := by rw [← hd]; simp
    refine Or.inl ⟨done ++ [b], rest, feed2 X b, by rw [← hd]; simp, Or.inl hfe.symm, hX2.2.2.2.1, by omega, fun hdl => ?_⟩
    rw [List.length_append] at hdl
    have hdl : done.length + 1 ≤ 32 := hdl
    obtain ⟨r1, r2, r3, r4, r5⟩ := hR (by omega)
    obtain ⟨β, k, al, la, nd, t⟩ := ρ
    dsimp only at r2 r3 r4 r5
    have h01 : ¬ (k = 0 ∧ b = 1) := by
      intro q
      have hd0 : done = [] := List.length_eq_zero_iff.mp (by omega)
      obtain ⟨r, hr⟩ := fullB_0 F sz
      rw [hr, hd0] at hd
      have : b = 0 := (List.cons.inj hd).1
      rw [this] at q
      exact absurd q.2 (by decide)
    have e : rtk (β, k, al, la, nd, t) b = (0, (upb β k b, k + 1, (if b = la then al + 1 else 1), b, nd1 (upb β k b) (k + 1) nd, t)) := by
      unfold rtk
      dsimp only
      rw [if_neg (rtk_small hw (by omega)), if_neg (fun q => h5 (r4.symm.trans q)), if_neg h01]
    have ht := take_ok hw r1 hbB (by dsimp only; omega) (by rw [e])
    refine ⟨ht.1, ?_, ?_, ?_, ?_⟩
    · rw [e, List.length_append]
      show k + 1 = done.length + 1
      omega
    · rw [e]; exact r3
    · rw [e, hX2.2.2.2.2.1]
      show (if b = la then al + 1 else 1) = _
      rw [r4]
      by_cases q : b = la
      · rw [if_pos q, if_pos ((r5 b hbB).mp q)]
      · rw [if_neg q, if_neg (fun z => q ((r5 b hbB).mpr z))]
    · rw [e, hX2.2.2.2.2.2]
      exact fun c _ => Iff.rfl
/-- behind the check nothing of the reader matters -/
theorem Pos_late {B : List Int32} {L0 : LineS} {n p : Nat} {R : ReaderS} {ρ : RowS} (h : n ≤ p) : Pos B L0 n p R ρ := Or.inr h
/-- the sender loses: its reader finds no fault in the 0 -/
theorem Pos_lose {F : FrameS} {sz : Nat} {L0 : LineS} {n p : Nat} {R : ReaderS} {ρ : RowS} (h8 : sz ≤ 8) (hn : (xb L0 F sz).2.2.1 = nI n) (h147 : n ≤ 147) (hp : p < n) (hw : WF ρ) (h : Pos (fullB F sz) L0 n p R ρ) {k : Nat} (hk : k ≤ 31) (hpl : (xb L0 F sz).2.1 p = nI k) : RD (tk R 0).2 (rtk ρ 0).2 ∧ (tk R 0).1 = 0 ∧ (rtk ρ 0).2.2.2.2.2.2 = 0 := by
  have hl := fullB_le (F := F) h8
  obtain ⟨done, b0, rest, X, hd, hbB, hXp, hR, hc⟩ := Pos_at (fullB_B F sz) hl.1 hn h147 hp h
  have hBl : (fullB F sz).length = done.length + (rest.length + 1) := by rw [← hd]; simp
  rcases hc with ⟨h5, hXD, e1, e2, hlB, h0⟩ | ⟨h5, hXD, e1, e2⟩
  · rw [hpl] at e2
    have : ∀ j : Fin 32, ¬ nI j.val = -1 := by decide +kernel
    exact absurd e2 (this ⟨k, by omega⟩)
  · rw [hpl] at e2
    have hk2 := (nI_eq (by omega) (by omega)).mp e2
    obtain ⟨r1, r2, r3, r4, r5⟩ := hR (by omega)
    obtain ⟨β, k', al, la, nd, t⟩ := ρ
    dsimp only at r2 r3 r4 r5
    have e : rtk (β, k', al, la, nd, t) 0 = (0, (upb β k' 0, k' + 1, (if 0 = la then al + 1 else 1), 0, nd1 (upb β k' 0) (k' + 1) nd, t)) := by
      unfold rtk
      dsimp only
      rw [if_neg (rtk_small hw (by omega)), if_neg (fun q => h5 (r4.symm.trans q)), if_neg (fun q => absurd q.2 (by decide))]
    have ht := take_ok hw r1 isB_0 (by dsimp only; omega) (by rw [e])
    refine ⟨ht.1, ht.2, ?_⟩
    rw [e]
    exact r3
/-- a place before the tail: stuffed in, or a number below 118 -/
theorem Pos_place {F : FrameS} {sz : Nat} {L0 : LineS} {n p : Nat} {R : ReaderS} {ρ : RowS} (h8 : sz ≤ 8) (hn : (xb L0 F sz).2.2.1 = nI n) (h147 : n ≤ 147) (hp : p < n) (h : Pos (fullB F sz) L0 n p R ρ) : (xb L0 F sz).2.1 p = -1 ∨ ∃ k, k < 118 ∧ (xb L0 F sz).2.1 p = nI k := by
  have hl := fullB_le (F := F) h8
  obtain ⟨done, b0, rest, X, hd, hbB, hXp, hR, hc⟩ := Pos_at (fullB_B F sz) hl.1 hn h147 hp h
  have hBl : (fullB F sz).length = done.length + (rest.length + 1) := by rw [← hd]; simp
  rcases hc with ⟨h5, hXD, e1, e2, hlB, h0⟩ | ⟨h5, hXD, e1, e2⟩
  · exact Or.inl e2
  · exact Or.inr ⟨done.length, by omega, e2⟩
/-- the first bit is 0 -/
theorem xb_0 {F : FrameS} {sz : Nat} {L0 : LineS} {n : Nat} (h8 : sz ≤ 8) (hn : (xb L0 F sz).2.2.1 = nI n) (h147 : n ≤ 147) : 0 < n ∧ (xb L0 F sz).1 0 = 0 := by
  have hl := fullB_le (F := F) h8
  obtain ⟨-, m, hm, hm2, hm3⟩ := fold_pre (fullB F sz) (clr L0) 0 0 (clr_LI L0) (by omega) (fullB_B F sz) rfl (by omega)
  have e : n = m := (nI_eq (by omega) (by omega)).mp (hn.symm.trans hm)
  refine ⟨by omega, ?_⟩
  obtain ⟨done, b0, rest, X, hd, hbB, hXp, hR, hc⟩ := Pos_at (p := 0) (R := beginR) (ρ := row0 (fun _ => 0)) (fullB_B F sz) hl.1 hn h147 (by omega) Pos_0
  rcases hc with ⟨h5, hXD, e1, e2, hlB, h0⟩ | ⟨h5, hXD, e1, e2⟩
  · exfalso
    have hdB : ∀ x ∈ done, isB x := fun x hx => fullB_B F sz x (by rw [← hd]; exact List.mem_append_left _ hx)
    have hLI := fold_LI done (clr_LI L0) hdB
    have := LI_n hLI (by have : (fullB F sz).length = done.length + (rest.length + 1) := by rw [← hd]; simp
                         omega) (by rw [← hXD]; exact hXp) (by omega)
    omega
  · rw [e1]
    have hdB : ∀ x ∈ done, isB x := fun x hx => fullB_B F sz x (by rw [← hd]; exact List.mem_append_left _ hx)
    have hLI := fold_LI done (clr_LI L0) hdB
    obtain ⟨n1, al1, hj1, q4, q5, q6, -⟩ := feed1_LJ hLI
    have hj := hj1.1
    rw [hXD, hXp] at hj
    have hBl : (fullB F sz).length = done.length + (rest.length + 1) := by rw [← hd]; simp
    have hn1 : 0 = n1 := (nI_eq (by omega) (by omega)).mp hj
    have hd0 : done = [] := List.length_eq_zero_iff.mp (by omega)
    obtain ⟨r, hr⟩ := fullB_0 F sz
    rw [hr, hd0] at hd
    exact (List.cons.inj hd).1
