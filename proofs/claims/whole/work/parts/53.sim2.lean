/-! the head; then the whole take, class and row -/
theorem headv {β : Nat → Int32} {k : Nat} (h : k ≤ spk β k) : szv β k = 0 ∧ dtv β k = 0 ∧ cp β k = spk β k + 4 ∧ nv β (cp β k) (k - cp β k) = 0 ∧ min k (cp β k) = k := by
  have hsl := spk_le β k
  have e1 : cp β k = spk β k + 4 := by
    unfold cp
    rw [if_pos (by omega)]
  refine ⟨?_, ?_, e1, ?_, by omega⟩
  · unfold szv
    rw [if_pos (by omega), show k - spk β k = 0 by omega]
    rfl
  · unfold dtv
    rw [show min (k - (spk β k + 4)) (8 * szn β) = 0 by omega]
    rfl
  · rw [show k - cp β k = 0 by omega]
    rfl
theorem tkF_H {β : Nat → Int32} {k : Nat} {tl al la b : Int32} (hb : isB b) (hc : k < spk β k) : RDp (tkF (R0 β k tl al la) b) (upb β k b) (k + 1) := by
  have hsl := spk_le β k
  obtain ⟨a1, a2, a3, a4, a5⟩ := headv (β := β) (k := k) (by omega)
  have ec : nc (cr β k) b = cr (upb β k b) (k + 1) := by
    show _ = nc (cr (upb β k b) k) (upb β k b k)
    rw [upb_s, cr_congr _ (fun j a => upb_n (by omega))]
  have e1 : nI k < nI (cp β k) := nI_lt (by omega) (by omega)
  have e2 : ¬ nI (spk β k) ≤ nI k := nI_ge (by omega) (by omega)
  have x1 : nI k < 1 ↔ k < 1 := by rw [lit 1]; exact nI_ltI (by omega) (by omega)
  have x2 : 11 < nI k ↔ 11 < k := by rw [lit 11]; exact nI_ltI (by omega) (by omega)
  have x3 : nI k ≤ 13 ↔ k ≤ 13 := by rw [lit 13]; exact nI_leI (by omega) (by omega)
  have x4 : 31 < nI k ↔ 31 < k := by rw [lit 31]; exact nI_ltI (by omega) (by omega)
  have x5 : nI k = 13 ↔ k = 13 := by rw [lit 13]; exact nI_eq (by omega) (by omega)
  -- what is owed, once the head's form is known
  have fin : ∀ (lg id sP cP : Int32), k + 1 ≤ spk (upb β k b) (k + 1) → sP = nI (spk (upb β k b) (k + 1)) → cP = nI (spk (upb β k b) (k + 1) + 4) → lg = lgv (upb β k b) (k + 1) → id = idv (upb β k b) (k + 1) → RDp (nI k + 1, tl, al, la, nc (cr β k) b, 0, sP, cP, (lg, id, 0, 0)) (upb β k b) (k + 1) := by
    intro lg id sP cP h0 h1 h2 h3 h4
    obtain ⟨b1, b2, b3, b4, b5⟩ := headv h0
    refine ⟨nI_1 k, ?_, ?_, h1, ?_, ?_⟩
    · show nc (cr β k) b = _
      rw [ec, b5]
    · show (0 : Int32) = _
      rw [b4]
    · show cP = _
      rw [h2, b3]
    · show (lg, id, (0 : Int64), (0 : Int32)) = _
      rw [b1, b2, h3, h4]
  unfold tkF
  dsimp only [R0]
  rw [if_pos e1, if_neg e2, a1, a2, a4, a5]
  unfold tkH
  dsimp only
  by_cases k13 : k < 13
  · have ens : spk β k = 15 := by unfold spk; rw [if_neg (fun q => by omega)]
    have ens' : spk (upb β k b) (k + 1) = 15 := by unfold spk; rw [if_neg (fun q => by omega)]
    have elg : lgv β k = 0 := by unfold lgv; rw [if_neg (fun q => by omega)]
    have elg' : lgv (upb β k b) (k + 1) = 0 := by unfold lgv; rw [if_neg (fun q => by omega)]
    have eid : idv β k = nv β 1 (min (k - 1) 11) := by unfold idv; rw [if_neg (fun q => by omega)]
    have eid' : idv (upb β k b) (k + 1) = nv (upb β k b) 1 (min (k + 1 - 1) 11) := by unfold idv; rw [if_neg (fun q => by omega)]
    by_cases c : ¬ nI k < 1 ∧ ¬ 11 < nI k
    · rw [if_pos c]
      have c1 : ¬ k < 1 := fun q => c.1 (x1.mpr q)
      have c2 : ¬ 11 < k := fun q => c.2 (x2.mpr q)
      refine fin _ _ _ _ (by omega) (by rw [ens, ens']) (by rw [a3, ens, ens']) (by rw [elg, elg']) ?_
      show (idv β k <<< (1 &&& 31)) ||| b = _
      rw [eid, eid', show min (k - 1) 11 = k - 1 by omega, show min (k + 1 - 1) 11 = (k - 1) + 1 by omega]
      exact nv_up (by omega) hb
    · rw [if_neg c, if_neg (fun q => q.1 elg), if_neg (fun q => by have := x5.mp q.1; omega)]
      refine fin _ _ _ _ (by omega) (by rw [ens, ens']) (by rw [a3, ens, ens']) (by rw [elg, elg']) ?_
      have c3 : k = 0 ∨ k = 12 := by
        by_cases d : k < 1
        · omega
        · by_cases d2 : 11 < k
          · omega
          · exact absurd ⟨fun q => d (x1.mp q), fun q => d2 (x2.mp q)⟩ c
      rw [eid, eid']
      rcases c3 with rfl | rfl
      · rfl
      · exact (nv_congr (fun j a c => upb_n (by omega))).symm
  · rw [if_neg (fun q => q.2 (x2.mpr (by omega)))]
    by_cases e13 : k = 13
    · subst e13
      have ens : spk β 13 = 15 := by unfold spk; rw [if_neg (fun q => by omega)]
      have elg : lgv β 13 = 0 := by unfold lgv; rw [if_neg (fun q => by omega)]
      have eid : idv β 13 = nv β 1 11 := by unfold idv; rw [if_neg (fun q => by omega)]; rfl
      rw [if_neg (fun q => q.1 elg)]
      have eb : upb β 13 b 13 = b := upb_s
      by_cases h1 : b = 1
      · rw [if_pos ⟨rfl, h1⟩]
        have ens' : spk (upb β 13 b) (13 + 1) = 35 := by unfold spk; rw [if_pos ⟨by omega, by rw [eb]; exact h1⟩]
        have elg' : lgv (upb β 13 b) (13 + 1) = 1 := by unfold lgv; rw [if_pos ⟨by omega, by rw [eb]; exact h1⟩]
        have eid' : idv (upb β 13 b) (13 + 1) = nv (upb β 13 b) 1 11 := by unfold idv; rw [if_pos ⟨by omega, by rw [eb]; exact h1⟩]; rfl
        refine fin _ _ _ _ (by omega) (by rw [ens']; rfl) (by rw [ens']; rfl) (by rw [elg']) ?_
        show idv β 13 = _
        rw [eid, eid']
        exact (nv_congr (fun j a c => upb_n (by omega))).symm
      · rw [if_neg (fun q => h1 q.2)]
        have ens' : spk (upb β 13 b) (13 + 1) = 15 := by unfold spk; rw [if_neg (fun q => h1 (by rw [← eb]; exact q.2))]
        have elg' : lgv (upb β 13 b) (13 + 1) = 0 := by unfold lgv; rw [if_neg (fun q => h1 (by rw [← eb]; exact q.2))]
        have eid' : idv (upb β 13 b) (13 + 1) = nv (upb β 13 b) 1 11 := by unfold idv; rw [if_neg (fun q => h1 (by rw [← eb]; exact q.2))]; rfl
        refine fin _ _ _ _ (by omega) (by rw [ens, ens']) (by rw [a3, ens, ens']) (by rw [elg, elg']) ?_
        rw [eid, eid']
        exact (nv_congr (fun j a c => upb_n (by omega))).symm
    · have h14 : 14 ≤ k := by omega
      obtain ⟨u1, u2, u3⟩ := up14 (β := β) (b := b) h14
      by_cases lg : β 13 = 1
      · have ens : spk β k = 35 := by unfold spk; rw [if_pos ⟨h14, lg⟩]
        have elg : lgv β k = 1 := by unfold lgv; rw [if_pos ⟨h14, lg⟩]
        have eid : idv β k = nw β 14 (nv β 1 11) (min (k - 14) 18) := by unfold idv; rw [if_pos ⟨h14, lg⟩]
        have eid' : idv (upb β k b) (k + 1) = nw (upb β k b) 14 (nv β 1 11) (min (k + 1 - 14) 18) := by
          unfold idv
          rw [if_pos ⟨by omega, by rw [upb_n (by omega)]; exact lg⟩, nv_congr (β' := upb β k b) (β := β) (fun j a c => upb_n (by omega))]
        by_cases c : 31 < k
        · rw [if_neg (fun q => q.2.2 (x4.mpr c)), if_neg (fun q => e13 (x5.mp q.1))]
          refine fin _ _ _ _ (by omega) (by rw [u1]) (by rw [a3, u1]) (by rw [u2]) ?_
          rw [eid, eid', show min (k + 1 - 14) 18 = 18 by omega, show min (k - 14) 18 = 18 by omega]
          exact (nw_congr 18 (fun j a c => upb_n (by omega))).symm
        · rw [if_pos ⟨by rw [elg]; decide, fun q => by have := x3.mp q; omega, fun q => c (x4.mp q)⟩]
          refine fin _ _ _ _ (by omega) (by rw [u1]) (by rw [a3, u1]) (by rw [u2]) ?_
          show (idv β k <<< (1 &&& 31)) ||| b = _
          rw [shl_or1 _ _ hb, eid, eid', show min (k + 1 - 14) 18 = (k - 14) + 1 by omega, show min (k - 14) 18 = k - 14 by omega]
          show _ = 2 * nw (upb β k b) 14 (nv β 1 11) (k - 14) + upb β k b (14 + (k - 14))
          rw [show 14 + (k - 14) = k by omega, upb_s, nw_congr (β' := upb β k b) (β := β) _ (fun j a c => upb_n (by omega))]
      · have ens : spk β k = 15 := by unfold spk; rw [if_neg (fun q => lg q.2)]
        have elg : lgv β k = 0 := by unfold lgv; rw [if_neg (fun q => lg q.2)]
        have eid : idv β k = nv β 1 11 := by unfold idv; rw [if_neg (fun q => lg q.2), show min (k - 1) 11 = 11 by omega]
        have eid' : idv (upb β k b) (k + 1) = nv (upb β k b) 1 11 := by
          unfold idv
          rw [if_neg (fun q => lg (by rw [upb_n (by omega)] at q; exact q.2)), show min (k + 1 - 1) 11 = 11 by omega]
        rw [if_neg (fun q => q.1 elg), if_neg (fun q => e13 (x5.mp q.1))]
        refine fin _ _ _ _ (by omega) (by rw [u1]) (by rw [a3, u1]) (by rw [u2]) ?_
        rw [eid, eid']
        exact (nv_congr (fun j a c => upb_n (by omega))).symm
/-- the class's reader goes with the row -/
def RD (R : ReaderS) (ρ : RowS) : Prop := RDp R ρ.1 ρ.2.1 ∧ R.2.1 = nI ρ.2.2.2.2.2 ∧ R.2.2.1 = ρ.2.2.1 ∧ (∀ b, isB b → (b = R.2.2.2.1 ↔ b = ρ.2.2.2.1)) ∧ (ρ.2.1 = 0 → ρ.2.2.1 = 0)
theorem WF.open_ {β : Nat → Int32} {k nd t : Nat} {al la : Int32} (h : WF (β, k, al, la, nd, t)) : k = nd ↔ k = cp β k + 15 := by
  obtain ⟨-, h⟩ := h
  have hsl := spk_le β k
  have hz := szn_le β
  have hs := sp_le β
  rcases h with ⟨a, c⟩ | ⟨a, c, d⟩
  · dsimp only at a c
    have h1 : k < spk β k + 4 := by
      rcases c with c | ⟨c, d⟩
      · omega
      · unfold spk
        by_cases e : 14 ≤ k
        · rw [if_pos ⟨e, c⟩]
          omega
        · rw [if_neg (fun q => e q.1)]
          omega
    unfold cp
    rw [if_pos h1]
    omega
  · dsimp only at a c d
    have e : spk β k = sp β := spk_sp (by omega)
    unfold cp
    rw [e, if_neg (by omega)]
    omega
theorem RDp_step {R : ReaderS} {β : Nat → Int32} {k nd t : Nat} {al la b al' : Int32} (hw : WF (β, k, al, la, nd, t)) (hb : isB b) (h : RDp R β k) : RDp (tkF (R.1, R.2.1, al', b, R.2.2.2.2) b) (upb β k b) (k + 1) := by
  have e := RDp_eq h
  have hk := hw.k.1
  have hB := hw.1
  dsimp only at hk hB
  have e2 : (R.1, R.2.1, al', b, R.2.2.2.2) = R0 β k R.2.1 al' b := by
    rw [e]
  rw [e2]
  by_cases c1 : cp β k ≤ k
  · exact tkF_A hb hk c1
  · by_cases c2 : k < spk β k
    · exact tkF_H hb c2
    · by_cases c3 : spk β k + 4 ≤ k
      · exact tkF_D hk (by omega) c3
      · exact tkF_S hb hB (by omega) (by omega)
theorem WF_step {β : Nat → Int32} {k nd t : Nat} {al la b al' : Int32} (hw : WF (β, k, al, la, nd, t)) (hk : ¬ k = nd) (hb : isB b) : WF (upb β k b, k + 1, al', b, nd1 (upb β k b) (k + 1) nd, t) := by
  obtain ⟨hB, h⟩ := hw
  dsimp only at hB h
  refine ⟨fun j hj => ?_, ?_⟩
  · dsimp only at hj ⊢
    by_cases e : j = k
    · subst e
      rw [upb_s]; exact hb
    · rw [upb_n e]; exact hB j (by omega)
  · dsimp only
    have hsl := sp_le β
    have hz := szn_le (upb β k b)
    unfold nd1
    rcases h with ⟨a, c⟩ | ⟨a, c, d⟩
    · by_cases hc : 13 < k + 1 ∧ k + 1 = sp (upb β k b) + 4
      · rw [if_pos hc]
        right
        omega
      · rw [if_neg hc]
        left
        refine ⟨a, ?_⟩
        by_cases e : 13 < k + 1
        · have h2 : ¬ k + 1 = sp (upb β k b) + 4 := fun q => hc ⟨e, q⟩
          unfold sp at h2
          by_cases e13 : upb β k b 13 = 1
          · rw [if_pos e13] at h2
            right
            refine ⟨e13, ?_⟩
            rcases c with c | ⟨c, d⟩ <;> omega
          · rw [if_neg e13] at h2
            left
            rcases c with c | ⟨c, d⟩
            · omega
            · by_cases ek : k = 13
              · omega
              · rw [upb_n (by omega)] at e13
                exact absurd c e13
        · left
          omega
    · have h14 : 14 ≤ k := by omega
      have e := (up14 (β := β) (b := b) h14).2.2
      have ez : szn (upb β k b) = szn β := up_szn h14 (by rw [spk_sp h14]; exact c)
      rw [e, ez, if_neg (by omega)]
      right
      omega
theorem rtk_WF {ρ : RowS} {b : Int32} (hw : WF ρ) (hb : isB b) : WF (rtk ρ b).2 := by
  obtain ⟨β, k, al, la, nd, t⟩ := ρ
  unfold rtk
  dsimp only
  by_cases h1 : k = nd
  · rw [if_pos h1]
    exact hw
  · rw [if_neg h1]
    by_cases h2 : al = 5
    · rw [if_pos h2]
      by_cases h3 : b = la
      · rw [if_pos h3]; exact hw
      · rw [if_neg h3]; exact hw
    · rw [if_neg h2]
      by_cases h3 : k = 0 ∧ b = 1
      · rw [if_pos h3]; exact hw
      · rw [if_neg h3]
        exact WF_step hw h1 hb
theorem rtk_t {ρ : RowS} {b : Int32} : (rtk ρ b).2.2.2.2.2.2 ≤ ρ.2.2.2.2.2 + 1 := by
  obtain ⟨β, k, al, la, nd, t⟩ := ρ
  unfold rtk
  dsimp only
  split
  · exact Nat.le_refl _
  · split
    · split <;> exact Nat.le_succ _
    · split <;> exact Nat.le_succ _
/-- both take a bit: the same fault, or the row says 9 where the class is finished -/
theorem take_sim {R : ReaderS} {ρ : RowS} {b : Int32} (hw : WF ρ) (h : RD R ρ) (hb : isB b) (ht : ρ.2.2.2.2.2 ≤ 9) :
    ((rtk ρ b).1 = (tk R b).1 ∨ ((rtk ρ b).1 = 9 ∧ (tk R b).1 = 0)) ∧ ((tk R b).1 = 0 → RD (tk R b).2 (rtk ρ b).2 ∧ ((rtk ρ b).1 = 9 ↔ (tk R b).2.2.1 = 10) ∧ ((rtk ρ b).2.2.2.2.2.2 ≤ 9 ∨ (rtk ρ b).1 = 9)) ∧ ((tk R b).1 = 0 ∨ (tk R b).1 = 1 ∨ (tk R b).1 = 2 ∨ (tk R b).1 = 3) := by
  obtain ⟨β, k, al, la, nd, t⟩ := ρ
  obtain ⟨hp, h2, h3, h4, h6⟩ := h
  have hp0 := hp
  obtain ⟨q1, q2, q3, q4, q5, q6⟩ := hp0
  have hk := hw.k
  have hcp := cp_le β k
  have hop := hw.open_
  have hstep := fun al' => RDp_step (al' := al') hw hb hp
  obtain ⟨taken, tail, alike, last, check, chkTaken, sizePl, chkPl, fr⟩ := R
  dsimp only at q1 q2 q3 q4 q5 q6 h2 h3 h4 h6 ht hk hstep
  have ek0 : taken = 0 ↔ k = 0 := by rw [q1, lit 0]; exact nI_eq (by omega) (by omega)
  have ekc : taken = chkPl + 15 ↔ k = nd := by rw [q1, q5, lit 15, nI_add, hop]; exact nI_eq (by omega) (by omega)
  have eb : ¬ b = 0 ↔ b = 1 := by rcases hb with rfl | rfl <;> decide
  have et : ∀ m, m < 1000 → (tail = nI m ↔ t = m) := fun m hm => by rw [h2]; exact nI_eq (by omega) (by omega)
  have et1 := et 1 (by omega)
  have et2 := et 2 (by omega)
  have et9 := et 9 (by omega)
  have et10 : ¬ tail = 10 := fun q => by have := (et 10 (by omega)).mp q; omega
  unfold rtk tk
  dsimp only
  by_cases c0 : taken = 0 ∧ ¬ b = 0
  · have hk0 := ek0.mp c0.1
    have hnn : ¬ k = nd := by
      intro q
      rw [q] at hk0
      have := hop.mp q
      omega
    rw [if_pos c0, if_neg hnn]
    rw [if_neg (fun q => by rw [h6 hk0] at q; exact absurd q (by decide)), if_pos ⟨hk0, eb.mp c0.2⟩]
    exact ⟨Or.inl rfl, fun q => absurd (show (3 : Int32) = 0 from q) (by decide), Or.inr (Or.inr (Or.inr rfl))⟩
  · rw [if_neg c0]
    by_cases cn : k = nd
    · have hkc := hop.mp cn
      have hr : (check = chkTaken) ↔ right β nd := by
        unfold right
        rw [q2, q3, show min k (cp β k) = cp β k by omega, show k - cp β k = 15 by omega, show nd - 15 = cp β k by omega]
      have e2 : (tail = 2 ∧ ¬ check = chkTaken) ↔ (t = 2 ∧ ¬ right β nd) := ⟨fun q => ⟨et2.mp q.1, fun z => q.2 (hr.mpr z)⟩, fun q => ⟨et2.mpr q.1, fun z => q.2 (hr.mp z)⟩⟩
      have e3 : (¬ tail = 1 ∧ ¬ b = 1) ↔ (¬ t = 1 ∧ b = 0) := by
        constructor
        · exact fun q => ⟨fun z => q.1 (et1.mpr z), by rcases hb with rfl | rfl; rfl; exact absurd rfl q.2⟩
        · exact fun q => ⟨fun z => q.1 (et1.mp z), by rw [q.2]; decide⟩
      rw [if_pos (ekc.mpr cn), if_pos cn]
      unfold tkT
      dsimp only
      by_cases d2 : tail = 2 ∧ ¬ check = chkTaken
      · rw [if_pos d2, if_pos (e2.mp d2)]
        exact ⟨Or.inl rfl, fun q => absurd (show (2 : Int32) = 0 from q) (by decide), Or.inr (Or.inr (Or.inl rfl))⟩
      · rw [if_neg d2, if_neg (fun q => d2 (e2.mpr q))]
        by_cases d3 : ¬ tail = 1 ∧ ¬ b = 1
        · rw [if_pos d3, if_pos (e3.mp d3)]
          exact ⟨Or.inl rfl, fun q => absurd (show (3 : Int32) = 0 from q) (by decide), Or.inr (Or.inr (Or.inr rfl))⟩
        · rw [if_neg d3, if_neg (fun q => d3 (e3.mpr q))]
          have e10 : tail + 1 = 10 ↔ t = 9 := by
            rw [h2, nI_1, lit 10]
            exact (nI_eq (by omega) (by omega)).trans (by omega)
          have hRD : RD (taken, tail + 1, alike, last, check, chkTaken, sizePl, chkPl, fr) (β, k, al, la, nd, t + 1) := ⟨hp, by show tail + 1 = nI (t + 1); rw [h2, nI_1], h3, h4, h6⟩
          by_cases d9 : t = 9
          · rw [if_pos d9]
            exact ⟨Or.inr ⟨rfl, rfl⟩, fun _ => ⟨hRD, ⟨fun _ => e10.mpr d9, fun _ => rfl⟩, Or.inr rfl⟩, Or.inl rfl⟩
          · rw [if_neg d9]
            exact ⟨Or.inl rfl, fun _ => ⟨hRD, ⟨fun q => absurd (show (0 : Int32) = 9 from q) (by decide), fun q => absurd (e10.mp q) d9⟩, Or.inl (by show t + 1 ≤ 9; omega)⟩, Or.inl rfl⟩
    · rw [if_neg (fun q => cn (ekc.mp q)), if_neg cn, h3]
      have f0 : ¬ ((0 : Int32) = 9) := by decide
      by_cases c5 : al = 5
      · rw [if_pos c5, if_pos c5]
        by_cases cl : b = last
        · rw [if_pos cl, if_pos ((h4 b hb).mp cl)]
          exact ⟨Or.inl rfl, fun q => absurd (show (1 : Int32) = 0 from q) (by decide), Or.inr (Or.inl rfl)⟩
        · rw [if_neg cl, if_neg (fun q => cl ((h4 b hb).mpr q))]
          exact ⟨Or.inl rfl, fun _ => ⟨⟨hp, h2, rfl, fun c _ => Iff.rfl, fun q => absurd ((h6 q).symm.trans c5) (by decide)⟩, ⟨fun q => absurd q f0, fun q => absurd q et10⟩, Or.inl ht⟩, Or.inl rfl⟩
      · rw [if_neg c5, if_neg c5, if_neg (fun q => c0 ⟨ek0.mpr q.1, eb.mpr q.2⟩)]
        have eal : (if b = last then al + 1 else 1) = (if b = la then al + 1 else 1) := by
          by_cases cl : b = last
          · rw [if_pos cl, if_pos ((h4 b hb).mp cl)]
          · rw [if_neg cl, if_neg (fun q => cl ((h4 b hb).mpr q))]
        rw [eal]
        have hs := hstep (if b = la then al + 1 else 1)
        have hk3 := tkF_keep (taken, tail, (if b = la then al + 1 else 1), b, check, chkTaken, sizePl, chkPl, fr) b
        refine ⟨Or.inl rfl, fun _ => ⟨⟨hs, hk3.1.trans h2, hk3.2.1, fun c _ => ?_, fun q => absurd (show k + 1 = 0 from q) (by omega)⟩, ⟨fun q => absurd q f0, fun q => absurd (hk3.1.symm.trans q) et10⟩, Or.inl ht⟩, Or.inl rfl⟩
        show c = (tkF _ b).2.2.2.1 ↔ c = b
        rw [hk3.2.2]
