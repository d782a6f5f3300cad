/-! the class's take, as a function -/
def tkH (R : ReaderS) (v1 v2 : Int32) : ReaderS := match R with
  | (taken, tail, alike, last, check, chkTaken, sizePl, chkPl, fr) => if ¬ v1 < 1 ∧ ¬ 11 < v1 then (taken, tail, alike, last, check, chkTaken, sizePl, chkPl, (fr.1, (fr.2.1 <<< (1 &&& 31)) ||| v2, fr.2.2.1, fr.2.2.2)) else if ¬ fr.1 = 0 ∧ ¬ v1 ≤ 13 ∧ ¬ 31 < v1 then (taken, tail, alike, last, check, chkTaken, sizePl, chkPl, (fr.1, (fr.2.1 <<< (1 &&& 31)) ||| v2, fr.2.2.1, fr.2.2.2)) else if v1 = 13 ∧ v2 = 1 then (taken, tail, alike, last, check, chkTaken, 35, 39, (1, fr.2.1, fr.2.2.1, fr.2.2.2)) else (taken, tail, alike, last, check, chkTaken, sizePl, chkPl, fr)
theorem wp_tkH {R : ReaderS} {v1 v2 : Int32} {K : ReaderS → Prop} (h : K (tkH R v1 v2)) : wp_X3_takeHead R v1 v2 K := by
  obtain ⟨taken, tail, alike, last, check, chkTaken, sizePl, chkPl, fr⟩ := R
  unfold tkH at h
  dsimp only at h
  have h76 : (v1 < 1 ∨ 11 < v1) → (fr.1 = 0 ∨ v1 ≤ 13 ∨ 31 < v1) → wp_X3_takeHead_76 K (taken, tail, alike, last, check, chkTaken, sizePl, chkPl, fr) v1 v2 := by
    intro a b
    rw [if_neg (fun q => a.elim q.1 q.2), if_neg (fun q => b.elim q.1 (fun b => b.elim q.2.1 q.2.2))] at h
    unfold wp_X3_takeHead_76
    refine ⟨fun hn => ?_, fun hn => ⟨fun h2 => ?_, fun h2 => ?_⟩⟩
    · rw [if_neg (fun q => hn q.1)] at h
      exact h
    · rw [if_neg (fun q => h2 q.2)] at h
      exact h
    · rw [if_pos ⟨hn, h2⟩] at h
      exact h
  have h55 : (¬ v1 < 1 ∧ ¬ 11 < v1) ∨ (¬ fr.1 = 0 ∧ ¬ v1 ≤ 13 ∧ ¬ 31 < v1) → wp_X3_takeHead_55 K (taken, tail, alike, last, check, chkTaken, sizePl, chkPl, fr) v2 := by
    intro a
    unfold wp_X3_takeHead_55
    by_cases c : ¬ v1 < 1 ∧ ¬ 11 < v1
    · rw [if_pos c] at h
      exact h
    · rcases a with a | a
      · exact absurd a c
      · rw [if_neg c, if_pos a] at h
        exact h
  have h16 : ∀ k0 : Int32, (k0 = 0 → v1 < 1 ∨ 11 < v1) → (¬ k0 = 0 → ¬ v1 < 1 ∧ ¬ 11 < v1) → wp_X3_takeHead_16 K (taken, tail, alike, last, check, chkTaken, sizePl, chkPl, fr) v1 v2 k0 := by
    intro k0 a b
    unfold wp_X3_takeHead_16 wp_X3_takeHead_33 wp_X3_takeHead_34
    refine ⟨fun c => ⟨fun d => h55 (Or.inl (b d)), fun d => ⟨fun _ => h76 (a d) (Or.inr (Or.inl c)), fun _ => ⟨fun _ => h76 (a d) (Or.inr (Or.inl c)), fun q => absurd rfl q⟩⟩⟩, fun c => ⟨fun c2 => ⟨fun d => h55 (Or.inl (b d)), fun d => ⟨fun _ => h76 (a d) (Or.inr (Or.inr c2)), fun _ => ⟨fun _ => h76 (a d) (Or.inr (Or.inr c2)), fun q => absurd rfl q⟩⟩⟩, fun c2 => ⟨fun d => h55 (Or.inl (b d)), fun d => ⟨fun z => h76 (a d) (Or.inl z), fun z => ⟨fun q => absurd q (by decide), fun _ => h55 (Or.inr ⟨z, c, c2⟩)⟩⟩⟩⟩⟩
  unfold wp_X3_takeHead wp_X3_takeHead_15
  exact ⟨fun a => h16 0 (fun _ => Or.inl a) (fun q => absurd rfl q), fun a => ⟨fun b => h16 0 (fun _ => Or.inr b) (fun q => absurd rfl q), fun b => h16 1 (fun q => absurd q (by decide)) (fun _ => ⟨a, b⟩)⟩⟩
def tkSv (x b : Int32) : Int32 := if (8 : Int32) < (x <<< (1 &&& 31)) ||| b then 8 else (x <<< (1 &&& 31)) ||| b
def tkS (R : ReaderS) (v1 v2 : Int32) : ReaderS := match R with
  | (taken, tail, alike, last, check, chkTaken, sizePl, chkPl, fr) => if v1 = (sizePl + 4) - 1 then (taken, tail, alike, last, check, chkTaken, sizePl, (sizePl + 4) + (8 * tkSv fr.2.2.2 v2), (fr.1, fr.2.1, fr.2.2.1, tkSv fr.2.2.2 v2)) else (taken, tail, alike, last, check, chkTaken, sizePl, chkPl, (fr.1, fr.2.1, fr.2.2.1, (fr.2.2.2 <<< (1 &&& 31)) ||| v2))
theorem wp_tkS {R : ReaderS} {v1 v2 : Int32} {K : ReaderS → Prop} (h : K (tkS R v1 v2)) : wp_X3_takeSize R v1 v2 K := by
  obtain ⟨taken, tail, alike, last, check, chkTaken, sizePl, chkPl, fr⟩ := R
  unfold tkS at h
  dsimp only at h
  unfold wp_X3_takeSize
  refine ⟨fun hn => ?_, fun hn n2 e2 => ?_⟩
  · rw [if_neg hn] at h
    exact h
  · rw [if_pos hn] at h
    rw [e2]
    exact h
def tkD (R : ReaderS) (v1 v2 : Int32) : ReaderS := match R with
  | (taken, tail, alike, last, check, chkTaken, sizePl, chkPl, fr) => (taken, tail, alike, last, check, chkTaken, sizePl, chkPl, (fr.1, fr.2.1, fr.2.2.1 ||| (v2.toInt64 <<< ((((((v1 / 8) * 8) + 8) - 1) - (v1 - v1 / 8 * 8)).toInt64 &&& 63)), fr.2.2.2))
theorem wp_tkD {R : ReaderS} {v1 v2 : Int32} {K : ReaderS → Prop} (h : K (tkD R v1 v2)) : wp_X3_takeData R v1 v2 K := by
  obtain ⟨taken, tail, alike, last, check, chkTaken, sizePl, chkPl, fr⟩ := R
  unfold wp_X3_takeData
  intro n1 e1 n2 e2
  rw [e2, e1]
  exact h
def tkF (R : ReaderS) (b : Int32) : ReaderS := match R with
  | (taken, tail, alike, last, check, chkTaken, sizePl, chkPl, fr) => if taken < chkPl then (if sizePl ≤ taken then (if sizePl + 4 ≤ taken then tkD (taken + 1, tail, alike, last, nc check b, chkTaken, sizePl, chkPl, fr) ((taken - sizePl) - 4) b else tkS (taken + 1, tail, alike, last, nc check b, chkTaken, sizePl, chkPl, fr) taken b) else tkH (taken + 1, tail, alike, last, nc check b, chkTaken, sizePl, chkPl, fr) taken b) else (taken + 1, tail, alike, last, check, (chkTaken <<< (1 &&& 31)) ||| b, sizePl, chkPl, fr)
theorem wp_tkF {R : ReaderS} {b : Int32} {K : ReaderS → Prop} (h : K (tkF R b)) : wp_X3_takeFramed R b K := by
  obtain ⟨taken, tail, alike, last, check, chkTaken, sizePl, chkPl, fr⟩ := R
  unfold tkF at h
  dsimp only at h
  unfold wp_X3_takeFramed
  refine ⟨fun hc => wp_nc4 ⟨fun hs => ⟨fun h4 => wp_tkD ?_, fun h4 => wp_tkS ?_⟩, fun hs => wp_tkH ?_⟩, fun hc => ?_⟩
  · rw [if_pos hc, if_pos hs, if_pos h4] at h
    exact h
  · rw [if_pos hc, if_pos hs, if_neg h4] at h
    exact h
  · rw [if_pos hc, if_neg hs] at h
    exact h
  · rw [if_neg hc] at h
    exact h
def tkT (R : ReaderS) (b : Int32) : Int32 × ReaderS := match R with
  | (taken, tail, alike, last, check, chkTaken, sizePl, chkPl, fr) => if tail = 2 ∧ ¬ check = chkTaken then (2, (taken, tail, alike, last, check, chkTaken, sizePl, chkPl, fr)) else if ¬ tail = 1 ∧ ¬ b = 1 then (3, (taken, tail, alike, last, check, chkTaken, sizePl, chkPl, fr)) else (0, (taken, tail + 1, alike, last, check, chkTaken, sizePl, chkPl, fr))
theorem wp_tkT {R : ReaderS} {b : Int32} {K : Int32 → ReaderS → Prop} (h : K (tkT R b).1 (tkT R b).2) : wp_X3_takeTail R b K := by
  obtain ⟨taken, tail, alike, last, check, chkTaken, sizePl, chkPl, fr⟩ := R
  unfold tkT at h
  dsimp only at h
  have h21 : ¬ (tail = 2 ∧ ¬ check = chkTaken) → wp_X3_takeTail_21 K (taken, tail, alike, last, check, chkTaken, sizePl, chkPl, fr) b := by
    intro hn
    rw [if_neg hn] at h
    unfold wp_X3_takeTail_21 wp_X3_takeTail_36
    refine ⟨fun a => ?_, fun a => ⟨fun c => ?_, fun c => ?_⟩⟩
    · rw [if_neg (fun q => q.1 a)] at h
      exact h
    · rw [if_neg (fun q => q.2 c)] at h
      exact h
    · rw [if_pos ⟨a, c⟩] at h
      exact h
  unfold wp_X3_takeTail
  refine ⟨fun a => h21 (fun q => a q.1), fun a => ⟨fun c => h21 (fun q => q.2 c), fun c => ?_⟩⟩
  rw [if_pos ⟨a, c⟩] at h
  exact h
def tk (R : ReaderS) (b : Int32) : Int32 × ReaderS := match R with
  | (taken, tail, alike, last, check, chkTaken, sizePl, chkPl, fr) => if taken = 0 ∧ ¬ b = 0 then (3, (taken, tail, alike, last, check, chkTaken, sizePl, chkPl, fr)) else if taken = chkPl + 15 then tkT (taken, tail, alike, last, check, chkTaken, sizePl, chkPl, fr) b else if alike = 5 then (if b = last then (1, (taken, tail, alike, last, check, chkTaken, sizePl, chkPl, fr)) else (0, (taken, tail, 1, b, check, chkTaken, sizePl, chkPl, fr))) else (0, tkF (taken, tail, (if b = last then alike + 1 else 1), b, check, chkTaken, sizePl, chkPl, fr) b)
theorem wp_tk {R : ReaderS} {b : Int32} {K : Int32 → ReaderS → Prop} (h : K (tk R b).1 (tk R b).2) : wp_X3_take R b K := by
  obtain ⟨taken, tail, alike, last, check, chkTaken, sizePl, chkPl, fr⟩ := R
  unfold tk at h
  dsimp only at h
  have h90 : ∀ U : ReaderS, K 0 U → wp_X3_take_90 K U := by
    intro U hU
    obtain ⟨taken, tail, alike, last, check, chkTaken, sizePl, chkPl, fr⟩ := U
    exact hU
  have h13 : ¬ (taken = 0 ∧ ¬ b = 0) → wp_X3_take_13 K (taken, tail, alike, last, check, chkTaken, sizePl, chkPl, fr) b := by
    intro hn
    rw [if_neg hn] at h
    have h54 : ∀ k0 : Int32, ¬ taken = chkPl + 15 → (k0 = 0 → ¬ alike = 5) → (¬ k0 = 0 → alike = 5 ∧ ¬ b = last) → wp_X3_take_54 K (taken, tail, alike, last, check, chkTaken, sizePl, chkPl, fr) b k0 := by
      intro k0 a c d
      rw [if_neg a] at h
      unfold wp_X3_take_54 wp_X3_take_73
      refine ⟨fun e => ⟨fun f => h90 _ ?_, fun f => wp_tkF (h90 _ ?_)⟩, fun e => ⟨fun f => absurd e (d f).2, fun f => wp_tkF (h90 _ ?_)⟩⟩
      · rw [if_pos (d f).1, if_neg (d f).2] at h
        exact h
      · rw [if_neg (c f), if_neg e] at h
        exact h
      · rw [if_neg (c f), if_pos e] at h
        exact h
    unfold wp_X3_take_13 wp_X3_hasWholeFrame wp_X3_take_39
    refine ⟨fun a => ⟨fun _ => ⟨fun c => ⟨fun _ => h54 0 a (fun _ => c) (fun q => absurd rfl q), fun q => absurd rfl q⟩, fun c => ⟨fun q => absurd q (by decide), fun _ => ⟨fun d => h54 1 a (fun q => absurd q (by decide)) (fun _ => ⟨c, d⟩), fun d => ?_⟩⟩⟩, fun q => absurd rfl q⟩, fun a => ⟨fun q => absurd q (by decide), fun _ => wp_tkT ?_⟩⟩
    · rw [if_neg a, if_pos c, if_pos d] at h
      exact h
    · rw [if_pos a] at h
      exact h
  unfold wp_X3_take
  refine ⟨fun a => h13 (fun q => a q.1), fun a => ⟨fun c => h13 (fun q => q.2 c), fun c => ?_⟩⟩
  rw [if_pos ⟨a, c⟩] at h
  exact h
