/-! a run of the reference ends in some state -/
theorem em2 {c A B R : Prop} (h : (c → A) ∧ (¬ c → B)) (f : A → R) (g : B → R) : R := (Classical.em c).elim (fun q => f (h.1 q)) (fun q => g (h.2 q))
theorem em2' {c A B R : Prop} (h : (¬ c → A) ∧ (c → B)) (f : A → R) (g : B → R) : R := (Classical.em c).elim (fun q => g (h.2 q)) (fun q => f (h.1 q))
theorem nv_say_4 {K : ModelS → Prop} : ∀ (fuel : Nat) (a0 : ModelS) (a1 : Int32) (a2 : Int32), wp_X5_say_4 K fuel a0 a1 a2 → ∃ (x0 : ModelS), K x0 := by
  intro fuel
  induction fuel with
  | zero => exact fun _ _ _ h => h.elim
  | succ n ih =>
    intro a0 v1 v3 h0
    obtain ⟨mI, mA, mL⟩ := a0
    unfold wp_X5_say_4 at h0
    try dsimp only at h0
    refine em2 h0 (fun h1 => ?_) (fun h2 => ?_)
    · exact ⟨_, h1⟩
    · have h3 := h2.2
      have h4 := h3 _ rfl
      exact ih _ _ _ h4
theorem nv_say {K : ModelS → Prop} {M : ModelS} {p0 : Int32} {p1 : Int32} (h0 : wp_X5_say M p0 p1 K) : ∃ (x0 : ModelS), K x0 := by
  obtain ⟨mI, mA, mL⟩ := M
  unfold wp_X5_say at h0
  try dsimp only at h0
  have h1 := h0 _ rfl
  exact nv_say_4 _ _ _ _ h1
theorem nv_nextCheck {K : Int32 → Prop} {p0 : Int32} {p1 : Int32} (h0 : wp_X5_nextCheck p0 p1 K) : ∃ (x0 : Int32), K x0 := by
  unfold wp_X5_nextCheck at h0
  try dsimp only at h0
  have h1 := h0 _ rfl
  have h2 := h1 _ rfl
  refine em2' h2 (fun h3 => ?_) (fun h4 => ?_)
  · exact ⟨_, h3⟩
  · exact ⟨_, h4⟩
theorem nv_lay {K : Int32 → ModelS → Prop} {M : ModelS} {p0 : Int32} {p1 : Int32} {p2 : Int32} {p3 : Int32} (h0 : wp_X5_lay M p0 p1 p2 p3 K) : ∃ (x0 : Int32) (x1 : ModelS), K x0 x1 := by
  obtain ⟨mI, mA, mL⟩ := M
  unfold wp_X5_lay at h0
  try dsimp only at h0
  have h1 := h0.2
  have h2 := h1.2
  exact ⟨_, _, h2⟩
theorem nv_make_307 {K : ModelS → Prop} : ∀ (fuel : Nat) (a0 : ModelS) (a1 : Int32) (a2 : Int32) (a3 : Int32), wp_X5_make_307 K fuel a0 a1 a2 a3 → ∃ (x0 : ModelS), K x0 := by
  intro fuel
  induction fuel with
  | zero => exact fun _ _ _ _ h => h.elim
  | succ n ih =>
    intro a0 v2 v4 v7 h0
    obtain ⟨mI, mA, mL⟩ := a0
    unfold wp_X5_make_307 at h0
    try dsimp only at h0
    refine em2 h0 (fun h1 => ?_) (fun h2 => ?_)
    · have h3 := h1.2
      exact ⟨_, h3⟩
    · obtain ⟨r20, u21, h4⟩ := nv_lay h2
      have h5 := h4 _ rfl
      exact ih _ _ _ _ h5
theorem nv_make_272 {K : ModelS → Prop} {C : ModelS → Int32 → Int32 → Int32 → Int32 → Int32 → Prop} {M : ModelS} {v2 : Int32} {v4 : Int32} {v5 : Int32} {v6 : Int32} {v7 : Int32} (hC : ∀ (u0 : ModelS) (u1 : Int32) (u2 : Int32) (u3 : Int32) (u4 : Int32) (u5 : Int32), C u0 u1 u2 u3 u4 u5 → ∃ (x0 : ModelS), K x0) (h0 : wp_X5_make_272 K C M v2 v4 v5 v6 v7) : ∃ (x0 : ModelS), K x0 := by
  obtain ⟨mI, mA, mL⟩ := M
  unfold wp_X5_make_272 at h0
  try dsimp only at h0
  have h1 := h0 _ rfl
  exact hC _ _ _ _ _ _ h1
theorem nv_make_223 {K : ModelS → Prop} {C : ModelS → Int32 → Int32 → Int32 → Int32 → Int32 → Prop} {M : ModelS} {v2 : Int32} {v4 : Int32} {v7 : Int32} {k0 : Int32} (hC : ∀ (u0 : ModelS) (u1 : Int32) (u2 : Int32) (u3 : Int32) (u4 : Int32) (u5 : Int32), C u0 u1 u2 u3 u4 u5 → ∃ (x0 : ModelS), K x0) (h0 : wp_X5_make_223 K C M v2 v4 v7 k0) : ∃ (x0 : ModelS), K x0 := by
  obtain ⟨mI, mA, mL⟩ := M
  unfold wp_X5_make_223 at h0
  try dsimp only at h0
  have h1 := h0.2
  have h2 := h1 _ rfl
  refine em2' h2 (fun h3 => ?_) (fun h4 => ?_)
  · exact nv_make_272 hC h3
  · refine em2 h4 (fun h5 => ?_) (fun h6 => ?_)
    · exact nv_make_272 hC h5
    · have h7 := h6 _ rfl
      obtain ⟨r34, u35, h8⟩ := nv_lay h7
      exact nv_make_272 hC h8
theorem nv_make_176 {K : ModelS → Prop} : ∀ (fuel : Nat) (a0 : ModelS) (a1 : Int32) (a2 : Int32) (a3 : Int32) (a4 : Int32) (a5 : Int32), wp_X5_make_176 K fuel a0 a1 a2 a3 a4 a5 → ∃ (x0 : ModelS), K x0 := by
  intro fuel
  induction fuel with
  | zero => exact fun _ _ _ _ _ _ h => h.elim
  | succ n ih =>
    intro a0 v2 v4 v5 v6 v7 h0
    obtain ⟨mI, mA, mL⟩ := a0
    unfold wp_X5_make_176 at h0
    try dsimp only at h0
    refine em2 h0 (fun h1 => ?_) (fun h2 => ?_)
    · obtain ⟨r14, u15, h3⟩ := nv_lay h1
      obtain ⟨r16, u17, h4⟩ := nv_lay h3
      exact nv_make_307 _ _ _ _ _ h4
    · have h5 := h2.2
      obtain ⟨r24, u25, h6⟩ := nv_lay h5
      have h7 := h6.2
      refine em2' h7 (fun h8 => ?_) (fun h9 => ?_)
      · exact nv_make_223 (fun _ _ _ _ _ _ q => ih _ _ _ _ _ _ q) h8
      · exact nv_make_223 (fun _ _ _ _ _ _ q => ih _ _ _ _ _ _ q) h9
theorem nv_make_130 {K : ModelS → Prop} : ∀ (fuel : Nat) (a0 : ModelS) (a1 : Int32) (a2 : Int32) (a3 : Int32), wp_X5_make_130 K fuel a0 a1 a2 a3 → ∃ (x0 : ModelS), K x0 := by
  intro fuel
  induction fuel with
  | zero => exact fun _ _ _ _ h => h.elim
  | succ n ih =>
    intro a0 v2 v3 v4 h0
    obtain ⟨mI, mA, mL⟩ := a0
    unfold wp_X5_make_130 at h0
    try dsimp only at h0
    refine em2 h0 (fun h1 => ?_) (fun h2 => ?_)
    · obtain ⟨u12, h3⟩ := nv_say h1
      exact nv_make_176 _ _ _ _ _ _ _ h3
    · have h4 := h2.2
      obtain ⟨r37, h5⟩ := nv_nextCheck h4
      have h6 := h5 _ rfl
      exact ih _ _ _ _ h6
theorem nv_make_87 {K : ModelS → Prop} : ∀ (fuel : Nat) (a0 : ModelS) (a1 : Int32) (a2 : Int32) (a3 : Int32), wp_X5_make_87 K fuel a0 a1 a2 a3 → ∃ (x0 : ModelS), K x0 := by
  intro fuel
  induction fuel with
  | zero => exact fun _ _ _ _ h => h.elim
  | succ n ih =>
    intro a0 v1 v2 v3 h0
    obtain ⟨mI, mA, mL⟩ := a0
    unfold wp_X5_make_87 at h0
    try dsimp only at h0
    have h1 := h0.2
    refine em2 h1 (fun h2 => ?_) (fun h3 => ?_)
    · exact nv_make_130 _ _ _ _ _ h2
    · have h4 := h3.2
      obtain ⟨u40, h5⟩ := nv_say h4
      have h6 := h5 _ rfl
      exact ih _ _ _ _ h6
theorem nv_make_68 {K : ModelS → Prop} {M : ModelS} {v1 : Int32} {v2 : Int32} (h0 : wp_X5_make_68 K M v1 v2) : ∃ (x0 : ModelS), K x0 := by
  obtain ⟨mI, mA, mL⟩ := M
  unfold wp_X5_make_68 at h0
  try dsimp only at h0
  obtain ⟨u6, h1⟩ := nv_say h0
  have h2 := h1.2
  obtain ⟨u8, h3⟩ := nv_say h2
  exact nv_make_87 _ _ _ _ _ h3
theorem nv_make_41 {K : ModelS → Prop} {M : ModelS} {v1 : Int32} {v2 : Int32} (h0 : wp_X5_make_41 K M v1 v2) : ∃ (x0 : ModelS), K x0 := by
  obtain ⟨mI, mA, mL⟩ := M
  unfold wp_X5_make_41 at h0
  try dsimp only at h0
  have h1 := h0.2
  obtain ⟨u46, h2⟩ := nv_say h1
  exact nv_make_68 h2
theorem nv_make {K : ModelS → Prop} {M : ModelS} {p0 : Int32} {p1 : Int32} (h0 : wp_X5_make M p0 p1 K) : ∃ (x0 : ModelS), K x0 := by
  obtain ⟨mI, mA, mL⟩ := M
  unfold wp_X5_make at h0
  try dsimp only at h0
  obtain ⟨u1, h1⟩ := nv_say h0
  have h2 := h1.2
  refine em2 h2 (fun h3 => ?_) (fun h4 => ?_)
  · have h5 := h3.2
    obtain ⟨u5, h6⟩ := nv_say h5
    exact nv_make_68 h6
  · have h7 := h4.2
    obtain ⟨u43, h8⟩ := nv_say h7
    obtain ⟨u44, h9⟩ := nv_say h8
    exact nv_make_41 h9
theorem nv_begin_30 {K : ModelS → Prop} {M : ModelS} {v1 : Int32} (h0 : wp_X5_begin_30 K M v1) : ∃ (x0 : ModelS), K x0 := by
  obtain ⟨mI, mA, mL⟩ := M
  unfold wp_X5_begin_30 at h0
  try dsimp only at h0
  have h1 := h0.2
  exact ⟨_, h1⟩
theorem nv_begin {K : ModelS → Prop} {M : ModelS} {p0 : Int32} (h0 : wp_X5_begin M p0 K) : ∃ (x0 : ModelS), K x0 := by
  obtain ⟨mI, mA, mL⟩ := M
  unfold wp_X5_begin at h0
  try dsimp only at h0
  have h1 := h0.2
  have h2 := h1.2
  have h3 := h2.2
  have h4 := h3.2
  exact nv_begin_30 h4
theorem nv_isLong {K : Int32 → Prop} {M : ModelS} {p0 : Int32} (h0 : wp_X5_isLong M p0 K) : ∃ (x0 : Int32), K x0 := by
  obtain ⟨mI, mA, mL⟩ := M
  unfold wp_X5_isLong at h0
  try dsimp only at h0
  have h1 := h0.2
  refine em2' h1 (fun h2 => ?_) (fun h3 => ?_)
  · exact ⟨_, h2⟩
  · exact ⟨_, h3⟩
theorem nv_number_6 {K : Int32 → Prop} : ∀ (fuel : Nat) (a0 : ModelS) (a1 : Int32) (a2 : Int32) (a3 : Int32) (a4 : Int32) (a5 : Int32), wp_X5_number_6 K fuel a0 a1 a2 a3 a4 a5 → ∃ (x0 : Int32), K x0 := by
  intro fuel
  induction fuel with
  | zero => exact fun _ _ _ _ _ _ h => h.elim
  | succ n ih =>
    intro a0 v1 v2 v3 v4 v5 h0
    obtain ⟨mI, mA, mL⟩ := a0
    unfold wp_X5_number_6 at h0
    try dsimp only at h0
    refine em2 h0 (fun h1 => ?_) (fun h2 => ?_)
    · exact ⟨_, h1⟩
    · have h3 := h2.2
      have h4 := h3 _ rfl
      have h5 := h4 _ rfl
      exact ih _ _ _ _ _ _ h5
theorem nv_number {K : Int32 → Prop} {M : ModelS} {p0 : Int32} {p1 : Int32} {p2 : Int32} (h0 : wp_X5_number M p0 p1 p2 K) : ∃ (x0 : Int32), K x0 := by
  obtain ⟨mI, mA, mL⟩ := M
  unfold wp_X5_number at h0
  try dsimp only at h0
  exact nv_number_6 _ _ _ _ _ _ _ h0
theorem nv_bytesOf_17 {K : Int32 → Prop} {M : ModelS} {k0 : Int32} {k1 : Int32} (h0 : wp_X5_bytesOf_17 K M k0 k1) : ∃ (x0 : Int32), K x0 := by
  obtain ⟨mI, mA, mL⟩ := M
  unfold wp_X5_bytesOf_17 at h0
  try dsimp only at h0
  obtain ⟨r4, h1⟩ := nv_number h0
  refine em2 h1 (fun h2 => ?_) (fun h3 => ?_)
  · exact ⟨_, h2⟩
  · exact ⟨_, h3⟩
theorem nv_bytesOf {K : Int32 → Prop} {M : ModelS} {p0 : Int32} (h0 : wp_X5_bytesOf M p0 K) : ∃ (x0 : Int32), K x0 := by
  obtain ⟨mI, mA, mL⟩ := M
  unfold wp_X5_bytesOf at h0
  try dsimp only at h0
  obtain ⟨r1, h1⟩ := nv_isLong h0
  refine em2 h1 (fun h2 => ?_) (fun h3 => ?_)
  · exact nv_bytesOf_17 h2
  · exact nv_bytesOf_17 h3
theorem nv_isRight_4 {K : Int32 → Prop} : ∀ (fuel : Nat) (a0 : ModelS) (a1 : Int32) (a2 : Int32) (a3 : Int32), wp_X5_isRight_4 K fuel a0 a1 a2 a3 → ∃ (x0 : Int32), K x0 := by
  intro fuel
  induction fuel with
  | zero => exact fun _ _ _ _ h => h.elim
  | succ n ih =>
    intro a0 v1 v2 v3 h0
    obtain ⟨mI, mA, mL⟩ := a0
    unfold wp_X5_isRight_4 at h0
    try dsimp only at h0
    have h1 := h0.2
    refine em2 h1 (fun h2 => ?_) (fun h3 => ?_)
    · have h4 := h2.2
      obtain ⟨r4, h5⟩ := nv_number h4
      refine em2' h5 (fun h6 => ?_) (fun h7 => ?_)
      · exact ⟨_, h6⟩
      · exact ⟨_, h7⟩
    · have h8 := h3.2
      obtain ⟨r8, h9⟩ := nv_nextCheck h8
      have h10 := h9 _ rfl
      exact ih _ _ _ _ h10
theorem nv_isRight {K : Int32 → Prop} {M : ModelS} {p0 : Int32} (h0 : wp_X5_isRight M p0 K) : ∃ (x0 : Int32), K x0 := by
  obtain ⟨mI, mA, mL⟩ := M
  unfold wp_X5_isRight at h0
  try dsimp only at h0
  exact nv_isRight_4 _ _ _ _ _ h0
theorem nv_takeTail_43 {K : Int32 → ModelS → Prop} {M : ModelS} {v3 : Int32} (h0 : wp_X5_takeTail_43 K M v3) : ∃ (x0 : Int32) (x1 : ModelS), K x0 x1 := by
  obtain ⟨mI, mA, mL⟩ := M
  unfold wp_X5_takeTail_43 at h0
  try dsimp only at h0
  refine em2' h0 (fun h1 => ?_) (fun h2 => ?_)
  · exact ⟨_, _, h1⟩
  · exact ⟨_, _, h2⟩
theorem nv_takeTail_32 {K : Int32 → ModelS → Prop} {M : ModelS} {v2 : Int32} {v3 : Int32} (h0 : wp_X5_takeTail_32 K M v2 v3) : ∃ (x0 : Int32) (x1 : ModelS), K x0 x1 := by
  obtain ⟨mI, mA, mL⟩ := M
  unfold wp_X5_takeTail_32 at h0
  try dsimp only at h0
  refine em2 h0 (fun h1 => ?_) (fun h2 => ?_)
  · exact nv_takeTail_43 h1
  · refine em2' h2 (fun h3 => ?_) (fun h4 => ?_)
    · exact nv_takeTail_43 h3
    · exact ⟨_, _, h4⟩
theorem nv_takeTail {K : Int32 → ModelS → Prop} {M : ModelS} {p0 : Int32} {p1 : Int32} (h0 : wp_X5_takeTail M p0 p1 K) : ∃ (x0 : Int32) (x1 : ModelS), K x0 x1 := by
  obtain ⟨mI, mA, mL⟩ := M
  unfold wp_X5_takeTail at h0
  try dsimp only at h0
  have h1 := h0.2
  have h2 := h1 _ rfl
  have h3 := h2.2
  have h4 := h3.2
  refine em2' h4 (fun h5 => ?_) (fun h6 => ?_)
  · exact nv_takeTail_32 h5
  · obtain ⟨r9, h7⟩ := nv_isRight h6
    refine em2' h7 (fun h8 => ?_) (fun h9 => ?_)
    · exact nv_takeTail_32 h8
    · exact ⟨_, _, h9⟩
theorem nv_take_198 {K : Int32 → ModelS → Prop} {M : ModelS} (h0 : wp_X5_take_198 K M) : ∃ (x0 : Int32) (x1 : ModelS), K x0 x1 := by
  obtain ⟨mI, mA, mL⟩ := M
  unfold wp_X5_take_198 at h0
  try dsimp only at h0
  exact ⟨_, _, h0⟩
theorem nv_take_171 {K : Int32 → ModelS → Prop} {M : ModelS} {v1 : Int32} {k0 : Int32} {k1 : Int32} (h0 : wp_X5_take_171 K M v1 k0 k1) : ∃ (x0 : Int32) (x1 : ModelS), K x0 x1 := by
  obtain ⟨mI, mA, mL⟩ := M
  unfold wp_X5_take_171 at h0
  try dsimp only at h0
  refine em2' h0 (fun h1 => ?_) (fun h2 => ?_)
  · exact nv_take_198 h1
  · have h3 := h2.2
    obtain ⟨r24, h4⟩ := nv_bytesOf h3
    have h5 := h4.2
    exact nv_take_198 h5
theorem nv_take_139 {K : Int32 → ModelS → Prop} {M : ModelS} {v1 : Int32} (h0 : wp_X5_take_139 K M v1) : ∃ (x0 : Int32) (x1 : ModelS), K x0 x1 := by
  obtain ⟨mI, mA, mL⟩ := M
  unfold wp_X5_take_139 at h0
  try dsimp only at h0
  have h1 := h0.2
  refine em2 h1 (fun h2 => ?_) (fun h3 => ?_)
  · exact nv_take_198 h2
  · have h4 := h3.2
    obtain ⟨r19, h5⟩ := nv_isLong h4
    refine em2 h5 (fun h6 => ?_) (fun h7 => ?_)
    · exact nv_take_171 h6
    · exact nv_take_171 h7
theorem nv_take_103 {K : Int32 → ModelS → Prop} {M : ModelS} {v1 : Int32} {v2 : Int32} {k0 : Int32} {k1 : Int32} (h0 : wp_X5_take_103 K M v1 v2 k0 k1) : ∃ (x0 : Int32) (x1 : ModelS), K x0 x1 := by
  obtain ⟨mI, mA, mL⟩ := M
  unfold wp_X5_take_103 at h0
  try dsimp only at h0
  have h1 := h0.2
  have h2 := h1.2
  have h3 := h2.2
  have h4 := h3.2
  have h5 := h4.2
  have h6 := h5.2
  exact nv_take_139 h6
theorem nv_take_76 {K : Int32 → ModelS → Prop} {M : ModelS} {v1 : Int32} {v2 : Int32} (h0 : wp_X5_take_76 K M v1 v2) : ∃ (x0 : Int32) (x1 : ModelS), K x0 x1 := by
  obtain ⟨mI, mA, mL⟩ := M
  unfold wp_X5_take_76 at h0
  try dsimp only at h0
  have h1 := h0.2
  refine em2' h1 (fun h2 => ?_) (fun h3 => ?_)
  · exact nv_take_103 h2
  · have h4 := h3.2
    exact nv_take_103 h4
theorem nv_take {K : Int32 → ModelS → Prop} {M : ModelS} {p0 : Int32} {p1 : Int32} (h0 : wp_X5_take M p0 p1 K) : ∃ (x0 : Int32) (x1 : ModelS), K x0 x1 := by
  obtain ⟨mI, mA, mL⟩ := M
  unfold wp_X5_take at h0
  try dsimp only at h0
  have h1 := h0.2
  have h2 := h1.2
  refine em2' h2 (fun h3 => ?_) (fun h4 => ?_)
  · have h5 := h3.2
    refine em2' h5 (fun h6 => ?_) (fun h7 => ?_)
    · have h8 := h6.2
      refine em2' h8 (fun h9 => ?_) (fun h10 => ?_)
      · exact nv_take_76 h9
      · refine em2' h10 (fun h11 => ?_) (fun h12 => ?_)
        · exact nv_take_76 h11
        · exact ⟨_, _, h12⟩
    · have h13 := h7.2
      refine em2' h13 (fun h14 => ?_) (fun h15 => ?_)
      · have h16 := h14.2
        have h17 := h16.2
        exact ⟨_, _, h17⟩
      · exact ⟨_, _, h15⟩
  · obtain ⟨r33, u34, h18⟩ := nv_takeTail h4
    exact ⟨_, _, h18⟩
theorem nv_key {K : Int32 → Prop} {p0 : Int32} {p1 : Int32} (h0 : wp_X5_key p0 p1 K) : ∃ (x0 : Int32), K x0 := by
  unfold wp_X5_key at h0
  try dsimp only at h0
  refine em2 h0 (fun h1 => ?_) (fun h2 => ?_)
  · exact ⟨_, h1⟩
  · exact ⟨_, h2⟩
theorem nv_comesFirst {K : Int32 → Prop} {M : ModelS} {p0 : Int32} {p1 : Int32} (h0 : wp_X5_comesFirst M p0 p1 K) : ∃ (x0 : Int32), K x0 := by
  obtain ⟨mI, mA, mL⟩ := M
  unfold wp_X5_comesFirst at h0
  try dsimp only at h0
  have h1 := h0.2
  have h2 := h1.2
  obtain ⟨r3, h3⟩ := nv_key h2
  have h4 := h3.2
  have h5 := h4.2
  obtain ⟨r6, h6⟩ := nv_key h5
  refine em2 h6 (fun h7 => ?_) (fun h8 => ?_)
  · have h9 := h7.2
    have h10 := h9.2
    refine em2 h10 (fun h11 => ?_) (fun h12 => ?_)
    · have h13 := h11.2
      have h14 := h13.2
      refine em2 h14 (fun h15 => ?_) (fun h16 => ?_)
      · exact ⟨_, h15⟩
      · exact ⟨_, h16⟩
    · have h17 := h12.2
      have h18 := h17.2
      exact ⟨_, h18⟩
  · refine em2 h8 (fun h19 => ?_) (fun h20 => ?_)
    · exact ⟨_, h19⟩
    · exact ⟨_, h20⟩
theorem nv_offer_40 {K : Int32 → Prop} {C : ModelS → Int32 → Int32 → Int32 → Prop} {M : ModelS} {v1 : Int32} {v3 : Int32} {k0 : Int32} (hC : ∀ (u0 : ModelS) (u1 : Int32) (u2 : Int32) (u3 : Int32), C u0 u1 u2 u3 → ∃ (x0 : Int32), K x0) (h0 : wp_X5_offer_40 K C M v1 v3 k0) : ∃ (x0 : Int32), K x0 := by
  obtain ⟨mI, mA, mL⟩ := M
  unfold wp_X5_offer_40 at h0
  try dsimp only at h0
  have h1 := h0 _ rfl
  exact hC _ _ _ _ h1
theorem nv_offer_31 {K : Int32 → Prop} {C : ModelS → Int32 → Int32 → Int32 → Prop} {M : ModelS} {v1 : Int32} {v3 : Int32} (hC : ∀ (u0 : ModelS) (u1 : Int32) (u2 : Int32) (u3 : Int32), C u0 u1 u2 u3 → ∃ (x0 : Int32), K x0) (h0 : wp_X5_offer_31 K C M v1 v3) : ∃ (x0 : Int32), K x0 := by
  obtain ⟨mI, mA, mL⟩ := M
  unfold wp_X5_offer_31 at h0
  try dsimp only at h0
  exact nv_offer_40 hC h0
theorem nv_offer_4 {K : Int32 → Prop} : ∀ (fuel : Nat) (a0 : ModelS) (a1 : Int32) (a2 : Int32) (a3 : Int32), wp_X5_offer_4 K fuel a0 a1 a2 a3 → ∃ (x0 : Int32), K x0 := by
  intro fuel
  induction fuel with
  | zero => exact fun _ _ _ _ h => h.elim
  | succ n ih =>
    intro a0 v1 v2 v3 h0
    obtain ⟨mI, mA, mL⟩ := a0
    unfold wp_X5_offer_4 at h0
    try dsimp only at h0
    have h1 := h0.2
    refine em2 h1 (fun h2 => ?_) (fun h3 => ?_)
    · exact ⟨_, h2⟩
    · refine em2 h3 (fun h4 => ?_) (fun h5 => ?_)
      · exact nv_offer_31 (fun _ _ _ _ q => ih _ _ _ _ q) h4
      · obtain ⟨r5, h6⟩ := nv_comesFirst h5
        refine em2 h6 (fun h7 => ?_) (fun h8 => ?_)
        · exact nv_offer_40 (fun _ _ _ _ q => ih _ _ _ _ q) h7
        · exact nv_offer_31 (fun _ _ _ _ q => ih _ _ _ _ q) h8
theorem nv_offer {K : Int32 → Prop} {M : ModelS} {p0 : Int32} (h0 : wp_X5_offer M p0 K) : ∃ (x0 : Int32), K x0 := by
  obtain ⟨mI, mA, mL⟩ := M
  unfold wp_X5_offer at h0
  try dsimp only at h0
  exact nv_offer_4 _ _ _ _ _ h0
theorem nv_sentOne_4 {K : Int32 → Prop} : ∀ (fuel : Nat) (a0 : ModelS) (a1 : Int32) (a2 : Int32), wp_X5_sentOne_4 K fuel a0 a1 a2 → ∃ (x0 : Int32), K x0 := by
  intro fuel
  induction fuel with
  | zero => exact fun _ _ _ h => h.elim
  | succ n ih =>
    intro a0 v1 v2 h0
    obtain ⟨mI, mA, mL⟩ := a0
    unfold wp_X5_sentOne_4 at h0
    try dsimp only at h0
    have h1 := h0.2
    have h2 := h1.2
    refine em2 h2 (fun h3 => ?_) (fun h4 => ?_)
    · exact ⟨_, h3⟩
    · have h5 := h4 _ rfl
      exact ih _ _ _ h5
theorem nv_sentOne {K : Int32 → Prop} {M : ModelS} {p0 : Int32} (h0 : wp_X5_sentOne M p0 K) : ∃ (x0 : Int32), K x0 := by
  obtain ⟨mI, mA, mL⟩ := M
  unfold wp_X5_sentOne at h0
  try dsimp only at h0
  have h1 := h0 _ rfl
  exact nv_sentOne_4 _ _ _ _ h1
theorem nv_forget_88 {K : ModelS → Prop} {C : ModelS → Int32 → Int32 → Prop} {M : ModelS} {v1 : Int32} {v3 : Int32} (hC : ∀ (u0 : ModelS) (u1 : Int32) (u2 : Int32), C u0 u1 u2 → ∃ (x0 : ModelS), K x0) (h0 : wp_X5_forget_88 K C M v1 v3) : ∃ (x0 : ModelS), K x0 := by
  obtain ⟨mI, mA, mL⟩ := M
  unfold wp_X5_forget_88 at h0
  try dsimp only at h0
  have h1 := h0.2
  have h2 := h1.2
  have h3 := h2 _ rfl
  exact hC _ _ _ h3
theorem nv_forget_18 {K : ModelS → Prop} : ∀ (fuel : Nat) (a0 : ModelS) (a1 : Int32) (a2 : Int32), wp_X5_forget_18 K fuel a0 a1 a2 → ∃ (x0 : ModelS), K x0 := by
  intro fuel
  induction fuel with
  | zero => exact fun _ _ _ h => h.elim
  | succ n ih =>
    intro a0 v1 v3 h0
    obtain ⟨mI, mA, mL⟩ := a0
    unfold wp_X5_forget_18 at h0
    try dsimp only at h0
    have h1 := h0.2
    refine em2 h1 (fun h2 => ?_) (fun h3 => ?_)
    · exact ⟨_, h2⟩
    · have h4 := h3.2
      have h5 := h4.2
      have h6 := h5.2
      have h7 := h6.2
      have h8 := h7.2
      have h9 := h8.2
      have h10 := h9.2
      have h11 := h10.2
      have h12 := h11.2
      exact nv_forget_88 (fun _ _ _ q => ih _ _ _ q) h12
theorem nv_forget {K : ModelS → Prop} {M : ModelS} {p0 : Int32} (h0 : wp_X5_forget M p0 K) : ∃ (x0 : ModelS), K x0 := by
  obtain ⟨mI, mA, mL⟩ := M
  unfold wp_X5_forget at h0
  try dsimp only at h0
  obtain ⟨r1, h1⟩ := nv_sentOne h0
  have h2 := h1.2
  have h3 := h2.2
  exact nv_forget_18 _ _ _ _ h3
theorem nv_saw_119 {K : Int32 → ModelS → Prop} {M : ModelS} (h0 : wp_X5_saw_119 K M) : ∃ (x0 : Int32) (x1 : ModelS), K x0 x1 := by
  obtain ⟨mI, mA, mL⟩ := M
  unfold wp_X5_saw_119 at h0
  try dsimp only at h0
  exact ⟨_, _, h0⟩
theorem nv_saw_100 {K : Int32 → ModelS → Prop} {M : ModelS} {v1 : Int32} {v3 : Int32} {v4 : Int32} {k0 : Int32} (h0 : wp_X5_saw_100 K M v1 v3 v4 k0) : ∃ (x0 : Int32) (x1 : ModelS), K x0 x1 := by
  obtain ⟨mI, mA, mL⟩ := M
  unfold wp_X5_saw_100 at h0
  try dsimp only at h0
  refine em2 h0 (fun h1 => ?_) (fun h2 => ?_)
  · exact nv_saw_119 h1
  · refine em2 h2 (fun h3 => ?_) (fun h4 => ?_)
    · exact nv_saw_119 h3
    · refine em2 h4 (fun h5 => ?_) (fun h6 => ?_)
      · have h7 := h5.2
        exact ⟨_, _, h7⟩
      · exact nv_saw_119 h6
theorem nv_saw {K : Int32 → ModelS → Prop} {M : ModelS} {p0 : Int32} {p1 : Int32} (h0 : wp_X5_saw M p0 p1 K) : ∃ (x0 : Int32) (x1 : ModelS), K x0 x1 := by
  obtain ⟨mI, mA, mL⟩ := M
  unfold wp_X5_saw at h0
  try dsimp only at h0
  have h1 := h0.2
  have h2 := h1.2
  have h3 := h2 _ rfl
  have h4 := h3.2
  have h5 := h4.2
  have h6 := h5 _ rfl
  obtain ⟨r7, u8, h7⟩ := nv_take h6
  have h8 := h7.2
  have h9 := h8.2
  refine em2' h9 (fun h10 => ?_) (fun h11 => ?_)
  · refine em2' h10 (fun h12 => ?_) (fun h13 => ?_)
    · obtain ⟨r13, h14⟩ := nv_sentOne h12
      have h15 := h14.2
      refine em2 h15 (fun h16 => ?_) (fun h17 => ?_)
      · exact nv_saw_100 h16
      · exact nv_saw_100 h17
    · exact ⟨_, _, h13⟩
  · refine em2' h11 (fun h18 => ?_) (fun h19 => ?_)
    · exact ⟨_, _, h18⟩
    · exact ⟨_, _, h19⟩
theorem nv_idle {K : Int32 → ModelS → Prop} {M : ModelS} {p0 : Int32} {p1 : Int32} (h0 : wp_X5_idle M p0 p1 K) : ∃ (x0 : Int32) (x1 : ModelS), K x0 x1 := by
  obtain ⟨mI, mA, mL⟩ := M
  unfold wp_X5_idle at h0
  try dsimp only at h0
  refine em2' h0 (fun h1 => ?_) (fun h2 => ?_)
  · exact ⟨_, _, h1⟩
  · have h3 := h2.2
    obtain ⟨u3, h4⟩ := nv_begin h3
    obtain ⟨r4, u5, h5⟩ := nv_take h4
    exact ⟨_, _, h5⟩
theorem nv_sees {K : Int32 → ModelS → Prop} {M : ModelS} {p0 : Int32} {p1 : Int32} (h0 : wp_X5_sees M p0 p1 K) : ∃ (x0 : Int32) (x1 : ModelS), K x0 x1 := by
  obtain ⟨mI, mA, mL⟩ := M
  unfold wp_X5_sees at h0
  try dsimp only at h0
  have h1 := h0.2
  refine em2' h1 (fun h2 => ?_) (fun h3 => ?_)
  · have h4 := h2.2
    refine em2' h4 (fun h5 => ?_) (fun h6 => ?_)
    · have h7 := h5.2
      refine em2' h7 (fun h8 => ?_) (fun h9 => ?_)
      · exact ⟨_, _, h8⟩
      · obtain ⟨r7, u8, h10⟩ := nv_idle h9
        exact ⟨_, _, h10⟩
    · obtain ⟨r9, u10, h11⟩ := nv_take h6
      exact ⟨_, _, h11⟩
  · obtain ⟨r11, u12, h12⟩ := nv_saw h3
    exact ⟨_, _, h12⟩
theorem nv_keep_165 {K : ModelS → Prop} {M : ModelS} {v1 : Int32} {k0 : Int32} {k1 : Int32} (h0 : wp_X5_keep_165 K M v1 k0 k1) : ∃ (x0 : ModelS), K x0 := by
  obtain ⟨mI, mA, mL⟩ := M
  unfold wp_X5_keep_165 at h0
  try dsimp only at h0
  have h1 := h0.2
  have h2 := h1.2
  exact ⟨_, h2⟩
theorem nv_keep_96 {K : ModelS → Prop} {C : ModelS → Int32 → Int32 → Int64 → Int32 → Prop} {M : ModelS} {v1 : Int32} {v2 : Int32} {v5 : Int32} {k0 : Int32} {k1 : Int32} {k3 : Int64} (hC : ∀ (u0 : ModelS) (u1 : Int32) (u2 : Int32) (u3 : Int64) (u4 : Int32), C u0 u1 u2 u3 u4 → ∃ (x0 : ModelS), K x0) (h0 : wp_X5_keep_96 K C M v1 v2 v5 k0 k1 k3) : ∃ (x0 : ModelS), K x0 := by
  obtain ⟨mI, mA, mL⟩ := M
  unfold wp_X5_keep_96 at h0
  try dsimp only at h0
  obtain ⟨r22, h1⟩ := nv_number h0
  have h2 := h1 _ rfl
  have h3 := h2 _ rfl
  exact hC _ _ _ _ _ h3
theorem nv_keep_71 {K : ModelS → Prop} : ∀ (fuel : Nat) (a0 : ModelS) (a1 : Int32) (a2 : Int32) (a3 : Int64) (a4 : Int32), wp_X5_keep_71 K fuel a0 a1 a2 a3 a4 → ∃ (x0 : ModelS), K x0 := by
  intro fuel
  induction fuel with
  | zero => exact fun _ _ _ _ _ h => h.elim
  | succ n ih =>
    intro a0 v1 v2 v3 v5 h0
    obtain ⟨mI, mA, mL⟩ := a0
    unfold wp_X5_keep_71 at h0
    try dsimp only at h0
    have h1 := h0.2
    refine em2 h1 (fun h2 => ?_) (fun h3 => ?_)
    · have h4 := h2.2
      have h5 := h4.2
      have h6 := h5.2
      have h7 := h6.2
      refine em2 h7 (fun h8 => ?_) (fun h9 => ?_)
      · exact nv_keep_165 h8
      · have h10 := h9.2
        exact nv_keep_165 h10
    · refine em2 h3 (fun h11 => ?_) (fun h12 => ?_)
      · exact nv_keep_96 (fun _ _ _ _ _ q => ih _ _ _ _ _ q) h11
      · exact nv_keep_96 (fun _ _ _ _ _ q => ih _ _ _ _ _ q) h12
theorem nv_keep_54 {K : ModelS → Prop} {M : ModelS} {v1 : Int32} {v2 : Int32} {k0 : Int32} {k1 : Int32} (h0 : wp_X5_keep_54 K M v1 v2 k0 k1) : ∃ (x0 : ModelS), K x0 := by
  obtain ⟨mI, mA, mL⟩ := M
  unfold wp_X5_keep_54 at h0
  try dsimp only at h0
  have h1 := h0.2
  obtain ⟨r8, h2⟩ := nv_bytesOf h1
  have h3 := h2.2
  exact nv_keep_71 _ _ _ _ _ _ h3
theorem nv_keep {K : ModelS → Prop} {M : ModelS} {p0 : Int32} (h0 : wp_X5_keep M p0 K) : ∃ (x0 : ModelS), K x0 := by
  obtain ⟨mI, mA, mL⟩ := M
  unfold wp_X5_keep at h0
  try dsimp only at h0
  obtain ⟨r1, h1⟩ := nv_isLong h0
  have h2 := h1.2
  have h3 := h2.2
  refine em2 h3 (fun h4 => ?_) (fun h5 => ?_)
  · obtain ⟨r5, h6⟩ := nv_number h4
    exact nv_keep_54 h6
  · obtain ⟨r26, h7⟩ := nv_number h5
    obtain ⟨r28, h8⟩ := nv_number h7
    exact nv_keep_54 h8
