def wp_X5_liveStep_241 (K : Int32 → ModelS → Prop) : ModelS → Int32 → Prop := fun (mI, mA, mL) v3 => K v3 (mI, mA, mL)
def wp_X5_liveStep_235 (K : Int32 → ModelS → Prop) : ModelS → Int32 → Int32 → Prop := fun (mI, mA, mL) v3 v5 => wp_X5_finish (mI, mA, mL) v5 (fun u38 => wp_X5_liveStep_241 K (u38.1, u38.2.1, u38.2.2) v3)
def wp_X5_liveStep_83_4 (K : Int32 → ModelS → Prop) : ModelS → Int32 → Int32 → Int32 → Int32 → Int32 → Int32 → Prop := fun (mI, mA, mL) v1 v2 v3 v4 v5 v6 => ((v4 ≤ 0 → ((v2 = 0 → wp_X5_liveStep_235 K (mI, mA, mL) v3 v5) ∧ (¬ v2 = 0 → ((v6 = 0 → wp_X5_liveStep_241 K (mI, mA, mL) v3) ∧ (¬ v6 = 0 → wp_X5_liveStep_235 K (mI, mA, mL) v3 v5))))) ∧ (¬ v4 ≤ 0 → wp_X5_breakOff (mI, mA, mL) v4 (fun u40 => wp_X5_liveStep_241 K (u40.1, u40.2.1, u40.2.2) v3)))
def wp_X5_liveStep_206_3 (K : Int32 → ModelS → Prop) : ModelS → Int32 → Int32 → Int32 → Int32 → Int32 → Int32 → Prop := fun (mI, mA, mL) v1 v2 v3 v4 v5 v6 => wp_X5_liveStep_83_4 K (mI, mA, mL) v1 v2 v3 v4 v5 v6
def wp_X5_liveStep_174_3 (K : Int32 → ModelS → Prop) : ModelS → Int32 → Int32 → Int32 → Int32 → Int32 → Int32 → Int32 → Prop := fun (mI, mA, mL) v1 v2 v3 v4 v6 v9 k0 => ((v9 ≤ 0 → wp_X5_liveStep_206_3 K (mI, mA, mL) v1 v2 v3 v4 k0 v6) ∧ (¬ v9 ≤ 0 → ((9 ≤ v9 → wp_X5_liveStep_206_3 K (mI, mA, mL) v1 v2 v3 v4 k0 v6) ∧ (¬ 9 ≤ v9 → (∀ n42 : Int32, n42 = v4 ||| 8 → wp_X5_liveStep_206_3 K (mI, va_up mA 8 (upd (mA 8) 3 v9), mL) v1 v2 v3 n42 k0 v6)))))
def wp_X5_liveStep_153_3 (K : Int32 → ModelS → Prop) : ModelS → Int32 → Int32 → Int32 → Int32 → Int32 → Int32 → Int32 → Prop := fun (mI, mA, mL) v1 v2 v3 v4 v5 v9 k0 => ((¬ v9 = 9 → wp_X5_liveStep_174_3 K (mI, mA, mL) v1 v2 v3 v4 k0 v9 v5) ∧ (v9 = 9 → wp_X5_liveStep_174_3 K (mI, mA, mL) v1 v2 v3 v4 k0 v9 (v5 ||| 8)))
def wp_X5_liveStep_148_3 (K : Int32 → ModelS → Prop) : ModelS → Int32 → Int32 → Int32 → Int32 → Int32 → Int32 → Prop := fun (mI, mA, mL) v1 v2 v3 v4 v5 v9 => wp_X5_liveStep_153_3 K (mI, mA, mL) v1 v2 v3 v4 v5 v9 1
def wp_X5_liveStep_130_3 (K : Int32 → ModelS → Prop) : ModelS → Int32 → Int32 → Int32 → Int32 → Int32 → Int32 → Int32 → Prop := fun (mI, mA, mL) v1 v2 v3 v4 v5 v6 k0 => ((¬ v6 = 0 → wp_X5_liveStep_148_3 K (mI, mA, mL) v1 v2 v3 v4 v5 k0) ∧ (v6 = 0 → ((¬ (mA 3) 3 = 2 → wp_X5_liveStep_153_3 K (mI, mA, mL) v1 v2 v3 v4 v5 k0 0) ∧ ((mA 3) 3 = 2 → wp_X5_liveStep_148_3 K (mI, mA, mL) v1 v2 v3 v4 v5 k0))))
def wp_X5_liveStep_106_3 (K : Int32 → ModelS → Prop) : ModelS → Int32 → Int32 → Int32 → Int32 → Int32 → Int32 → Int32 → Prop := fun (mI, mA, mL) v1 v2 v3 v4 v5 v6 k0 => ((¬ (mA 3) 3 = 0 → wp_X5_sees (mI, mA, mL) 3 k0 (fun r31 u32 => wp_X5_liveStep_130_3 K (u32.1, u32.2.1, u32.2.2) v1 v2 v3 v4 v5 v6 r31)) ∧ ((mA 3) 3 = 0 → wp_X5_liveStep_130_3 K (mI, mA, mL) v1 v2 v3 v4 v5 v6 0))
def wp_X5_liveStep_83_3 (K : Int32 → ModelS → Prop) : ModelS → Int32 → Int32 → Int32 → Int32 → Int32 → Int32 → Prop := fun (mI, mA, mL) v1 v2 v3 v4 v5 v6 => ((¬ (v1 >>> (3 &&& 31)) &&& 1 = 1 → wp_X5_liveStep_106_3 K (mI, mA, mL) v1 v2 v3 v4 v5 v6 v3) ∧ ((v1 >>> (3 &&& 31)) &&& 1 = 1 → wp_X5_liveStep_106_3 K (mI, mA, mL) v1 v2 v3 v4 v5 v6 (1 - v3)))
def wp_X5_liveStep_206_2 (K : Int32 → ModelS → Prop) : ModelS → Int32 → Int32 → Int32 → Int32 → Int32 → Int32 → Prop := fun (mI, mA, mL) v1 v2 v3 v4 v5 v6 => wp_X5_liveStep_83_3 K (mI, mA, mL) v1 v2 v3 v4 v5 v6
def wp_X5_liveStep_174_2 (K : Int32 → ModelS → Prop) : ModelS → Int32 → Int32 → Int32 → Int32 → Int32 → Int32 → Int32 → Prop := fun (mI, mA, mL) v1 v2 v3 v4 v6 v9 k0 => ((v9 ≤ 0 → wp_X5_liveStep_206_2 K (mI, mA, mL) v1 v2 v3 v4 k0 v6) ∧ (¬ v9 ≤ 0 → ((9 ≤ v9 → wp_X5_liveStep_206_2 K (mI, mA, mL) v1 v2 v3 v4 k0 v6) ∧ (¬ 9 ≤ v9 → (∀ n45 : Int32, n45 = v4 ||| 4 → wp_X5_liveStep_206_2 K (mI, va_up mA 8 (upd (mA 8) 2 v9), mL) v1 v2 v3 n45 k0 v6)))))
def wp_X5_liveStep_153_2 (K : Int32 → ModelS → Prop) : ModelS → Int32 → Int32 → Int32 → Int32 → Int32 → Int32 → Int32 → Prop := fun (mI, mA, mL) v1 v2 v3 v4 v5 v9 k0 => ((¬ v9 = 9 → wp_X5_liveStep_174_2 K (mI, mA, mL) v1 v2 v3 v4 k0 v9 v5) ∧ (v9 = 9 → wp_X5_liveStep_174_2 K (mI, mA, mL) v1 v2 v3 v4 k0 v9 (v5 ||| 4)))
def wp_X5_liveStep_148_2 (K : Int32 → ModelS → Prop) : ModelS → Int32 → Int32 → Int32 → Int32 → Int32 → Int32 → Prop := fun (mI, mA, mL) v1 v2 v3 v4 v5 v9 => wp_X5_liveStep_153_2 K (mI, mA, mL) v1 v2 v3 v4 v5 v9 1
def wp_X5_liveStep_130_2 (K : Int32 → ModelS → Prop) : ModelS → Int32 → Int32 → Int32 → Int32 → Int32 → Int32 → Int32 → Prop := fun (mI, mA, mL) v1 v2 v3 v4 v5 v6 k0 => ((¬ v6 = 0 → wp_X5_liveStep_148_2 K (mI, mA, mL) v1 v2 v3 v4 v5 k0) ∧ (v6 = 0 → ((¬ (mA 3) 2 = 2 → wp_X5_liveStep_153_2 K (mI, mA, mL) v1 v2 v3 v4 v5 k0 0) ∧ ((mA 3) 2 = 2 → wp_X5_liveStep_148_2 K (mI, mA, mL) v1 v2 v3 v4 v5 k0))))
def wp_X5_liveStep_106_2 (K : Int32 → ModelS → Prop) : ModelS → Int32 → Int32 → Int32 → Int32 → Int32 → Int32 → Int32 → Prop := fun (mI, mA, mL) v1 v2 v3 v4 v5 v6 k0 => ((¬ (mA 3) 2 = 0 → wp_X5_sees (mI, mA, mL) 2 k0 (fun r24 u25 => wp_X5_liveStep_130_2 K (u25.1, u25.2.1, u25.2.2) v1 v2 v3 v4 v5 v6 r24)) ∧ ((mA 3) 2 = 0 → wp_X5_liveStep_130_2 K (mI, mA, mL) v1 v2 v3 v4 v5 v6 0))
def wp_X5_liveStep_83_2 (K : Int32 → ModelS → Prop) : ModelS → Int32 → Int32 → Int32 → Int32 → Int32 → Int32 → Prop := fun (mI, mA, mL) v1 v2 v3 v4 v5 v6 => ((¬ (v1 >>> (2 &&& 31)) &&& 1 = 1 → wp_X5_liveStep_106_2 K (mI, mA, mL) v1 v2 v3 v4 v5 v6 v3) ∧ ((v1 >>> (2 &&& 31)) &&& 1 = 1 → wp_X5_liveStep_106_2 K (mI, mA, mL) v1 v2 v3 v4 v5 v6 (1 - v3)))
def wp_X5_liveStep_206_1 (K : Int32 → ModelS → Prop) : ModelS → Int32 → Int32 → Int32 → Int32 → Int32 → Int32 → Prop := fun (mI, mA, mL) v1 v2 v3 v4 v5 v6 => wp_X5_liveStep_83_2 K (mI, mA, mL) v1 v2 v3 v4 v5 v6
def wp_X5_liveStep_174_1 (K : Int32 → ModelS → Prop) : ModelS → Int32 → Int32 → Int32 → Int32 → Int32 → Int32 → Int32 → Prop := fun (mI, mA, mL) v1 v2 v3 v4 v6 v9 k0 => ((v9 ≤ 0 → wp_X5_liveStep_206_1 K (mI, mA, mL) v1 v2 v3 v4 k0 v6) ∧ (¬ v9 ≤ 0 → ((9 ≤ v9 → wp_X5_liveStep_206_1 K (mI, mA, mL) v1 v2 v3 v4 k0 v6) ∧ (¬ 9 ≤ v9 → (∀ n48 : Int32, n48 = v4 ||| 2 → wp_X5_liveStep_206_1 K (mI, va_up mA 8 (upd (mA 8) 1 v9), mL) v1 v2 v3 n48 k0 v6)))))
def wp_X5_liveStep_153_1 (K : Int32 → ModelS → Prop) : ModelS → Int32 → Int32 → Int32 → Int32 → Int32 → Int32 → Int32 → Prop := fun (mI, mA, mL) v1 v2 v3 v4 v5 v9 k0 => ((¬ v9 = 9 → wp_X5_liveStep_174_1 K (mI, mA, mL) v1 v2 v3 v4 k0 v9 v5) ∧ (v9 = 9 → wp_X5_liveStep_174_1 K (mI, mA, mL) v1 v2 v3 v4 k0 v9 (v5 ||| 2)))
def wp_X5_liveStep_148_1 (K : Int32 → ModelS → Prop) : ModelS → Int32 → Int32 → Int32 → Int32 → Int32 → Int32 → Prop := fun (mI, mA, mL) v1 v2 v3 v4 v5 v9 => wp_X5_liveStep_153_1 K (mI, mA, mL) v1 v2 v3 v4 v5 v9 1
def wp_X5_liveStep_130_1 (K : Int32 → ModelS → Prop) : ModelS → Int32 → Int32 → Int32 → Int32 → Int32 → Int32 → Int32 → Prop := fun (mI, mA, mL) v1 v2 v3 v4 v5 v6 k0 => ((¬ v6 = 0 → wp_X5_liveStep_148_1 K (mI, mA, mL) v1 v2 v3 v4 v5 k0) ∧ (v6 = 0 → ((¬ (mA 3) 1 = 2 → wp_X5_liveStep_153_1 K (mI, mA, mL) v1 v2 v3 v4 v5 k0 0) ∧ ((mA 3) 1 = 2 → wp_X5_liveStep_148_1 K (mI, mA, mL) v1 v2 v3 v4 v5 k0))))
def wp_X5_liveStep_106_1 (K : Int32 → ModelS → Prop) : ModelS → Int32 → Int32 → Int32 → Int32 → Int32 → Int32 → Int32 → Prop := fun (mI, mA, mL) v1 v2 v3 v4 v5 v6 k0 => ((¬ (mA 3) 1 = 0 → wp_X5_sees (mI, mA, mL) 1 k0 (fun r17 u18 => wp_X5_liveStep_130_1 K (u18.1, u18.2.1, u18.2.2) v1 v2 v3 v4 v5 v6 r17)) ∧ ((mA 3) 1 = 0 → wp_X5_liveStep_130_1 K (mI, mA, mL) v1 v2 v3 v4 v5 v6 0))
def wp_X5_liveStep_83_1 (K : Int32 → ModelS → Prop) : ModelS → Int32 → Int32 → Int32 → Int32 → Int32 → Int32 → Prop := fun (mI, mA, mL) v1 v2 v3 v4 v5 v6 => ((¬ (v1 >>> (1 &&& 31)) &&& 1 = 1 → wp_X5_liveStep_106_1 K (mI, mA, mL) v1 v2 v3 v4 v5 v6 v3) ∧ ((v1 >>> (1 &&& 31)) &&& 1 = 1 → wp_X5_liveStep_106_1 K (mI, mA, mL) v1 v2 v3 v4 v5 v6 (1 - v3)))
def wp_X5_liveStep_206_0 (K : Int32 → ModelS → Prop) : ModelS → Int32 → Int32 → Int32 → Int32 → Int32 → Int32 → Prop := fun (mI, mA, mL) v1 v2 v3 v4 v5 v6 => wp_X5_liveStep_83_1 K (mI, mA, mL) v1 v2 v3 v4 v5 v6
def wp_X5_liveStep_174_0 (K : Int32 → ModelS → Prop) : ModelS → Int32 → Int32 → Int32 → Int32 → Int32 → Int32 → Int32 → Prop := fun (mI, mA, mL) v1 v2 v3 v4 v6 v9 k0 => ((v9 ≤ 0 → wp_X5_liveStep_206_0 K (mI, mA, mL) v1 v2 v3 v4 k0 v6) ∧ (¬ v9 ≤ 0 → ((9 ≤ v9 → wp_X5_liveStep_206_0 K (mI, mA, mL) v1 v2 v3 v4 k0 v6) ∧ (¬ 9 ≤ v9 → (∀ n51 : Int32, n51 = v4 ||| 1 → wp_X5_liveStep_206_0 K (mI, va_up mA 8 (upd (mA 8) 0 v9), mL) v1 v2 v3 n51 k0 v6)))))
def wp_X5_liveStep_153_0 (K : Int32 → ModelS → Prop) : ModelS → Int32 → Int32 → Int32 → Int32 → Int32 → Int32 → Int32 → Prop := fun (mI, mA, mL) v1 v2 v3 v4 v5 v9 k0 => ((¬ v9 = 9 → wp_X5_liveStep_174_0 K (mI, mA, mL) v1 v2 v3 v4 k0 v9 v5) ∧ (v9 = 9 → wp_X5_liveStep_174_0 K (mI, mA, mL) v1 v2 v3 v4 k0 v9 (v5 ||| 1)))
def wp_X5_liveStep_148_0 (K : Int32 → ModelS → Prop) : ModelS → Int32 → Int32 → Int32 → Int32 → Int32 → Int32 → Prop := fun (mI, mA, mL) v1 v2 v3 v4 v5 v9 => wp_X5_liveStep_153_0 K (mI, mA, mL) v1 v2 v3 v4 v5 v9 1
def wp_X5_liveStep_130_0 (K : Int32 → ModelS → Prop) : ModelS → Int32 → Int32 → Int32 → Int32 → Int32 → Int32 → Int32 → Prop := fun (mI, mA, mL) v1 v2 v3 v4 v5 v6 k0 => ((¬ v6 = 0 → wp_X5_liveStep_148_0 K (mI, mA, mL) v1 v2 v3 v4 v5 k0) ∧ (v6 = 0 → ((¬ (mA 3) 0 = 2 → wp_X5_liveStep_153_0 K (mI, mA, mL) v1 v2 v3 v4 v5 k0 0) ∧ ((mA 3) 0 = 2 → wp_X5_liveStep_148_0 K (mI, mA, mL) v1 v2 v3 v4 v5 k0))))
def wp_X5_liveStep_106_0 (K : Int32 → ModelS → Prop) : ModelS → Int32 → Int32 → Int32 → Int32 → Int32 → Int32 → Int32 → Prop := fun (mI, mA, mL) v1 v2 v3 v4 v5 v6 k0 => ((¬ (mA 3) 0 = 0 → wp_X5_sees (mI, mA, mL) 0 k0 (fun r10 u11 => wp_X5_liveStep_130_0 K (u11.1, u11.2.1, u11.2.2) v1 v2 v3 v4 v5 v6 r10)) ∧ ((mA 3) 0 = 0 → wp_X5_liveStep_130_0 K (mI, mA, mL) v1 v2 v3 v4 v5 v6 0))
def wp_X5_liveStep_83_0 (K : Int32 → ModelS → Prop) : ModelS → Int32 → Int32 → Int32 → Int32 → Int32 → Int32 → Prop := fun (mI, mA, mL) v1 v2 v3 v4 v5 v6 => ((¬ (v1 >>> (0 &&& 31)) &&& 1 = 1 → wp_X5_liveStep_106_0 K (mI, mA, mL) v1 v2 v3 v4 v5 v6 v3) ∧ ((v1 >>> (0 &&& 31)) &&& 1 = 1 → wp_X5_liveStep_106_0 K (mI, mA, mL) v1 v2 v3 v4 v5 v6 (1 - v3)))
def wp_X5_liveStep_78 (K : Int32 → ModelS → Prop) : ModelS → Int32 → Int32 → Int32 → Int32 → Int32 → Int32 → Prop := fun (mI, mA, mL) v1 v2 v3 v4 v5 k0 => wp_X5_liveStep_83_0 K (mI, mA, mL) v1 v2 v3 v4 v5 k0
def wp_X5_liveStep_26_4 (K : Int32 → ModelS → Prop) : ModelS → Int32 → Int32 → Int32 → Prop := fun (mI, mA, mL) v1 v2 v3 => ((¬ v3 = 0 → wp_X5_liveStep_78 K (mI, mA, mL) v1 v2 v3 0 0 0) ∧ (v3 = 0 → wp_X5_liveStep_78 K (mI, mA, mL) v1 v2 v3 0 0 1))
def wp_X5_liveStep_56_3 (K : Int32 → ModelS → Prop) : ModelS → Int32 → Int32 → Int32 → Prop := fun (mI, mA, mL) v1 v2 k0 => wp_X5_liveStep_26_4 K (mI, mA, mL) v1 v2 k0
def wp_X5_liveStep_55_3 (K : Int32 → ModelS → Prop) : ModelS → Int32 → Int32 → Int32 → Prop := fun (mI, mA, mL) v1 v2 v3 => wp_X5_liveStep_56_3 K (mI, mA, mL) v1 v2 v3
def wp_X5_liveStep_26_3 (K : Int32 → ModelS → Prop) : ModelS → Int32 → Int32 → Int32 → Prop := fun (mI, mA, mL) v1 v2 v3 => (((mA 3) 3 = 0 → wp_X5_liveStep_55_3 K (mI, mA, mL) v1 v2 v3) ∧ (¬ (mA 3) 3 = 0 → wp_X5_sends (mI, mA, mL) 3 (fun r53 => ((¬ r53 = 0 → wp_X5_liveStep_55_3 K (mI, mA, mL) v1 v2 v3) ∧ (r53 = 0 → wp_X5_liveStep_56_3 K (mI, mA, mL) v1 v2 0)))))
def wp_X5_liveStep_56_2 (K : Int32 → ModelS → Prop) : ModelS → Int32 → Int32 → Int32 → Prop := fun (mI, mA, mL) v1 v2 k0 => wp_X5_liveStep_26_3 K (mI, mA, mL) v1 v2 k0
def wp_X5_liveStep_55_2 (K : Int32 → ModelS → Prop) : ModelS → Int32 → Int32 → Int32 → Prop := fun (mI, mA, mL) v1 v2 v3 => wp_X5_liveStep_56_2 K (mI, mA, mL) v1 v2 v3
def wp_X5_liveStep_26_2 (K : Int32 → ModelS → Prop) : ModelS → Int32 → Int32 → Int32 → Prop := fun (mI, mA, mL) v1 v2 v3 => (((mA 3) 2 = 0 → wp_X5_liveStep_55_2 K (mI, mA, mL) v1 v2 v3) ∧ (¬ (mA 3) 2 = 0 → wp_X5_sends (mI, mA, mL) 2 (fun r56 => ((¬ r56 = 0 → wp_X5_liveStep_55_2 K (mI, mA, mL) v1 v2 v3) ∧ (r56 = 0 → wp_X5_liveStep_56_2 K (mI, mA, mL) v1 v2 0)))))
def wp_X5_liveStep_56_1 (K : Int32 → ModelS → Prop) : ModelS → Int32 → Int32 → Int32 → Prop := fun (mI, mA, mL) v1 v2 k0 => wp_X5_liveStep_26_2 K (mI, mA, mL) v1 v2 k0
def wp_X5_liveStep_55_1 (K : Int32 → ModelS → Prop) : ModelS → Int32 → Int32 → Int32 → Prop := fun (mI, mA, mL) v1 v2 v3 => wp_X5_liveStep_56_1 K (mI, mA, mL) v1 v2 v3
def wp_X5_liveStep_26_1 (K : Int32 → ModelS → Prop) : ModelS → Int32 → Int32 → Int32 → Prop := fun (mI, mA, mL) v1 v2 v3 => (((mA 3) 1 = 0 → wp_X5_liveStep_55_1 K (mI, mA, mL) v1 v2 v3) ∧ (¬ (mA 3) 1 = 0 → wp_X5_sends (mI, mA, mL) 1 (fun r59 => ((¬ r59 = 0 → wp_X5_liveStep_55_1 K (mI, mA, mL) v1 v2 v3) ∧ (r59 = 0 → wp_X5_liveStep_56_1 K (mI, mA, mL) v1 v2 0)))))
def wp_X5_liveStep_56_0 (K : Int32 → ModelS → Prop) : ModelS → Int32 → Int32 → Int32 → Prop := fun (mI, mA, mL) v1 v2 k0 => wp_X5_liveStep_26_1 K (mI, mA, mL) v1 v2 k0
def wp_X5_liveStep_55_0 (K : Int32 → ModelS → Prop) : ModelS → Int32 → Int32 → Int32 → Prop := fun (mI, mA, mL) v1 v2 v3 => wp_X5_liveStep_56_0 K (mI, mA, mL) v1 v2 v3
def wp_X5_liveStep_26_0 (K : Int32 → ModelS → Prop) : ModelS → Int32 → Int32 → Int32 → Prop := fun (mI, mA, mL) v1 v2 v3 => (((mA 3) 0 = 0 → wp_X5_liveStep_55_0 K (mI, mA, mL) v1 v2 v3) ∧ (¬ (mA 3) 0 = 0 → wp_X5_sends (mI, mA, mL) 0 (fun r62 => ((¬ r62 = 0 → wp_X5_liveStep_55_0 K (mI, mA, mL) v1 v2 v3) ∧ (r62 = 0 → wp_X5_liveStep_56_0 K (mI, mA, mL) v1 v2 0)))))
def wp_X5_liveStep_21 (K : Int32 → ModelS → Prop) : ModelS → Int32 → Int32 → Prop := fun (mI, mA, mL) v1 v2 => wp_X5_liveStep_26_0 K (mI, mA, mL) v1 v2 1
def wp_X5_liveStep_12 (K : Int32 → ModelS → Prop) : ModelS → Int32 → Int32 → Prop := fun (mI, mA, mL) v1 k0 => ((k0 = 0 → wp_X5_liveStep_21 K (mI, mA, mL) v1 k0) ∧ (¬ k0 = 0 → wp_X5_offerAll (mI, mA, mL) (fun u65 => wp_X5_liveStep_21 K (u65.1, u65.2.1, u65.2.2) v1 k0)))
def wp_X5_liveStep : ModelS → Int32 → (Int32 → ModelS → Prop) → Prop := fun (mI, mA, mL) p0 K => ((¬ mI 1 = 0 → wp_X5_liveStep_12 K (mI, mA, mL) p0 0) ∧ (mI 1 = 0 → wp_X5_liveStep_12 K (mI, mA, mL) p0 1))
set_option maxHeartbeats 4000000 in
set_option maxRecDepth 100000 in
theorem j_X5_liveStep_241 {p : Program} {l : Launch} {e : Env} {s : State} {m : MethodId} {args : Array Value} {below : List Frame} {meth : Method} {c : Code} {dC : Nat → ClassId} {dI : Nat → Nat → Nat} {y : Nat → ClassId} {A : Nat → Prop} (C0 : Cx p s m args meth c cX5_liveStep 10 (some .int) wsX5_liveStep RX5 A dC dI y) (a : Nat → Nat) (K : Int32 → ModelS → Prop) : ∀ (S : ModelS) (v3 : Int32) (H : Heap) (locs : List Loc) (ls : Array Slot), va_P (dC, dI) vwCl (mdW y a S) H → va_D A (mdW y a S) → va_S A s.heap H locs → lv_has ls 10 [(3, .int v3)] → wp_X5_liveStep_241 K S v3 → W p l e ({ frames := 6, cells := 0, slots := 0, locals := 140 } : Room) s m args below meth c H locs 0 0 (MQ below (va_Qi K (BW dC dI A (fun u => mdW y a u)) A) args s 0 0 A) (F0 m 241 ls []) := by
  obtain ⟨hx, hb, hr, hml, hown, hts, hlocks, hA, hK⟩ := id C0
  intro S v3 H locs ls hP hD hS hl hf
  obtain ⟨mI, mA, mL⟩ := S
  unfold wp_X5_liveStep_241 at hf
  refine lv_iload_n hx hb dX5_liveStep_241 rfl (lv_at hl 0 rfl) ?_
  exact W.iret (v := v3) hx hb hr (fun t ht hW => ⟨⟨v3, (mI, mA, mL), rfl, hf, by rw [ht]; exact hP, hD⟩, hS.F ht⟩) hS.2.2 dX5_liveStep_242
set_option maxHeartbeats 4000000 in
set_option maxRecDepth 100000 in
theorem j_X5_liveStep_235 {p : Program} {l : Launch} {e : Env} {s : State} {m : MethodId} {args : Array Value} {below : List Frame} {meth : Method} {c : Code} {dC : Nat → ClassId} {dI : Nat → Nat → Nat} {y : Nat → ClassId} {A : Nat → Prop} (C0 : Cx p s m args meth c cX5_liveStep 10 (some .int) wsX5_liveStep RX5 A dC dI y) (a : Nat → Nat) (K : Int32 → ModelS → Prop) : ∀ (S : ModelS) (v3 : Int32) (v5 : Int32) (H : Heap) (locs : List Loc) (ls : Array Slot), va_P (dC, dI) vwCl (mdW y a S) H → va_D A (mdW y a S) → va_S A s.heap H locs → lv_has ls 10 [(0, .ref (a 0)), (3, .int v3), (5, .int v5)] → wp_X5_liveStep_235 K S v3 v5 → W p l e ({ frames := 6, cells := 0, slots := 0, locals := 140 } : Room) s m args below meth c H locs 0 0 (MQ below (va_Qi K (BW dC dI A (fun u => mdW y a u)) A) args s 0 0 A) (F0 m 235 ls []) := by
  obtain ⟨hx, hb, hr, hml, hown, hts, hlocks, hA, hK⟩ := id C0
  intro S v3 v5 H locs ls hP hD hS hl hf
  obtain ⟨mI, mA, mL⟩ := S
  unfold wp_X5_liveStep_235 at hf
  refine lv_aload_n hx hb dX5_liveStep_235 rfl (lv_at hl 0 rfl) ?_
  refine lv_iload hx hb dX5_liveStep_236 (lv_at hl 2 rfl) ?_
  refine k0v (As := [.int v5]) (rest := []) ⟨hx, hb, hml, hown, hts⟩ (c_X5_finish l dC dI y a H.size (mI, mA, mL) v5 _ hf) (cwV 1 hts gX5_liveStep_X5_finish rfl rfl rfl (by decide +kernel) ⟨Nat.le_of_ble_eq_true rfl, Nat.le_of_ble_eq_true rfl⟩) hK hP hD (va_recv hK.1 hP (ci := 5) (q0 := 0) rfl rfl) hS hA rfl hl.1 rfl (Nat.le_of_ble_eq_true rfl) dX5_liveStep_238 ⟨Nat.zero_le _, Nat.zero_le _⟩ (fun u38 H locs hf hP hD hS => ?_)
  have hP : va_P (dC, dI) vwCl (mdW y a (u38.1, u38.2.1, u38.2.2)) H := hP
  have hD : va_D A (mdW y a (u38.1, u38.2.1, u38.2.2)) := hD
  exact j_X5_liveStep_241 C0 a K (u38.1, u38.2.1, u38.2.2) v3 H locs ls hP hD hS (lv_sub hl [1] rfl) hf
set_option maxHeartbeats 4000000 in
set_option maxRecDepth 100000 in
theorem j_X5_liveStep_83_4 {p : Program} {l : Launch} {e : Env} {s : State} {m : MethodId} {args : Array Value} {below : List Frame} {meth : Method} {c : Code} {dC : Nat → ClassId} {dI : Nat → Nat → Nat} {y : Nat → ClassId} {A : Nat → Prop} (C0 : Cx p s m args meth c cX5_liveStep 10 (some .int) wsX5_liveStep RX5 A dC dI y) (a : Nat → Nat) (K : Int32 → ModelS → Prop) : ∀ (S : ModelS) (v1 : Int32) (v2 : Int32) (v3 : Int32) (v4 : Int32) (v5 : Int32) (v6 : Int32) (H : Heap) (locs : List Loc) (ls : Array Slot), va_P (dC, dI) vwCl (mdW y a S) H → va_D A (mdW y a S) → va_S A s.heap H locs → lv_has ls 10 [(0, .ref (a 0)), (1, .int v1), (2, .int v2), (3, .int v3), (4, .int v4), (5, .int v5), (6, .int v6), (7, .int 4)] → wp_X5_liveStep_83_4 K S v1 v2 v3 v4 v5 v6 → W p l e ({ frames := 6, cells := 0, slots := 0, locals := 140 } : Room) s m args below meth c H locs 0 0 (MQ below (va_Qi K (BW dC dI A (fun u => mdW y a u)) A) args s 0 0 A) (F0 m 83 ls []) := by
  obtain ⟨hx, hb, hr, hml, hown, hts, hlocks, hA, hK⟩ := id C0
  intro S v1 v2 v3 v4 v5 v6 H locs ls hP hD hS hl hf
  obtain ⟨mI, mA, mL⟩ := S
  unfold wp_X5_liveStep_83_4 at hf
  refine lv_iload hx hb dX5_liveStep_83 (lv_at hl 7 rfl) ?_
  refine lv_iconst (v := 4) hx hb dX5_liveStep_85 (by decide) ?_
  refine lv_icmp_ge (tgt := 212) hx hb dX5_liveStep_86 (by decide) (fun _ => ?_) (fun c9 => absurd (by decide) c9)
  refine lv_iload hx hb dX5_liveStep_212 (lv_at hl 4 rfl) ?_
  refine lv_if_le (tgt := 226) hx hb dX5_liveStep_214 (by decide) (fun c36 => ?_) (fun c36 => ?_)
  · replace hf := hf.1 c36
    refine lv_iload_n hx hb dX5_liveStep_226 rfl (lv_at hl 2 rfl) ?_
    refine lv_if_eq (tgt := 235) hx hb dX5_liveStep_227 (by decide) (fun c37 => ?_) (fun c37 => ?_)
    · replace hf := hf.1 c37
      exact j_X5_liveStep_235 C0 a K (mI, mA, mL) v3 v5 H locs ls hP hD hS (lv_sub hl [0, 3, 5] rfl) hf
    · replace hf := hf.2 c37
      refine lv_iload hx hb dX5_liveStep_230 (lv_at hl 6 rfl) ?_
      refine lv_if_eq (tgt := 241) hx hb dX5_liveStep_232 (by decide) (fun c39 => ?_) (fun c39 => ?_)
      · replace hf := hf.1 c39
        exact j_X5_liveStep_241 C0 a K (mI, mA, mL) v3 H locs ls hP hD hS (lv_sub hl [3] rfl) hf
      · replace hf := hf.2 c39
        exact j_X5_liveStep_235 C0 a K (mI, mA, mL) v3 v5 H locs ls hP hD hS (lv_sub hl [0, 3, 5] rfl) hf
  · replace hf := hf.2 c36
    refine lv_aload_n hx hb dX5_liveStep_217 rfl (lv_at hl 0 rfl) ?_
    refine lv_iload hx hb dX5_liveStep_218 (lv_at hl 4 rfl) ?_
    refine k0v (As := [.int v4]) (rest := []) ⟨hx, hb, hml, hown, hts⟩ (c_X5_breakOff l dC dI y a H.size (mI, mA, mL) v4 _ hf) (cwV 1 hts gX5_liveStep_X5_breakOff rfl rfl rfl (by decide +kernel) ⟨Nat.le_of_ble_eq_true rfl, Nat.le_of_ble_eq_true rfl⟩) hK hP hD (va_recv hK.1 hP (ci := 5) (q0 := 0) rfl rfl) hS hA rfl hl.1 rfl (Nat.le_of_ble_eq_true rfl) dX5_liveStep_220 ⟨Nat.zero_le _, Nat.zero_le _⟩ (fun u40 H locs hf hP hD hS => ?_)
    have hP : va_P (dC, dI) vwCl (mdW y a (u40.1, u40.2.1, u40.2.2)) H := hP
    have hD : va_D A (mdW y a (u40.1, u40.2.1, u40.2.2)) := hD
    refine lv_goto (tgt := 241) hx hb dX5_liveStep_223 (by decide) ?_
    exact j_X5_liveStep_241 C0 a K (u40.1, u40.2.1, u40.2.2) v3 H locs ls hP hD hS (lv_sub hl [3] rfl) hf
set_option maxHeartbeats 4000000 in
set_option maxRecDepth 100000 in
theorem j_X5_liveStep_206_3 {p : Program} {l : Launch} {e : Env} {s : State} {m : MethodId} {args : Array Value} {below : List Frame} {meth : Method} {c : Code} {dC : Nat → ClassId} {dI : Nat → Nat → Nat} {y : Nat → ClassId} {A : Nat → Prop} (C0 : Cx p s m args meth c cX5_liveStep 10 (some .int) wsX5_liveStep RX5 A dC dI y) (a : Nat → Nat) (K : Int32 → ModelS → Prop) : ∀ (S : ModelS) (v1 : Int32) (v2 : Int32) (v3 : Int32) (v4 : Int32) (v5 : Int32) (v6 : Int32) (H : Heap) (locs : List Loc) (ls : Array Slot), va_P (dC, dI) vwCl (mdW y a S) H → va_D A (mdW y a S) → va_S A s.heap H locs → lv_has ls 10 [(0, .ref (a 0)), (1, .int v1), (2, .int v2), (3, .int v3), (4, .int v4), (5, .int v5), (6, .int v6), (7, .int 3)] → wp_X5_liveStep_206_3 K S v1 v2 v3 v4 v5 v6 → W p l e ({ frames := 6, cells := 0, slots := 0, locals := 140 } : Room) s m args below meth c H locs 0 0 (MQ below (va_Qi K (BW dC dI A (fun u => mdW y a u)) A) args s 0 0 A) (F0 m 206 ls []) := by
  obtain ⟨hx, hb, hr, hml, hown, hts, hlocks, hA, hK⟩ := id C0
  intro S v1 v2 v3 v4 v5 v6 H locs ls hP hD hS hl hf
  obtain ⟨mI, mA, mL⟩ := S
  unfold wp_X5_liveStep_206_3 at hf
  refine lv_iinc (v := 4) (lv' := [(7, .int 4), (0, .ref (a 0)), (1, .int v1), (2, .int v2), (3, .int v3), (4, .int v4), (5, .int v5), (6, .int v6)]) hx hb dX5_liveStep_206 hl (k := 7) rfl (by decide) (by decide) rfl (fun ls hl => ?_)
  refine lv_goto (tgt := 83) hx hb dX5_liveStep_209 (by decide) ?_
  exact j_X5_liveStep_83_4 C0 a K (mI, mA, mL) v1 v2 v3 v4 v5 v6 H locs ls hP hD hS (lv_sub hl [1, 2, 3, 4, 5, 6, 7, 0] rfl) hf
set_option maxHeartbeats 4000000 in
set_option maxRecDepth 100000 in
theorem j_X5_liveStep_174_3 {p : Program} {l : Launch} {e : Env} {s : State} {m : MethodId} {args : Array Value} {below : List Frame} {meth : Method} {c : Code} {dC : Nat → ClassId} {dI : Nat → Nat → Nat} {y : Nat → ClassId} {A : Nat → Prop} (C0 : Cx p s m args meth c cX5_liveStep 10 (some .int) wsX5_liveStep RX5 A dC dI y) (a : Nat → Nat) (K : Int32 → ModelS → Prop) : ∀ (S : ModelS) (v1 : Int32) (v2 : Int32) (v3 : Int32) (v4 : Int32) (v6 : Int32) (v9 : Int32) (k0 : Int32) (H : Heap) (locs : List Loc) (ls : Array Slot), va_P (dC, dI) vwCl (mdW y a S) H → va_D A (mdW y a S) → va_S A s.heap H locs → lv_has ls 10 [(0, .ref (a 0)), (1, .int v1), (2, .int v2), (3, .int v3), (4, .int v4), (6, .int v6), (7, .int 3), (9, .int v9)] → wp_X5_liveStep_174_3 K S v1 v2 v3 v4 v6 v9 k0 → W p l e ({ frames := 6, cells := 0, slots := 0, locals := 140 } : Room) s m args below meth c H locs 0 0 (MQ below (va_Qi K (BW dC dI A (fun u => mdW y a u)) A) args s 0 0 A) (F0 m 174 ls [.int k0]) := by
  obtain ⟨hx, hb, hr, hml, hown, hts, hlocks, hA, hK⟩ := id C0
  have w25 := hts (Cond.fieldLink RX5 25 "SharedWireModel" "lastFault" "[I") (List.mem_of_getElem? (i := 3) rfl)
  have hinX5 : ∀ w ∈ wsX50, w ∈ wsX5_liveStep := fun w h => List.mem_cons_of_mem _ (List.mem_append_right _ (h))
  intro S v1 v2 v3 v4 v6 v9 k0 H locs ls hP hD hS hl hf
  obtain ⟨mI, mA, mL⟩ := S
  unfold wp_X5_liveStep_174_3 at hf
  refine lv_istore (lv' := [(5, .int k0), (0, .ref (a 0)), (1, .int v1), (2, .int v2), (3, .int v3), (4, .int v4), (6, .int v6), (7, .int 3), (9, .int v9)]) hx hb dX5_liveStep_174 hl (by decide) rfl (fun ls hl => ?_)
  refine lv_iload hx hb dX5_liveStep_176 (lv_at hl 8 rfl) ?_
  refine lv_if_le (tgt := 206) hx hb dX5_liveStep_178 (by decide) (fun c35 => ?_) (fun c35 => ?_)
  · replace hf := hf.1 c35
    exact j_X5_liveStep_206_3 C0 a K (mI, mA, mL) v1 v2 v3 v4 k0 v6 H locs ls hP hD hS (lv_sub hl [1, 2, 3, 4, 5, 0, 6, 7] rfl) hf
  · replace hf := hf.2 c35
    refine lv_iload hx hb dX5_liveStep_181 (lv_at hl 8 rfl) ?_
    refine lv_bipush (v := 9) hx hb dX5_liveStep_183 (by decide) ?_
    refine lv_icmp_ge (tgt := 206) hx hb dX5_liveStep_185 (by decide) (fun c41 => ?_) (fun c41 => ?_)
    · replace hf := hf.1 c41
      exact j_X5_liveStep_206_3 C0 a K (mI, mA, mL) v1 v2 v3 v4 k0 v6 H locs ls hP hD hS (lv_sub hl [1, 2, 3, 4, 5, 0, 6, 7] rfl) hf
    · replace hf := hf.2 c41
      refine lv_iload hx hb dX5_liveStep_188 (lv_at hl 5 rfl) ?_
      refine lv_iconst (v := 1) hx hb dX5_liveStep_190 (by decide) ?_
      refine lv_iload hx hb dX5_liveStep_191 (lv_at hl 7 rfl) ?_
      refine lv_ishl hx hb dX5_liveStep_193 ?_
      refine fold_i (v := 8) (by decide) ?_
      refine lv_ior hx hb dX5_liveStep_194 ?_
      refine lv_topi (fun n42 en42 => ?_)
      replace hf := hf n42 en42
      refine lv_istore (lv' := [(4, .int n42), (5, .int k0), (0, .ref (a 0)), (1, .int v1), (2, .int v2), (3, .int v3), (6, .int v6), (7, .int 3), (9, .int v9)]) hx hb dX5_liveStep_195 hl (by decide) rfl (fun ls hl => ?_)
      refine lv_aload_n hx hb dX5_liveStep_197 rfl (lv_at hl 2 rfl) ?_
      refine va_get (D := (dC, dI)) (ci := 5) (v := .ref (a 8)) (C := RX5) (T := TX5) (N := 35) hx hb hts hinX5 hown hK.1 hP 0 rfl rfl 8 (by decide) w25 (fun _ h9 => h9) rfl dX5_liveStep_198 ?_
      refine lv_iload hx hb dX5_liveStep_201 (lv_at hl 7 rfl) ?_
      refine lv_iload hx hb dX5_liveStep_203 (lv_at hl 8 rfl) ?_
      refine mst_8 (f := (mA 8)) (x := v9) (j := 3) hx hb hK.1 hP hD hS rfl (clamp_lit 3 rfl) (vin_lit 3 4 rfl rfl) dX5_liveStep_205 (fun H locs hP hD hS => ?_)
      exact j_X5_liveStep_206_3 C0 a K (mI, va_up mA 8 (upd (mA 8) 3 v9), mL) v1 v2 v3 n42 k0 v6 H locs ls hP hD hS (lv_sub hl [2, 3, 4, 5, 0, 1, 6, 7] rfl) hf
set_option maxHeartbeats 4000000 in
set_option maxRecDepth 100000 in
theorem j_X5_liveStep_153_3 {p : Program} {l : Launch} {e : Env} {s : State} {m : MethodId} {args : Array Value} {below : List Frame} {meth : Method} {c : Code} {dC : Nat → ClassId} {dI : Nat → Nat → Nat} {y : Nat → ClassId} {A : Nat → Prop} (C0 : Cx p s m args meth c cX5_liveStep 10 (some .int) wsX5_liveStep RX5 A dC dI y) (a : Nat → Nat) (K : Int32 → ModelS → Prop) : ∀ (S : ModelS) (v1 : Int32) (v2 : Int32) (v3 : Int32) (v4 : Int32) (v5 : Int32) (v9 : Int32) (k0 : Int32) (H : Heap) (locs : List Loc) (ls : Array Slot), va_P (dC, dI) vwCl (mdW y a S) H → va_D A (mdW y a S) → va_S A s.heap H locs → lv_has ls 10 [(0, .ref (a 0)), (1, .int v1), (2, .int v2), (3, .int v3), (4, .int v4), (5, .int v5), (7, .int 3), (9, .int v9)] → wp_X5_liveStep_153_3 K S v1 v2 v3 v4 v5 v9 k0 → W p l e ({ frames := 6, cells := 0, slots := 0, locals := 140 } : Room) s m args below meth c H locs 0 0 (MQ below (va_Qi K (BW dC dI A (fun u => mdW y a u)) A) args s 0 0 A) (F0 m 153 ls [.int k0]) := by
  obtain ⟨hx, hb, hr, hml, hown, hts, hlocks, hA, hK⟩ := id C0
  intro S v1 v2 v3 v4 v5 v9 k0 H locs ls hP hD hS hl hf
  obtain ⟨mI, mA, mL⟩ := S
  unfold wp_X5_liveStep_153_3 at hf
  refine lv_istore (lv' := [(6, .int k0), (0, .ref (a 0)), (1, .int v1), (2, .int v2), (3, .int v3), (4, .int v4), (5, .int v5), (7, .int 3), (9, .int v9)]) hx hb dX5_liveStep_153 hl (by decide) rfl (fun ls hl => ?_)
  refine lv_iload hx hb dX5_liveStep_155 (lv_at hl 8 rfl) ?_
  refine lv_bipush (v := 9) hx hb dX5_liveStep_157 (by decide) ?_
  refine lv_icmp_ne (tgt := 172) hx hb dX5_liveStep_159 (by decide) (fun c34 => ?_) (fun c34 => ?_)
  · replace hf := hf.1 c34
    refine lv_iload hx hb dX5_liveStep_172 (lv_at hl 6 rfl) ?_
    exact j_X5_liveStep_174_3 C0 a K (mI, mA, mL) v1 v2 v3 v4 k0 v9 v5 H locs ls hP hD hS (lv_sub hl [1, 2, 3, 4, 5, 0, 7, 8] rfl) hf
  · replace hf := hf.2 c34
    refine lv_iload hx hb dX5_liveStep_162 (lv_at hl 6 rfl) ?_
    refine lv_iconst (v := 1) hx hb dX5_liveStep_164 (by decide) ?_
    refine lv_iload hx hb dX5_liveStep_165 (lv_at hl 7 rfl) ?_
    refine lv_ishl hx hb dX5_liveStep_167 ?_
    refine fold_i (v := 8) (by decide) ?_
    refine lv_ior hx hb dX5_liveStep_168 ?_
    refine lv_goto (tgt := 174) hx hb dX5_liveStep_169 (by decide) ?_
    exact j_X5_liveStep_174_3 C0 a K (mI, mA, mL) v1 v2 v3 v4 k0 v9 (v5 ||| 8) H locs ls hP hD hS (lv_sub hl [1, 2, 3, 4, 5, 0, 7, 8] rfl) hf
set_option maxHeartbeats 4000000 in
set_option maxRecDepth 100000 in
theorem j_X5_liveStep_148_3 {p : Program} {l : Launch} {e : Env} {s : State} {m : MethodId} {args : Array Value} {below : List Frame} {meth : Method} {c : Code} {dC : Nat → ClassId} {dI : Nat → Nat → Nat} {y : Nat → ClassId} {A : Nat → Prop} (C0 : Cx p s m args meth c cX5_liveStep 10 (some .int) wsX5_liveStep RX5 A dC dI y) (a : Nat → Nat) (K : Int32 → ModelS → Prop) : ∀ (S : ModelS) (v1 : Int32) (v2 : Int32) (v3 : Int32) (v4 : Int32) (v5 : Int32) (v9 : Int32) (H : Heap) (locs : List Loc) (ls : Array Slot), va_P (dC, dI) vwCl (mdW y a S) H → va_D A (mdW y a S) → va_S A s.heap H locs → lv_has ls 10 [(0, .ref (a 0)), (1, .int v1), (2, .int v2), (3, .int v3), (4, .int v4), (5, .int v5), (7, .int 3), (9, .int v9)] → wp_X5_liveStep_148_3 K S v1 v2 v3 v4 v5 v9 → W p l e ({ frames := 6, cells := 0, slots := 0, locals := 140 } : Room) s m args below meth c H locs 0 0 (MQ below (va_Qi K (BW dC dI A (fun u => mdW y a u)) A) args s 0 0 A) (F0 m 148 ls []) := by
  obtain ⟨hx, hb, hr, hml, hown, hts, hlocks, hA, hK⟩ := id C0
  intro S v1 v2 v3 v4 v5 v9 H locs ls hP hD hS hl hf
  obtain ⟨mI, mA, mL⟩ := S
  unfold wp_X5_liveStep_148_3 at hf
  refine lv_iconst (v := 1) hx hb dX5_liveStep_148 (by decide) ?_
  refine lv_goto (tgt := 153) hx hb dX5_liveStep_149 (by decide) ?_
  exact j_X5_liveStep_153_3 C0 a K (mI, mA, mL) v1 v2 v3 v4 v5 v9 1 H locs ls hP hD hS (lv_sub hl [0, 1, 2, 3, 4, 5, 6, 7] rfl) hf
set_option maxHeartbeats 4000000 in
set_option maxRecDepth 100000 in
theorem j_X5_liveStep_130_3 {p : Program} {l : Launch} {e : Env} {s : State} {m : MethodId} {args : Array Value} {below : List Frame} {meth : Method} {c : Code} {dC : Nat → ClassId} {dI : Nat → Nat → Nat} {y : Nat → ClassId} {A : Nat → Prop} (C0 : Cx p s m args meth c cX5_liveStep 10 (some .int) wsX5_liveStep RX5 A dC dI y) (a : Nat → Nat) (K : Int32 → ModelS → Prop) : ∀ (S : ModelS) (v1 : Int32) (v2 : Int32) (v3 : Int32) (v4 : Int32) (v5 : Int32) (v6 : Int32) (k0 : Int32) (H : Heap) (locs : List Loc) (ls : Array Slot), va_P (dC, dI) vwCl (mdW y a S) H → va_D A (mdW y a S) → va_S A s.heap H locs → lv_has ls 10 [(0, .ref (a 0)), (1, .int v1), (2, .int v2), (3, .int v3), (4, .int v4), (5, .int v5), (6, .int v6), (7, .int 3)] → wp_X5_liveStep_130_3 K S v1 v2 v3 v4 v5 v6 k0 → W p l e ({ frames := 6, cells := 0, slots := 0, locals := 140 } : Room) s m args below meth c H locs 0 0 (MQ below (va_Qi K (BW dC dI A (fun u => mdW y a u)) A) args s 0 0 A) (F0 m 130 ls [.int k0]) := by
  obtain ⟨hx, hb, hr, hml, hown, hts, hlocks, hA, hK⟩ := id C0
  have w9 := hts (Cond.fieldLink RX5 9 "SharedWireModel" "state" "[I") (List.mem_of_getElem? (i := 2) rfl)
  have hinX5 : ∀ w ∈ wsX50, w ∈ wsX5_liveStep := fun w h => List.mem_cons_of_mem _ (List.mem_append_right _ (h))
  intro S v1 v2 v3 v4 v5 v6 k0 H locs ls hP hD hS hl hf
  obtain ⟨mI, mA, mL⟩ := S
  unfold wp_X5_liveStep_130_3 at hf
  refine lv_istore (lv' := [(9, .int k0), (0, .ref (a 0)), (1, .int v1), (2, .int v2), (3, .int v3), (4, .int v4), (5, .int v5), (6, .int v6), (7, .int 3)]) hx hb dX5_liveStep_130 hl (by decide) rfl (fun ls hl => ?_)
  refine lv_iload hx hb dX5_liveStep_132 (lv_at hl 7 rfl) ?_
  refine lv_if_ne (tgt := 148) hx hb dX5_liveStep_134 (by decide) (fun c33 => ?_) (fun c33 => ?_)
  · replace hf := hf.1 c33
    exact j_X5_liveStep_148_3 C0 a K (mI, mA, mL) v1 v2 v3 v4 v5 k0 H locs ls hP hD hS (lv_sub hl [1, 2, 3, 4, 5, 6, 8, 0] rfl) hf
  · replace hf := hf.2 c33
    refine lv_aload_n hx hb dX5_liveStep_137 rfl (lv_at hl 1 rfl) ?_
    refine va_get (D := (dC, dI)) (ci := 5) (v := .ref (a 3)) (C := RX5) (T := TX5) (N := 35) hx hb hts hinX5 hown hK.1 hP 0 rfl rfl 3 (by decide) w9 (fun _ h9 => h9) rfl dX5_liveStep_138 ?_
    refine lv_iload hx hb dX5_liveStep_141 (lv_at hl 8 rfl) ?_
    refine ar_ild (f := (mA 3)) (j := 3) hx hb hK.1 hP 1 0 rfl rfl (clamp_lit 3 rfl) (vin_lit 3 4 rfl rfl) dX5_liveStep_143 ?_
    refine lv_iconst (v := 2) hx hb dX5_liveStep_144 (by decide) ?_
    refine lv_icmp_ne (tgt := 152) hx hb dX5_liveStep_145 (by decide) (fun c43 => ?_) (fun c43 => ?_)
    · replace hf := hf.1 c43
      refine lv_iconst (v := 0) hx hb dX5_liveStep_152 (by decide) ?_
      exact j_X5_liveStep_153_3 C0 a K (mI, mA, mL) v1 v2 v3 v4 v5 k0 0 H locs ls hP hD hS (lv_sub hl [1, 2, 3, 4, 5, 6, 8, 0] rfl) hf
    · replace hf := hf.2 c43
      exact j_X5_liveStep_148_3 C0 a K (mI, mA, mL) v1 v2 v3 v4 v5 k0 H locs ls hP hD hS (lv_sub hl [1, 2, 3, 4, 5, 6, 8, 0] rfl) hf
set_option maxHeartbeats 4000000 in
set_option maxRecDepth 100000 in
theorem j_X5_liveStep_106_3 {p : Program} {l : Launch} {e : Env} {s : State} {m : MethodId} {args : Array Value} {below : List Frame} {meth : Method} {c : Code} {dC : Nat → ClassId} {dI : Nat → Nat → Nat} {y : Nat → ClassId} {A : Nat → Prop} (C0 : Cx p s m args meth c cX5_liveStep 10 (some .int) wsX5_liveStep RX5 A dC dI y) (a : Nat → Nat) (K : Int32 → ModelS → Prop) : ∀ (S : ModelS) (v1 : Int32) (v2 : Int32) (v3 : Int32) (v4 : Int32) (v5 : Int32) (v6 : Int32) (k0 : Int32) (H : Heap) (locs : List Loc) (ls : Array Slot), va_P (dC, dI) vwCl (mdW y a S) H → va_D A (mdW y a S) → va_S A s.heap H locs → lv_has ls 10 [(0, .ref (a 0)), (1, .int v1), (2, .int v2), (3, .int v3), (4, .int v4), (5, .int v5), (6, .int v6), (7, .int 3)] → wp_X5_liveStep_106_3 K S v1 v2 v3 v4 v5 v6 k0 → W p l e ({ frames := 6, cells := 0, slots := 0, locals := 140 } : Room) s m args below meth c H locs 0 0 (MQ below (va_Qi K (BW dC dI A (fun u => mdW y a u)) A) args s 0 0 A) (F0 m 106 ls [.int k0]) := by
  obtain ⟨hx, hb, hr, hml, hown, hts, hlocks, hA, hK⟩ := id C0
  have w9 := hts (Cond.fieldLink RX5 9 "SharedWireModel" "state" "[I") (List.mem_of_getElem? (i := 2) rfl)
  have hinX5 : ∀ w ∈ wsX50, w ∈ wsX5_liveStep := fun w h => List.mem_cons_of_mem _ (List.mem_append_right _ (h))
  intro S v1 v2 v3 v4 v5 v6 k0 H locs ls hP hD hS hl hf
  obtain ⟨mI, mA, mL⟩ := S
  unfold wp_X5_liveStep_106_3 at hf
  refine lv_istore (lv' := [(8, .int k0), (0, .ref (a 0)), (1, .int v1), (2, .int v2), (3, .int v3), (4, .int v4), (5, .int v5), (6, .int v6), (7, .int 3)]) hx hb dX5_liveStep_106 hl (by decide) rfl (fun ls hl => ?_)
  refine lv_aload_n hx hb dX5_liveStep_108 rfl (lv_at hl 1 rfl) ?_
  refine va_get (D := (dC, dI)) (ci := 5) (v := .ref (a 3)) (C := RX5) (T := TX5) (N := 35) hx hb hts hinX5 hown hK.1 hP 0 rfl rfl 3 (by decide) w9 (fun _ h9 => h9) rfl dX5_liveStep_109 ?_
  refine lv_iload hx hb dX5_liveStep_112 (lv_at hl 8 rfl) ?_
  refine ar_ild (f := (mA 3)) (j := 3) hx hb hK.1 hP 1 0 rfl rfl (clamp_lit 3 rfl) (vin_lit 3 4 rfl rfl) dX5_liveStep_114 ?_
  refine lv_if_ne (tgt := 122) hx hb dX5_liveStep_115 (by decide) (fun c30 => ?_) (fun c30 => ?_)
  · replace hf := hf.1 c30
    refine lv_aload_n hx hb dX5_liveStep_122 rfl (lv_at hl 1 rfl) ?_
    refine lv_iload hx hb dX5_liveStep_123 (lv_at hl 8 rfl) ?_
    refine lv_iload hx hb dX5_liveStep_125 (lv_at hl 0 rfl) ?_
    refine k0i (As := [.int 3, .int k0]) (rest := []) ⟨hx, hb, hml, hown, hts⟩ (c_X5_sees l dC dI y a H.size (mI, mA, mL) 3 k0 _ hf) (cwV 2 hts gX5_liveStep_X5_sees rfl rfl rfl (by decide +kernel) ⟨Nat.le_of_ble_eq_true rfl, Nat.le_of_ble_eq_true rfl⟩) hK hP hD (va_recv hK.1 hP (ci := 5) (q0 := 0) rfl rfl) hS hA rfl hl.1 rfl (Nat.le_of_ble_eq_true rfl) dX5_liveStep_127 ⟨Nat.zero_le _, Nat.zero_le _⟩ (fun r31 u32 H locs hf hP hD hS => ?_)
    have hP : va_P (dC, dI) vwCl (mdW y a (u32.1, u32.2.1, u32.2.2)) H := hP
    have hD : va_D A (mdW y a (u32.1, u32.2.1, u32.2.2)) := hD
    exact j_X5_liveStep_130_3 C0 a K (u32.1, u32.2.1, u32.2.2) v1 v2 v3 v4 v5 v6 r31 H locs ls hP hD hS (lv_sub hl [1, 2, 3, 4, 5, 6, 7, 8] rfl) hf
  · replace hf := hf.2 c30
    refine lv_iconst (v := 0) hx hb dX5_liveStep_118 (by decide) ?_
    refine lv_goto (tgt := 130) hx hb dX5_liveStep_119 (by decide) ?_
    exact j_X5_liveStep_130_3 C0 a K (mI, mA, mL) v1 v2 v3 v4 v5 v6 0 H locs ls hP hD hS (lv_sub hl [1, 2, 3, 4, 5, 6, 7, 8] rfl) hf
set_option maxHeartbeats 4000000 in
set_option maxRecDepth 100000 in
theorem j_X5_liveStep_83_3 {p : Program} {l : Launch} {e : Env} {s : State} {m : MethodId} {args : Array Value} {below : List Frame} {meth : Method} {c : Code} {dC : Nat → ClassId} {dI : Nat → Nat → Nat} {y : Nat → ClassId} {A : Nat → Prop} (C0 : Cx p s m args meth c cX5_liveStep 10 (some .int) wsX5_liveStep RX5 A dC dI y) (a : Nat → Nat) (K : Int32 → ModelS → Prop) : ∀ (S : ModelS) (v1 : Int32) (v2 : Int32) (v3 : Int32) (v4 : Int32) (v5 : Int32) (v6 : Int32) (H : Heap) (locs : List Loc) (ls : Array Slot), va_P (dC, dI) vwCl (mdW y a S) H → va_D A (mdW y a S) → va_S A s.heap H locs → lv_has ls 10 [(0, .ref (a 0)), (1, .int v1), (2, .int v2), (3, .int v3), (4, .int v4), (5, .int v5), (6, .int v6), (7, .int 3)] → wp_X5_liveStep_83_3 K S v1 v2 v3 v4 v5 v6 → W p l e ({ frames := 6, cells := 0, slots := 0, locals := 140 } : Room) s m args below meth c H locs 0 0 (MQ below (va_Qi K (BW dC dI A (fun u => mdW y a u)) A) args s 0 0 A) (F0 m 83 ls []) := by
  obtain ⟨hx, hb, hr, hml, hown, hts, hlocks, hA, hK⟩ := id C0
  intro S v1 v2 v3 v4 v5 v6 H locs ls hP hD hS hl hf
  obtain ⟨mI, mA, mL⟩ := S
  unfold wp_X5_liveStep_83_3 at hf
  refine lv_iload hx hb dX5_liveStep_83 (lv_at hl 7 rfl) ?_
  refine lv_iconst (v := 4) hx hb dX5_liveStep_85 (by decide) ?_
  refine lv_icmp_ge (tgt := 212) hx hb dX5_liveStep_86 (by decide) (fun c9 => absurd c9 (by decide)) (fun _ => ?_)
  refine lv_iload_n hx hb dX5_liveStep_89 rfl (lv_at hl 1 rfl) ?_
  refine lv_iload hx hb dX5_liveStep_90 (lv_at hl 7 rfl) ?_
  refine lv_ishr hx hb dX5_liveStep_92 ?_
  refine lv_iconst (v := 1) hx hb dX5_liveStep_93 (by decide) ?_
  refine lv_iand hx hb dX5_liveStep_94 ?_
  refine lv_iconst (v := 1) hx hb dX5_liveStep_95 (by decide) ?_
  refine lv_icmp_ne (tgt := 105) hx hb dX5_liveStep_96 (by decide) (fun c29 => ?_) (fun c29 => ?_)
  · replace hf := hf.1 c29
    refine lv_iload_n hx hb dX5_liveStep_105 rfl (lv_at hl 3 rfl) ?_
    exact j_X5_liveStep_106_3 C0 a K (mI, mA, mL) v1 v2 v3 v4 v5 v6 v3 H locs ls hP hD hS (lv_sub hl [0, 1, 2, 3, 4, 5, 6, 7] rfl) hf
  · replace hf := hf.2 c29
    refine lv_iconst (v := 1) hx hb dX5_liveStep_99 (by decide) ?_
    refine lv_iload_n hx hb dX5_liveStep_100 rfl (lv_at hl 3 rfl) ?_
    refine lv_isub hx hb dX5_liveStep_101 ?_
    refine lv_goto (tgt := 106) hx hb dX5_liveStep_102 (by decide) ?_
    exact j_X5_liveStep_106_3 C0 a K (mI, mA, mL) v1 v2 v3 v4 v5 v6 (1 - v3) H locs ls hP hD hS (lv_sub hl [0, 1, 2, 3, 4, 5, 6, 7] rfl) hf
set_option maxHeartbeats 4000000 in
set_option maxRecDepth 100000 in
theorem j_X5_liveStep_206_2 {p : Program} {l : Launch} {e : Env} {s : State} {m : MethodId} {args : Array Value} {below : List Frame} {meth : Method} {c : Code} {dC : Nat → ClassId} {dI : Nat → Nat → Nat} {y : Nat → ClassId} {A : Nat → Prop} (C0 : Cx p s m args meth c cX5_liveStep 10 (some .int) wsX5_liveStep RX5 A dC dI y) (a : Nat → Nat) (K : Int32 → ModelS → Prop) : ∀ (S : ModelS) (v1 : Int32) (v2 : Int32) (v3 : Int32) (v4 : Int32) (v5 : Int32) (v6 : Int32) (H : Heap) (locs : List Loc) (ls : Array Slot), va_P (dC, dI) vwCl (mdW y a S) H → va_D A (mdW y a S) → va_S A s.heap H locs → lv_has ls 10 [(0, .ref (a 0)), (1, .int v1), (2, .int v2), (3, .int v3), (4, .int v4), (5, .int v5), (6, .int v6), (7, .int 2)] → wp_X5_liveStep_206_2 K S v1 v2 v3 v4 v5 v6 → W p l e ({ frames := 6, cells := 0, slots := 0, locals := 140 } : Room) s m args below meth c H locs 0 0 (MQ below (va_Qi K (BW dC dI A (fun u => mdW y a u)) A) args s 0 0 A) (F0 m 206 ls []) := by
  obtain ⟨hx, hb, hr, hml, hown, hts, hlocks, hA, hK⟩ := id C0
  intro S v1 v2 v3 v4 v5 v6 H locs ls hP hD hS hl hf
  obtain ⟨mI, mA, mL⟩ := S
  unfold wp_X5_liveStep_206_2 at hf
  refine lv_iinc (v := 3) (lv' := [(7, .int 3), (0, .ref (a 0)), (1, .int v1), (2, .int v2), (3, .int v3), (4, .int v4), (5, .int v5), (6, .int v6)]) hx hb dX5_liveStep_206 hl (k := 7) rfl (by decide) (by decide) rfl (fun ls hl => ?_)
  refine lv_goto (tgt := 83) hx hb dX5_liveStep_209 (by decide) ?_
  exact j_X5_liveStep_83_3 C0 a K (mI, mA, mL) v1 v2 v3 v4 v5 v6 H locs ls hP hD hS (lv_sub hl [1, 2, 3, 4, 5, 6, 7, 0] rfl) hf
set_option maxHeartbeats 4000000 in
set_option maxRecDepth 100000 in
theorem j_X5_liveStep_174_2 {p : Program} {l : Launch} {e : Env} {s : State} {m : MethodId} {args : Array Value} {below : List Frame} {meth : Method} {c : Code} {dC : Nat → ClassId} {dI : Nat → Nat → Nat} {y : Nat → ClassId} {A : Nat → Prop} (C0 : Cx p s m args meth c cX5_liveStep 10 (some .int) wsX5_liveStep RX5 A dC dI y) (a : Nat → Nat) (K : Int32 → ModelS → Prop) : ∀ (S : ModelS) (v1 : Int32) (v2 : Int32) (v3 : Int32) (v4 : Int32) (v6 : Int32) (v9 : Int32) (k0 : Int32) (H : Heap) (locs : List Loc) (ls : Array Slot), va_P (dC, dI) vwCl (mdW y a S) H → va_D A (mdW y a S) → va_S A s.heap H locs → lv_has ls 10 [(0, .ref (a 0)), (1, .int v1), (2, .int v2), (3, .int v3), (4, .int v4), (6, .int v6), (7, .int 2), (9, .int v9)] → wp_X5_liveStep_174_2 K S v1 v2 v3 v4 v6 v9 k0 → W p l e ({ frames := 6, cells := 0, slots := 0, locals := 140 } : Room) s m args below meth c H locs 0 0 (MQ below (va_Qi K (BW dC dI A (fun u => mdW y a u)) A) args s 0 0 A) (F0 m 174 ls [.int k0]) := by
  obtain ⟨hx, hb, hr, hml, hown, hts, hlocks, hA, hK⟩ := id C0
  have w25 := hts (Cond.fieldLink RX5 25 "SharedWireModel" "lastFault" "[I") (List.mem_of_getElem? (i := 3) rfl)
  have hinX5 : ∀ w ∈ wsX50, w ∈ wsX5_liveStep := fun w h => List.mem_cons_of_mem _ (List.mem_append_right _ (h))
  intro S v1 v2 v3 v4 v6 v9 k0 H locs ls hP hD hS hl hf
  obtain ⟨mI, mA, mL⟩ := S
  unfold wp_X5_liveStep_174_2 at hf
  refine lv_istore (lv' := [(5, .int k0), (0, .ref (a 0)), (1, .int v1), (2, .int v2), (3, .int v3), (4, .int v4), (6, .int v6), (7, .int 2), (9, .int v9)]) hx hb dX5_liveStep_174 hl (by decide) rfl (fun ls hl => ?_)
  refine lv_iload hx hb dX5_liveStep_176 (lv_at hl 8 rfl) ?_
  refine lv_if_le (tgt := 206) hx hb dX5_liveStep_178 (by decide) (fun c28 => ?_) (fun c28 => ?_)
  · replace hf := hf.1 c28
    exact j_X5_liveStep_206_2 C0 a K (mI, mA, mL) v1 v2 v3 v4 k0 v6 H locs ls hP hD hS (lv_sub hl [1, 2, 3, 4, 5, 0, 6, 7] rfl) hf
  · replace hf := hf.2 c28
    refine lv_iload hx hb dX5_liveStep_181 (lv_at hl 8 rfl) ?_
    refine lv_bipush (v := 9) hx hb dX5_liveStep_183 (by decide) ?_
    refine lv_icmp_ge (tgt := 206) hx hb dX5_liveStep_185 (by decide) (fun c44 => ?_) (fun c44 => ?_)
    · replace hf := hf.1 c44
      exact j_X5_liveStep_206_2 C0 a K (mI, mA, mL) v1 v2 v3 v4 k0 v6 H locs ls hP hD hS (lv_sub hl [1, 2, 3, 4, 5, 0, 6, 7] rfl) hf
    · replace hf := hf.2 c44
      refine lv_iload hx hb dX5_liveStep_188 (lv_at hl 5 rfl) ?_
      refine lv_iconst (v := 1) hx hb dX5_liveStep_190 (by decide) ?_
      refine lv_iload hx hb dX5_liveStep_191 (lv_at hl 7 rfl) ?_
      refine lv_ishl hx hb dX5_liveStep_193 ?_
      refine fold_i (v := 4) (by decide) ?_
      refine lv_ior hx hb dX5_liveStep_194 ?_
      refine lv_topi (fun n45 en45 => ?_)
      replace hf := hf n45 en45
      refine lv_istore (lv' := [(4, .int n45), (5, .int k0), (0, .ref (a 0)), (1, .int v1), (2, .int v2), (3, .int v3), (6, .int v6), (7, .int 2), (9, .int v9)]) hx hb dX5_liveStep_195 hl (by decide) rfl (fun ls hl => ?_)
      refine lv_aload_n hx hb dX5_liveStep_197 rfl (lv_at hl 2 rfl) ?_
      refine va_get (D := (dC, dI)) (ci := 5) (v := .ref (a 8)) (C := RX5) (T := TX5) (N := 35) hx hb hts hinX5 hown hK.1 hP 0 rfl rfl 8 (by decide) w25 (fun _ h9 => h9) rfl dX5_liveStep_198 ?_
      refine lv_iload hx hb dX5_liveStep_201 (lv_at hl 7 rfl) ?_
      refine lv_iload hx hb dX5_liveStep_203 (lv_at hl 8 rfl) ?_
      refine mst_8 (f := (mA 8)) (x := v9) (j := 2) hx hb hK.1 hP hD hS rfl (clamp_lit 2 rfl) (vin_lit 2 4 rfl rfl) dX5_liveStep_205 (fun H locs hP hD hS => ?_)
      exact j_X5_liveStep_206_2 C0 a K (mI, va_up mA 8 (upd (mA 8) 2 v9), mL) v1 v2 v3 n45 k0 v6 H locs ls hP hD hS (lv_sub hl [2, 3, 4, 5, 0, 1, 6, 7] rfl) hf
set_option maxHeartbeats 4000000 in
set_option maxRecDepth 100000 in
theorem j_X5_liveStep_153_2 {p : Program} {l : Launch} {e : Env} {s : State} {m : MethodId} {args : Array Value} {below : List Frame} {meth : Method} {c : Code} {dC : Nat → ClassId} {dI : Nat → Nat → Nat} {y : Nat → ClassId} {A : Nat → Prop} (C0 : Cx p s m args meth c cX5_liveStep 10 (some .int) wsX5_liveStep RX5 A dC dI y) (a : Nat → Nat) (K : Int32 → ModelS → Prop) : ∀ (S : ModelS) (v1 : Int32) (v2 : Int32) (v3 : Int32) (v4 : Int32) (v5 : Int32) (v9 : Int32) (k0 : Int32) (H : Heap) (locs : List Loc) (ls : Array Slot), va_P (dC, dI) vwCl (mdW y a S) H → va_D A (mdW y a S) → va_S A s.heap H locs → lv_has ls 10 [(0, .ref (a 0)), (1, .int v1), (2, .int v2), (3, .int v3), (4, .int v4), (5, .int v5), (7, .int 2), (9, .int v9)] → wp_X5_liveStep_153_2 K S v1 v2 v3 v4 v5 v9 k0 → W p l e ({ frames := 6, cells := 0, slots := 0, locals := 140 } : Room) s m args below meth c H locs 0 0 (MQ below (va_Qi K (BW dC dI A (fun u => mdW y a u)) A) args s 0 0 A) (F0 m 153 ls [.int k0]) := by
  obtain ⟨hx, hb, hr, hml, hown, hts, hlocks, hA, hK⟩ := id C0
  intro S v1 v2 v3 v4 v5 v9 k0 H locs ls hP hD hS hl hf
  obtain ⟨mI, mA, mL⟩ := S
  unfold wp_X5_liveStep_153_2 at hf
  refine lv_istore (lv' := [(6, .int k0), (0, .ref (a 0)), (1, .int v1), (2, .int v2), (3, .int v3), (4, .int v4), (5, .int v5), (7, .int 2), (9, .int v9)]) hx hb dX5_liveStep_153 hl (by decide) rfl (fun ls hl => ?_)
  refine lv_iload hx hb dX5_liveStep_155 (lv_at hl 8 rfl) ?_
  refine lv_bipush (v := 9) hx hb dX5_liveStep_157 (by decide) ?_
  refine lv_icmp_ne (tgt := 172) hx hb dX5_liveStep_159 (by decide) (fun c27 => ?_) (fun c27 => ?_)
  · replace hf := hf.1 c27
    refine lv_iload hx hb dX5_liveStep_172 (lv_at hl 6 rfl) ?_
    exact j_X5_liveStep_174_2 C0 a K (mI, mA, mL) v1 v2 v3 v4 k0 v9 v5 H locs ls hP hD hS (lv_sub hl [1, 2, 3, 4, 5, 0, 7, 8] rfl) hf
  · replace hf := hf.2 c27
    refine lv_iload hx hb dX5_liveStep_162 (lv_at hl 6 rfl) ?_
    refine lv_iconst (v := 1) hx hb dX5_liveStep_164 (by decide) ?_
    refine lv_iload hx hb dX5_liveStep_165 (lv_at hl 7 rfl) ?_
    refine lv_ishl hx hb dX5_liveStep_167 ?_
    refine fold_i (v := 4) (by decide) ?_
    refine lv_ior hx hb dX5_liveStep_168 ?_
    refine lv_goto (tgt := 174) hx hb dX5_liveStep_169 (by decide) ?_
    exact j_X5_liveStep_174_2 C0 a K (mI, mA, mL) v1 v2 v3 v4 k0 v9 (v5 ||| 4) H locs ls hP hD hS (lv_sub hl [1, 2, 3, 4, 5, 0, 7, 8] rfl) hf
set_option maxHeartbeats 4000000 in
set_option maxRecDepth 100000 in
theorem j_X5_liveStep_148_2 {p : Program} {l : Launch} {e : Env} {s : State} {m : MethodId} {args : Array Value} {below : List Frame} {meth : Method} {c : Code} {dC : Nat → ClassId} {dI : Nat → Nat → Nat} {y : Nat → ClassId} {A : Nat → Prop} (C0 : Cx p s m args meth c cX5_liveStep 10 (some .int) wsX5_liveStep RX5 A dC dI y) (a : Nat → Nat) (K : Int32 → ModelS → Prop) : ∀ (S : ModelS) (v1 : Int32) (v2 : Int32) (v3 : Int32) (v4 : Int32) (v5 : Int32) (v9 : Int32) (H : Heap) (locs : List Loc) (ls : Array Slot), va_P (dC, dI) vwCl (mdW y a S) H → va_D A (mdW y a S) → va_S A s.heap H locs → lv_has ls 10 [(0, .ref (a 0)), (1, .int v1), (2, .int v2), (3, .int v3), (4, .int v4), (5, .int v5), (7, .int 2), (9, .int v9)] → wp_X5_liveStep_148_2 K S v1 v2 v3 v4 v5 v9 → W p l e ({ frames := 6, cells := 0, slots := 0, locals := 140 } : Room) s m args below meth c H locs 0 0 (MQ below (va_Qi K (BW dC dI A (fun u => mdW y a u)) A) args s 0 0 A) (F0 m 148 ls []) := by
  obtain ⟨hx, hb, hr, hml, hown, hts, hlocks, hA, hK⟩ := id C0
  intro S v1 v2 v3 v4 v5 v9 H locs ls hP hD hS hl hf
  obtain ⟨mI, mA, mL⟩ := S
  unfold wp_X5_liveStep_148_2 at hf
  refine lv_iconst (v := 1) hx hb dX5_liveStep_148 (by decide) ?_
  refine lv_goto (tgt := 153) hx hb dX5_liveStep_149 (by decide) ?_
  exact j_X5_liveStep_153_2 C0 a K (mI, mA, mL) v1 v2 v3 v4 v5 v9 1 H locs ls hP hD hS (lv_sub hl [0, 1, 2, 3, 4, 5, 6, 7] rfl) hf
set_option maxHeartbeats 4000000 in
set_option maxRecDepth 100000 in
theorem j_X5_liveStep_130_2 {p : Program} {l : Launch} {e : Env} {s : State} {m : MethodId} {args : Array Value} {below : List Frame} {meth : Method} {c : Code} {dC : Nat → ClassId} {dI : Nat → Nat → Nat} {y : Nat → ClassId} {A : Nat → Prop} (C0 : Cx p s m args meth c cX5_liveStep 10 (some .int) wsX5_liveStep RX5 A dC dI y) (a : Nat → Nat) (K : Int32 → ModelS → Prop) : ∀ (S : ModelS) (v1 : Int32) (v2 : Int32) (v3 : Int32) (v4 : Int32) (v5 : Int32) (v6 : Int32) (k0 : Int32) (H : Heap) (locs : List Loc) (ls : Array Slot), va_P (dC, dI) vwCl (mdW y a S) H → va_D A (mdW y a S) → va_S A s.heap H locs → lv_has ls 10 [(0, .ref (a 0)), (1, .int v1), (2, .int v2), (3, .int v3), (4, .int v4), (5, .int v5), (6, .int v6), (7, .int 2)] → wp_X5_liveStep_130_2 K S v1 v2 v3 v4 v5 v6 k0 → W p l e ({ frames := 6, cells := 0, slots := 0, locals := 140 } : Room) s m args below meth c H locs 0 0 (MQ below (va_Qi K (BW dC dI A (fun u => mdW y a u)) A) args s 0 0 A) (F0 m 130 ls [.int k0]) := by
  obtain ⟨hx, hb, hr, hml, hown, hts, hlocks, hA, hK⟩ := id C0
  have w9 := hts (Cond.fieldLink RX5 9 "SharedWireModel" "state" "[I") (List.mem_of_getElem? (i := 2) rfl)
  have hinX5 : ∀ w ∈ wsX50, w ∈ wsX5_liveStep := fun w h => List.mem_cons_of_mem _ (List.mem_append_right _ (h))
  intro S v1 v2 v3 v4 v5 v6 k0 H locs ls hP hD hS hl hf
  obtain ⟨mI, mA, mL⟩ := S
  unfold wp_X5_liveStep_130_2 at hf
  refine lv_istore (lv' := [(9, .int k0), (0, .ref (a 0)), (1, .int v1), (2, .int v2), (3, .int v3), (4, .int v4), (5, .int v5), (6, .int v6), (7, .int 2)]) hx hb dX5_liveStep_130 hl (by decide) rfl (fun ls hl => ?_)
  refine lv_iload hx hb dX5_liveStep_132 (lv_at hl 7 rfl) ?_
  refine lv_if_ne (tgt := 148) hx hb dX5_liveStep_134 (by decide) (fun c26 => ?_) (fun c26 => ?_)
  · replace hf := hf.1 c26
    exact j_X5_liveStep_148_2 C0 a K (mI, mA, mL) v1 v2 v3 v4 v5 k0 H locs ls hP hD hS (lv_sub hl [1, 2, 3, 4, 5, 6, 8, 0] rfl) hf
  · replace hf := hf.2 c26
    refine lv_aload_n hx hb dX5_liveStep_137 rfl (lv_at hl 1 rfl) ?_
    refine va_get (D := (dC, dI)) (ci := 5) (v := .ref (a 3)) (C := RX5) (T := TX5) (N := 35) hx hb hts hinX5 hown hK.1 hP 0 rfl rfl 3 (by decide) w9 (fun _ h9 => h9) rfl dX5_liveStep_138 ?_
    refine lv_iload hx hb dX5_liveStep_141 (lv_at hl 8 rfl) ?_
    refine ar_ild (f := (mA 3)) (j := 2) hx hb hK.1 hP 1 0 rfl rfl (clamp_lit 2 rfl) (vin_lit 2 4 rfl rfl) dX5_liveStep_143 ?_
    refine lv_iconst (v := 2) hx hb dX5_liveStep_144 (by decide) ?_
    refine lv_icmp_ne (tgt := 152) hx hb dX5_liveStep_145 (by decide) (fun c46 => ?_) (fun c46 => ?_)
    · replace hf := hf.1 c46
      refine lv_iconst (v := 0) hx hb dX5_liveStep_152 (by decide) ?_
      exact j_X5_liveStep_153_2 C0 a K (mI, mA, mL) v1 v2 v3 v4 v5 k0 0 H locs ls hP hD hS (lv_sub hl [1, 2, 3, 4, 5, 6, 8, 0] rfl) hf
    · replace hf := hf.2 c46
      exact j_X5_liveStep_148_2 C0 a K (mI, mA, mL) v1 v2 v3 v4 v5 k0 H locs ls hP hD hS (lv_sub hl [1, 2, 3, 4, 5, 6, 8, 0] rfl) hf
set_option maxHeartbeats 4000000 in
set_option maxRecDepth 100000 in
theorem j_X5_liveStep_106_2 {p : Program} {l : Launch} {e : Env} {s : State} {m : MethodId} {args : Array Value} {below : List Frame} {meth : Method} {c : Code} {dC : Nat → ClassId} {dI : Nat → Nat → Nat} {y : Nat → ClassId} {A : Nat → Prop} (C0 : Cx p s m args meth c cX5_liveStep 10 (some .int) wsX5_liveStep RX5 A dC dI y) (a : Nat → Nat) (K : Int32 → ModelS → Prop) : ∀ (S : ModelS) (v1 : Int32) (v2 : Int32) (v3 : Int32) (v4 : Int32) (v5 : Int32) (v6 : Int32) (k0 : Int32) (H : Heap) (locs : List Loc) (ls : Array Slot), va_P (dC, dI) vwCl (mdW y a S) H → va_D A (mdW y a S) → va_S A s.heap H locs → lv_has ls 10 [(0, .ref (a 0)), (1, .int v1), (2, .int v2), (3, .int v3), (4, .int v4), (5, .int v5), (6, .int v6), (7, .int 2)] → wp_X5_liveStep_106_2 K S v1 v2 v3 v4 v5 v6 k0 → W p l e ({ frames := 6, cells := 0, slots := 0, locals := 140 } : Room) s m args below meth c H locs 0 0 (MQ below (va_Qi K (BW dC dI A (fun u => mdW y a u)) A) args s 0 0 A) (F0 m 106 ls [.int k0]) := by
  obtain ⟨hx, hb, hr, hml, hown, hts, hlocks, hA, hK⟩ := id C0
  have w9 := hts (Cond.fieldLink RX5 9 "SharedWireModel" "state" "[I") (List.mem_of_getElem? (i := 2) rfl)
  have hinX5 : ∀ w ∈ wsX50, w ∈ wsX5_liveStep := fun w h => List.mem_cons_of_mem _ (List.mem_append_right _ (h))
  intro S v1 v2 v3 v4 v5 v6 k0 H locs ls hP hD hS hl hf
  obtain ⟨mI, mA, mL⟩ := S
  unfold wp_X5_liveStep_106_2 at hf
  refine lv_istore (lv' := [(8, .int k0), (0, .ref (a 0)), (1, .int v1), (2, .int v2), (3, .int v3), (4, .int v4), (5, .int v5), (6, .int v6), (7, .int 2)]) hx hb dX5_liveStep_106 hl (by decide) rfl (fun ls hl => ?_)
  refine lv_aload_n hx hb dX5_liveStep_108 rfl (lv_at hl 1 rfl) ?_
  refine va_get (D := (dC, dI)) (ci := 5) (v := .ref (a 3)) (C := RX5) (T := TX5) (N := 35) hx hb hts hinX5 hown hK.1 hP 0 rfl rfl 3 (by decide) w9 (fun _ h9 => h9) rfl dX5_liveStep_109 ?_
  refine lv_iload hx hb dX5_liveStep_112 (lv_at hl 8 rfl) ?_
  refine ar_ild (f := (mA 3)) (j := 2) hx hb hK.1 hP 1 0 rfl rfl (clamp_lit 2 rfl) (vin_lit 2 4 rfl rfl) dX5_liveStep_114 ?_
  refine lv_if_ne (tgt := 122) hx hb dX5_liveStep_115 (by decide) (fun c23 => ?_) (fun c23 => ?_)
  · replace hf := hf.1 c23
    refine lv_aload_n hx hb dX5_liveStep_122 rfl (lv_at hl 1 rfl) ?_
    refine lv_iload hx hb dX5_liveStep_123 (lv_at hl 8 rfl) ?_
    refine lv_iload hx hb dX5_liveStep_125 (lv_at hl 0 rfl) ?_
    refine k0i (As := [.int 2, .int k0]) (rest := []) ⟨hx, hb, hml, hown, hts⟩ (c_X5_sees l dC dI y a H.size (mI, mA, mL) 2 k0 _ hf) (cwV 2 hts gX5_liveStep_X5_sees rfl rfl rfl (by decide +kernel) ⟨Nat.le_of_ble_eq_true rfl, Nat.le_of_ble_eq_true rfl⟩) hK hP hD (va_recv hK.1 hP (ci := 5) (q0 := 0) rfl rfl) hS hA rfl hl.1 rfl (Nat.le_of_ble_eq_true rfl) dX5_liveStep_127 ⟨Nat.zero_le _, Nat.zero_le _⟩ (fun r24 u25 H locs hf hP hD hS => ?_)
    have hP : va_P (dC, dI) vwCl (mdW y a (u25.1, u25.2.1, u25.2.2)) H := hP
    have hD : va_D A (mdW y a (u25.1, u25.2.1, u25.2.2)) := hD
    exact j_X5_liveStep_130_2 C0 a K (u25.1, u25.2.1, u25.2.2) v1 v2 v3 v4 v5 v6 r24 H locs ls hP hD hS (lv_sub hl [1, 2, 3, 4, 5, 6, 7, 8] rfl) hf
  · replace hf := hf.2 c23
    refine lv_iconst (v := 0) hx hb dX5_liveStep_118 (by decide) ?_
    refine lv_goto (tgt := 130) hx hb dX5_liveStep_119 (by decide) ?_
    exact j_X5_liveStep_130_2 C0 a K (mI, mA, mL) v1 v2 v3 v4 v5 v6 0 H locs ls hP hD hS (lv_sub hl [1, 2, 3, 4, 5, 6, 7, 8] rfl) hf
set_option maxHeartbeats 4000000 in
set_option maxRecDepth 100000 in
theorem j_X5_liveStep_83_2 {p : Program} {l : Launch} {e : Env} {s : State} {m : MethodId} {args : Array Value} {below : List Frame} {meth : Method} {c : Code} {dC : Nat → ClassId} {dI : Nat → Nat → Nat} {y : Nat → ClassId} {A : Nat → Prop} (C0 : Cx p s m args meth c cX5_liveStep 10 (some .int) wsX5_liveStep RX5 A dC dI y) (a : Nat → Nat) (K : Int32 → ModelS → Prop) : ∀ (S : ModelS) (v1 : Int32) (v2 : Int32) (v3 : Int32) (v4 : Int32) (v5 : Int32) (v6 : Int32) (H : Heap) (locs : List Loc) (ls : Array Slot), va_P (dC, dI) vwCl (mdW y a S) H → va_D A (mdW y a S) → va_S A s.heap H locs → lv_has ls 10 [(0, .ref (a 0)), (1, .int v1), (2, .int v2), (3, .int v3), (4, .int v4), (5, .int v5), (6, .int v6), (7, .int 2)] → wp_X5_liveStep_83_2 K S v1 v2 v3 v4 v5 v6 → W p l e ({ frames := 6, cells := 0, slots := 0, locals := 140 } : Room) s m args below meth c H locs 0 0 (MQ below (va_Qi K (BW dC dI A (fun u => mdW y a u)) A) args s 0 0 A) (F0 m 83 ls []) := by
  obtain ⟨hx, hb, hr, hml, hown, hts, hlocks, hA, hK⟩ := id C0
  intro S v1 v2 v3 v4 v5 v6 H locs ls hP hD hS hl hf
  obtain ⟨mI, mA, mL⟩ := S
  unfold wp_X5_liveStep_83_2 at hf
  refine lv_iload hx hb dX5_liveStep_83 (lv_at hl 7 rfl) ?_
  refine lv_iconst (v := 4) hx hb dX5_liveStep_85 (by decide) ?_
  refine lv_icmp_ge (tgt := 212) hx hb dX5_liveStep_86 (by decide) (fun c9 => absurd c9 (by decide)) (fun _ => ?_)
  refine lv_iload_n hx hb dX5_liveStep_89 rfl (lv_at hl 1 rfl) ?_
  refine lv_iload hx hb dX5_liveStep_90 (lv_at hl 7 rfl) ?_
  refine lv_ishr hx hb dX5_liveStep_92 ?_
  refine lv_iconst (v := 1) hx hb dX5_liveStep_93 (by decide) ?_
  refine lv_iand hx hb dX5_liveStep_94 ?_
  refine lv_iconst (v := 1) hx hb dX5_liveStep_95 (by decide) ?_
  refine lv_icmp_ne (tgt := 105) hx hb dX5_liveStep_96 (by decide) (fun c22 => ?_) (fun c22 => ?_)
  · replace hf := hf.1 c22
    refine lv_iload_n hx hb dX5_liveStep_105 rfl (lv_at hl 3 rfl) ?_
    exact j_X5_liveStep_106_2 C0 a K (mI, mA, mL) v1 v2 v3 v4 v5 v6 v3 H locs ls hP hD hS (lv_sub hl [0, 1, 2, 3, 4, 5, 6, 7] rfl) hf
  · replace hf := hf.2 c22
    refine lv_iconst (v := 1) hx hb dX5_liveStep_99 (by decide) ?_
    refine lv_iload_n hx hb dX5_liveStep_100 rfl (lv_at hl 3 rfl) ?_
    refine lv_isub hx hb dX5_liveStep_101 ?_
    refine lv_goto (tgt := 106) hx hb dX5_liveStep_102 (by decide) ?_
    exact j_X5_liveStep_106_2 C0 a K (mI, mA, mL) v1 v2 v3 v4 v5 v6 (1 - v3) H locs ls hP hD hS (lv_sub hl [0, 1, 2, 3, 4, 5, 6, 7] rfl) hf
set_option maxHeartbeats 4000000 in
set_option maxRecDepth 100000 in
theorem j_X5_liveStep_206_1 {p : Program} {l : Launch} {e : Env} {s : State} {m : MethodId} {args : Array Value} {below : List Frame} {meth : Method} {c : Code} {dC : Nat → ClassId} {dI : Nat → Nat → Nat} {y : Nat → ClassId} {A : Nat → Prop} (C0 : Cx p s m args meth c cX5_liveStep 10 (some .int) wsX5_liveStep RX5 A dC dI y) (a : Nat → Nat) (K : Int32 → ModelS → Prop) : ∀ (S : ModelS) (v1 : Int32) (v2 : Int32) (v3 : Int32) (v4 : Int32) (v5 : Int32) (v6 : Int32) (H : Heap) (locs : List Loc) (ls : Array Slot), va_P (dC, dI) vwCl (mdW y a S) H → va_D A (mdW y a S) → va_S A s.heap H locs → lv_has ls 10 [(0, .ref (a 0)), (1, .int v1), (2, .int v2), (3, .int v3), (4, .int v4), (5, .int v5), (6, .int v6), (7, .int 1)] → wp_X5_liveStep_206_1 K S v1 v2 v3 v4 v5 v6 → W p l e ({ frames := 6, cells := 0, slots := 0, locals := 140 } : Room) s m args below meth c H locs 0 0 (MQ below (va_Qi K (BW dC dI A (fun u => mdW y a u)) A) args s 0 0 A) (F0 m 206 ls []) := by
  obtain ⟨hx, hb, hr, hml, hown, hts, hlocks, hA, hK⟩ := id C0
  intro S v1 v2 v3 v4 v5 v6 H locs ls hP hD hS hl hf
  obtain ⟨mI, mA, mL⟩ := S
  unfold wp_X5_liveStep_206_1 at hf
  refine lv_iinc (v := 2) (lv' := [(7, .int 2), (0, .ref (a 0)), (1, .int v1), (2, .int v2), (3, .int v3), (4, .int v4), (5, .int v5), (6, .int v6)]) hx hb dX5_liveStep_206 hl (k := 7) rfl (by decide) (by decide) rfl (fun ls hl => ?_)
  refine lv_goto (tgt := 83) hx hb dX5_liveStep_209 (by decide) ?_
  exact j_X5_liveStep_83_2 C0 a K (mI, mA, mL) v1 v2 v3 v4 v5 v6 H locs ls hP hD hS (lv_sub hl [1, 2, 3, 4, 5, 6, 7, 0] rfl) hf
set_option maxHeartbeats 4000000 in
set_option maxRecDepth 100000 in
theorem j_X5_liveStep_174_1 {p : Program} {l : Launch} {e : Env} {s : State} {m : MethodId} {args : Array Value} {below : List Frame} {meth : Method} {c : Code} {dC : Nat → ClassId} {dI : Nat → Nat → Nat} {y : Nat → ClassId} {A : Nat → Prop} (C0 : Cx p s m args meth c cX5_liveStep 10 (some .int) wsX5_liveStep RX5 A dC dI y) (a : Nat → Nat) (K : Int32 → ModelS → Prop) : ∀ (S : ModelS) (v1 : Int32) (v2 : Int32) (v3 : Int32) (v4 : Int32) (v6 : Int32) (v9 : Int32) (k0 : Int32) (H : Heap) (locs : List Loc) (ls : Array Slot), va_P (dC, dI) vwCl (mdW y a S) H → va_D A (mdW y a S) → va_S A s.heap H locs → lv_has ls 10 [(0, .ref (a 0)), (1, .int v1), (2, .int v2), (3, .int v3), (4, .int v4), (6, .int v6), (7, .int 1), (9, .int v9)] → wp_X5_liveStep_174_1 K S v1 v2 v3 v4 v6 v9 k0 → W p l e ({ frames := 6, cells := 0, slots := 0, locals := 140 } : Room) s m args below meth c H locs 0 0 (MQ below (va_Qi K (BW dC dI A (fun u => mdW y a u)) A) args s 0 0 A) (F0 m 174 ls [.int k0]) := by
  obtain ⟨hx, hb, hr, hml, hown, hts, hlocks, hA, hK⟩ := id C0
  have w25 := hts (Cond.fieldLink RX5 25 "SharedWireModel" "lastFault" "[I") (List.mem_of_getElem? (i := 3) rfl)
  have hinX5 : ∀ w ∈ wsX50, w ∈ wsX5_liveStep := fun w h => List.mem_cons_of_mem _ (List.mem_append_right _ (h))
  intro S v1 v2 v3 v4 v6 v9 k0 H locs ls hP hD hS hl hf
  obtain ⟨mI, mA, mL⟩ := S
  unfold wp_X5_liveStep_174_1 at hf
  refine lv_istore (lv' := [(5, .int k0), (0, .ref (a 0)), (1, .int v1), (2, .int v2), (3, .int v3), (4, .int v4), (6, .int v6), (7, .int 1), (9, .int v9)]) hx hb dX5_liveStep_174 hl (by decide) rfl (fun ls hl => ?_)
  refine lv_iload hx hb dX5_liveStep_176 (lv_at hl 8 rfl) ?_
  refine lv_if_le (tgt := 206) hx hb dX5_liveStep_178 (by decide) (fun c21 => ?_) (fun c21 => ?_)
  · replace hf := hf.1 c21
    exact j_X5_liveStep_206_1 C0 a K (mI, mA, mL) v1 v2 v3 v4 k0 v6 H locs ls hP hD hS (lv_sub hl [1, 2, 3, 4, 5, 0, 6, 7] rfl) hf
  · replace hf := hf.2 c21
    refine lv_iload hx hb dX5_liveStep_181 (lv_at hl 8 rfl) ?_
    refine lv_bipush (v := 9) hx hb dX5_liveStep_183 (by decide) ?_
    refine lv_icmp_ge (tgt := 206) hx hb dX5_liveStep_185 (by decide) (fun c47 => ?_) (fun c47 => ?_)
    · replace hf := hf.1 c47
      exact j_X5_liveStep_206_1 C0 a K (mI, mA, mL) v1 v2 v3 v4 k0 v6 H locs ls hP hD hS (lv_sub hl [1, 2, 3, 4, 5, 0, 6, 7] rfl) hf
    · replace hf := hf.2 c47
      refine lv_iload hx hb dX5_liveStep_188 (lv_at hl 5 rfl) ?_
      refine lv_iconst (v := 1) hx hb dX5_liveStep_190 (by decide) ?_
      refine lv_iload hx hb dX5_liveStep_191 (lv_at hl 7 rfl) ?_
      refine lv_ishl hx hb dX5_liveStep_193 ?_
      refine fold_i (v := 2) (by decide) ?_
      refine lv_ior hx hb dX5_liveStep_194 ?_
      refine lv_topi (fun n48 en48 => ?_)
      replace hf := hf n48 en48
      refine lv_istore (lv' := [(4, .int n48), (5, .int k0), (0, .ref (a 0)), (1, .int v1), (2, .int v2), (3, .int v3), (6, .int v6), (7, .int 1), (9, .int v9)]) hx hb dX5_liveStep_195 hl (by decide) rfl (fun ls hl => ?_)
      refine lv_aload_n hx hb dX5_liveStep_197 rfl (lv_at hl 2 rfl) ?_
      refine va_get (D := (dC, dI)) (ci := 5) (v := .ref (a 8)) (C := RX5) (T := TX5) (N := 35) hx hb hts hinX5 hown hK.1 hP 0 rfl rfl 8 (by decide) w25 (fun _ h9 => h9) rfl dX5_liveStep_198 ?_
      refine lv_iload hx hb dX5_liveStep_201 (lv_at hl 7 rfl) ?_
      refine lv_iload hx hb dX5_liveStep_203 (lv_at hl 8 rfl) ?_
      refine mst_8 (f := (mA 8)) (x := v9) (j := 1) hx hb hK.1 hP hD hS rfl (clamp_lit 1 rfl) (vin_lit 1 4 rfl rfl) dX5_liveStep_205 (fun H locs hP hD hS => ?_)
      exact j_X5_liveStep_206_1 C0 a K (mI, va_up mA 8 (upd (mA 8) 1 v9), mL) v1 v2 v3 n48 k0 v6 H locs ls hP hD hS (lv_sub hl [2, 3, 4, 5, 0, 1, 6, 7] rfl) hf
set_option maxHeartbeats 4000000 in
set_option maxRecDepth 100000 in
theorem j_X5_liveStep_153_1 {p : Program} {l : Launch} {e : Env} {s : State} {m : MethodId} {args : Array Value} {below : List Frame} {meth : Method} {c : Code} {dC : Nat → ClassId} {dI : Nat → Nat → Nat} {y : Nat → ClassId} {A : Nat → Prop} (C0 : Cx p s m args meth c cX5_liveStep 10 (some .int) wsX5_liveStep RX5 A dC dI y) (a : Nat → Nat) (K : Int32 → ModelS → Prop) : ∀ (S : ModelS) (v1 : Int32) (v2 : Int32) (v3 : Int32) (v4 : Int32) (v5 : Int32) (v9 : Int32) (k0 : Int32) (H : Heap) (locs : List Loc) (ls : Array Slot), va_P (dC, dI) vwCl (mdW y a S) H → va_D A (mdW y a S) → va_S A s.heap H locs → lv_has ls 10 [(0, .ref (a 0)), (1, .int v1), (2, .int v2), (3, .int v3), (4, .int v4), (5, .int v5), (7, .int 1), (9, .int v9)] → wp_X5_liveStep_153_1 K S v1 v2 v3 v4 v5 v9 k0 → W p l e ({ frames := 6, cells := 0, slots := 0, locals := 140 } : Room) s m args below meth c H locs 0 0 (MQ below (va_Qi K (BW dC dI A (fun u => mdW y a u)) A) args s 0 0 A) (F0 m 153 ls [.int k0]) := by
  obtain ⟨hx, hb, hr, hml, hown, hts, hlocks, hA, hK⟩ := id C0
  intro S v1 v2 v3 v4 v5 v9 k0 H locs ls hP hD hS hl hf
  obtain ⟨mI, mA, mL⟩ := S
  unfold wp_X5_liveStep_153_1 at hf
  refine lv_istore (lv' := [(6, .int k0), (0, .ref (a 0)), (1, .int v1), (2, .int v2), (3, .int v3), (4, .int v4), (5, .int v5), (7, .int 1), (9, .int v9)]) hx hb dX5_liveStep_153 hl (by decide) rfl (fun ls hl => ?_)
  refine lv_iload hx hb dX5_liveStep_155 (lv_at hl 8 rfl) ?_
  refine lv_bipush (v := 9) hx hb dX5_liveStep_157 (by decide) ?_
  refine lv_icmp_ne (tgt := 172) hx hb dX5_liveStep_159 (by decide) (fun c20 => ?_) (fun c20 => ?_)
  · replace hf := hf.1 c20
    refine lv_iload hx hb dX5_liveStep_172 (lv_at hl 6 rfl) ?_
    exact j_X5_liveStep_174_1 C0 a K (mI, mA, mL) v1 v2 v3 v4 k0 v9 v5 H locs ls hP hD hS (lv_sub hl [1, 2, 3, 4, 5, 0, 7, 8] rfl) hf
  · replace hf := hf.2 c20
    refine lv_iload hx hb dX5_liveStep_162 (lv_at hl 6 rfl) ?_
    refine lv_iconst (v := 1) hx hb dX5_liveStep_164 (by decide) ?_
    refine lv_iload hx hb dX5_liveStep_165 (lv_at hl 7 rfl) ?_
    refine lv_ishl hx hb dX5_liveStep_167 ?_
    refine fold_i (v := 2) (by decide) ?_
    refine lv_ior hx hb dX5_liveStep_168 ?_
    refine lv_goto (tgt := 174) hx hb dX5_liveStep_169 (by decide) ?_
    exact j_X5_liveStep_174_1 C0 a K (mI, mA, mL) v1 v2 v3 v4 k0 v9 (v5 ||| 2) H locs ls hP hD hS (lv_sub hl [1, 2, 3, 4, 5, 0, 7, 8] rfl) hf
set_option maxHeartbeats 4000000 in
set_option maxRecDepth 100000 in
theorem j_X5_liveStep_148_1 {p : Program} {l : Launch} {e : Env} {s : State} {m : MethodId} {args : Array Value} {below : List Frame} {meth : Method} {c : Code} {dC : Nat → ClassId} {dI : Nat → Nat → Nat} {y : Nat → ClassId} {A : Nat → Prop} (C0 : Cx p s m args meth c cX5_liveStep 10 (some .int) wsX5_liveStep RX5 A dC dI y) (a : Nat → Nat) (K : Int32 → ModelS → Prop) : ∀ (S : ModelS) (v1 : Int32) (v2 : Int32) (v3 : Int32) (v4 : Int32) (v5 : Int32) (v9 : Int32) (H : Heap) (locs : List Loc) (ls : Array Slot), va_P (dC, dI) vwCl (mdW y a S) H → va_D A (mdW y a S) → va_S A s.heap H locs → lv_has ls 10 [(0, .ref (a 0)), (1, .int v1), (2, .int v2), (3, .int v3), (4, .int v4), (5, .int v5), (7, .int 1), (9, .int v9)] → wp_X5_liveStep_148_1 K S v1 v2 v3 v4 v5 v9 → W p l e ({ frames := 6, cells := 0, slots := 0, locals := 140 } : Room) s m args below meth c H locs 0 0 (MQ below (va_Qi K (BW dC dI A (fun u => mdW y a u)) A) args s 0 0 A) (F0 m 148 ls []) := by
  obtain ⟨hx, hb, hr, hml, hown, hts, hlocks, hA, hK⟩ := id C0
  intro S v1 v2 v3 v4 v5 v9 H locs ls hP hD hS hl hf
  obtain ⟨mI, mA, mL⟩ := S
  unfold wp_X5_liveStep_148_1 at hf
  refine lv_iconst (v := 1) hx hb dX5_liveStep_148 (by decide) ?_
  refine lv_goto (tgt := 153) hx hb dX5_liveStep_149 (by decide) ?_
  exact j_X5_liveStep_153_1 C0 a K (mI, mA, mL) v1 v2 v3 v4 v5 v9 1 H locs ls hP hD hS (lv_sub hl [0, 1, 2, 3, 4, 5, 6, 7] rfl) hf
set_option maxHeartbeats 4000000 in
set_option maxRecDepth 100000 in
theorem j_X5_liveStep_130_1 {p : Program} {l : Launch} {e : Env} {s : State} {m : MethodId} {args : Array Value} {below : List Frame} {meth : Method} {c : Code} {dC : Nat → ClassId} {dI : Nat → Nat → Nat} {y : Nat → ClassId} {A : Nat → Prop} (C0 : Cx p s m args meth c cX5_liveStep 10 (some .int) wsX5_liveStep RX5 A dC dI y) (a : Nat → Nat) (K : Int32 → ModelS → Prop) : ∀ (S : ModelS) (v1 : Int32) (v2 : Int32) (v3 : Int32) (v4 : Int32) (v5 : Int32) (v6 : Int32) (k0 : Int32) (H : Heap) (locs : List Loc) (ls : Array Slot), va_P (dC, dI) vwCl (mdW y a S) H → va_D A (mdW y a S) → va_S A s.heap H locs → lv_has ls 10 [(0, .ref (a 0)), (1, .int v1), (2, .int v2), (3, .int v3), (4, .int v4), (5, .int v5), (6, .int v6), (7, .int 1)] → wp_X5_liveStep_130_1 K S v1 v2 v3 v4 v5 v6 k0 → W p l e ({ frames := 6, cells := 0, slots := 0, locals := 140 } : Room) s m args below meth c H locs 0 0 (MQ below (va_Qi K (BW dC dI A (fun u => mdW y a u)) A) args s 0 0 A) (F0 m 130 ls [.int k0]) := by
  obtain ⟨hx, hb, hr, hml, hown, hts, hlocks, hA, hK⟩ := id C0
  have w9 := hts (Cond.fieldLink RX5 9 "SharedWireModel" "state" "[I") (List.mem_of_getElem? (i := 2) rfl)
  have hinX5 : ∀ w ∈ wsX50, w ∈ wsX5_liveStep := fun w h => List.mem_cons_of_mem _ (List.mem_append_right _ (h))
  intro S v1 v2 v3 v4 v5 v6 k0 H locs ls hP hD hS hl hf
  obtain ⟨mI, mA, mL⟩ := S
  unfold wp_X5_liveStep_130_1 at hf
  refine lv_istore (lv' := [(9, .int k0), (0, .ref (a 0)), (1, .int v1), (2, .int v2), (3, .int v3), (4, .int v4), (5, .int v5), (6, .int v6), (7, .int 1)]) hx hb dX5_liveStep_130 hl (by decide) rfl (fun ls hl => ?_)
  refine lv_iload hx hb dX5_liveStep_132 (lv_at hl 7 rfl) ?_
  refine lv_if_ne (tgt := 148) hx hb dX5_liveStep_134 (by decide) (fun c19 => ?_) (fun c19 => ?_)
  · replace hf := hf.1 c19
    exact j_X5_liveStep_148_1 C0 a K (mI, mA, mL) v1 v2 v3 v4 v5 k0 H locs ls hP hD hS (lv_sub hl [1, 2, 3, 4, 5, 6, 8, 0] rfl) hf
  · replace hf := hf.2 c19
    refine lv_aload_n hx hb dX5_liveStep_137 rfl (lv_at hl 1 rfl) ?_
    refine va_get (D := (dC, dI)) (ci := 5) (v := .ref (a 3)) (C := RX5) (T := TX5) (N := 35) hx hb hts hinX5 hown hK.1 hP 0 rfl rfl 3 (by decide) w9 (fun _ h9 => h9) rfl dX5_liveStep_138 ?_
    refine lv_iload hx hb dX5_liveStep_141 (lv_at hl 8 rfl) ?_
    refine ar_ild (f := (mA 3)) (j := 1) hx hb hK.1 hP 1 0 rfl rfl (clamp_lit 1 rfl) (vin_lit 1 4 rfl rfl) dX5_liveStep_143 ?_
    refine lv_iconst (v := 2) hx hb dX5_liveStep_144 (by decide) ?_
    refine lv_icmp_ne (tgt := 152) hx hb dX5_liveStep_145 (by decide) (fun c49 => ?_) (fun c49 => ?_)
    · replace hf := hf.1 c49
      refine lv_iconst (v := 0) hx hb dX5_liveStep_152 (by decide) ?_
      exact j_X5_liveStep_153_1 C0 a K (mI, mA, mL) v1 v2 v3 v4 v5 k0 0 H locs ls hP hD hS (lv_sub hl [1, 2, 3, 4, 5, 6, 8, 0] rfl) hf
    · replace hf := hf.2 c49
      exact j_X5_liveStep_148_1 C0 a K (mI, mA, mL) v1 v2 v3 v4 v5 k0 H locs ls hP hD hS (lv_sub hl [1, 2, 3, 4, 5, 6, 8, 0] rfl) hf
set_option maxHeartbeats 4000000 in
set_option maxRecDepth 100000 in
theorem j_X5_liveStep_106_1 {p : Program} {l : Launch} {e : Env} {s : State} {m : MethodId} {args : Array Value} {below : List Frame} {meth : Method} {c : Code} {dC : Nat → ClassId} {dI : Nat → Nat → Nat} {y : Nat → ClassId} {A : Nat → Prop} (C0 : Cx p s m args meth c cX5_liveStep 10 (some .int) wsX5_liveStep RX5 A dC dI y) (a : Nat → Nat) (K : Int32 → ModelS → Prop) : ∀ (S : ModelS) (v1 : Int32) (v2 : Int32) (v3 : Int32) (v4 : Int32) (v5 : Int32) (v6 : Int32) (k0 : Int32) (H : Heap) (locs : List Loc) (ls : Array Slot), va_P (dC, dI) vwCl (mdW y a S) H → va_D A (mdW y a S) → va_S A s.heap H locs → lv_has ls 10 [(0, .ref (a 0)), (1, .int v1), (2, .int v2), (3, .int v3), (4, .int v4), (5, .int v5), (6, .int v6), (7, .int 1)] → wp_X5_liveStep_106_1 K S v1 v2 v3 v4 v5 v6 k0 → W p l e ({ frames := 6, cells := 0, slots := 0, locals := 140 } : Room) s m args below meth c H locs 0 0 (MQ below (va_Qi K (BW dC dI A (fun u => mdW y a u)) A) args s 0 0 A) (F0 m 106 ls [.int k0]) := by
  obtain ⟨hx, hb, hr, hml, hown, hts, hlocks, hA, hK⟩ := id C0
  have w9 := hts (Cond.fieldLink RX5 9 "SharedWireModel" "state" "[I") (List.mem_of_getElem? (i := 2) rfl)
  have hinX5 : ∀ w ∈ wsX50, w ∈ wsX5_liveStep := fun w h => List.mem_cons_of_mem _ (List.mem_append_right _ (h))
  intro S v1 v2 v3 v4 v5 v6 k0 H locs ls hP hD hS hl hf
  obtain ⟨mI, mA, mL⟩ := S
  unfold wp_X5_liveStep_106_1 at hf
  refine lv_istore (lv' := [(8, .int k0), (0, .ref (a 0)), (1, .int v1), (2, .int v2), (3, .int v3), (4, .int v4), (5, .int v5), (6, .int v6), (7, .int 1)]) hx hb dX5_liveStep_106 hl (by decide) rfl (fun ls hl => ?_)
  refine lv_aload_n hx hb dX5_liveStep_108 rfl (lv_at hl 1 rfl) ?_
  refine va_get (D := (dC, dI)) (ci := 5) (v := .ref (a 3)) (C := RX5) (T := TX5) (N := 35) hx hb hts hinX5 hown hK.1 hP 0 rfl rfl 3 (by decide) w9 (fun _ h9 => h9) rfl dX5_liveStep_109 ?_
  refine lv_iload hx hb dX5_liveStep_112 (lv_at hl 8 rfl) ?_
  refine ar_ild (f := (mA 3)) (j := 1) hx hb hK.1 hP 1 0 rfl rfl (clamp_lit 1 rfl) (vin_lit 1 4 rfl rfl) dX5_liveStep_114 ?_
  refine lv_if_ne (tgt := 122) hx hb dX5_liveStep_115 (by decide) (fun c16 => ?_) (fun c16 => ?_)
  · replace hf := hf.1 c16
    refine lv_aload_n hx hb dX5_liveStep_122 rfl (lv_at hl 1 rfl) ?_
    refine lv_iload hx hb dX5_liveStep_123 (lv_at hl 8 rfl) ?_
    refine lv_iload hx hb dX5_liveStep_125 (lv_at hl 0 rfl) ?_
    refine k0i (As := [.int 1, .int k0]) (rest := []) ⟨hx, hb, hml, hown, hts⟩ (c_X5_sees l dC dI y a H.size (mI, mA, mL) 1 k0 _ hf) (cwV 2 hts gX5_liveStep_X5_sees rfl rfl rfl (by decide +kernel) ⟨Nat.le_of_ble_eq_true rfl, Nat.le_of_ble_eq_true rfl⟩) hK hP hD (va_recv hK.1 hP (ci := 5) (q0 := 0) rfl rfl) hS hA rfl hl.1 rfl (Nat.le_of_ble_eq_true rfl) dX5_liveStep_127 ⟨Nat.zero_le _, Nat.zero_le _⟩ (fun r17 u18 H locs hf hP hD hS => ?_)
    have hP : va_P (dC, dI) vwCl (mdW y a (u18.1, u18.2.1, u18.2.2)) H := hP
    have hD : va_D A (mdW y a (u18.1, u18.2.1, u18.2.2)) := hD
    exact j_X5_liveStep_130_1 C0 a K (u18.1, u18.2.1, u18.2.2) v1 v2 v3 v4 v5 v6 r17 H locs ls hP hD hS (lv_sub hl [1, 2, 3, 4, 5, 6, 7, 8] rfl) hf
  · replace hf := hf.2 c16
    refine lv_iconst (v := 0) hx hb dX5_liveStep_118 (by decide) ?_
    refine lv_goto (tgt := 130) hx hb dX5_liveStep_119 (by decide) ?_
    exact j_X5_liveStep_130_1 C0 a K (mI, mA, mL) v1 v2 v3 v4 v5 v6 0 H locs ls hP hD hS (lv_sub hl [1, 2, 3, 4, 5, 6, 7, 8] rfl) hf
set_option maxHeartbeats 4000000 in
set_option maxRecDepth 100000 in
theorem j_X5_liveStep_83_1 {p : Program} {l : Launch} {e : Env} {s : State} {m : MethodId} {args : Array Value} {below : List Frame} {meth : Method} {c : Code} {dC : Nat → ClassId} {dI : Nat → Nat → Nat} {y : Nat → ClassId} {A : Nat → Prop} (C0 : Cx p s m args meth c cX5_liveStep 10 (some .int) wsX5_liveStep RX5 A dC dI y) (a : Nat → Nat) (K : Int32 → ModelS → Prop) : ∀ (S : ModelS) (v1 : Int32) (v2 : Int32) (v3 : Int32) (v4 : Int32) (v5 : Int32) (v6 : Int32) (H : Heap) (locs : List Loc) (ls : Array Slot), va_P (dC, dI) vwCl (mdW y a S) H → va_D A (mdW y a S) → va_S A s.heap H locs → lv_has ls 10 [(0, .ref (a 0)), (1, .int v1), (2, .int v2), (3, .int v3), (4, .int v4), (5, .int v5), (6, .int v6), (7, .int 1)] → wp_X5_liveStep_83_1 K S v1 v2 v3 v4 v5 v6 → W p l e ({ frames := 6, cells := 0, slots := 0, locals := 140 } : Room) s m args below meth c H locs 0 0 (MQ below (va_Qi K (BW dC dI A (fun u => mdW y a u)) A) args s 0 0 A) (F0 m 83 ls []) := by
  obtain ⟨hx, hb, hr, hml, hown, hts, hlocks, hA, hK⟩ := id C0
  intro S v1 v2 v3 v4 v5 v6 H locs ls hP hD hS hl hf
  obtain ⟨mI, mA, mL⟩ := S
  unfold wp_X5_liveStep_83_1 at hf
  refine lv_iload hx hb dX5_liveStep_83 (lv_at hl 7 rfl) ?_
  refine lv_iconst (v := 4) hx hb dX5_liveStep_85 (by decide) ?_
  refine lv_icmp_ge (tgt := 212) hx hb dX5_liveStep_86 (by decide) (fun c9 => absurd c9 (by decide)) (fun _ => ?_)
  refine lv_iload_n hx hb dX5_liveStep_89 rfl (lv_at hl 1 rfl) ?_
  refine lv_iload hx hb dX5_liveStep_90 (lv_at hl 7 rfl) ?_
  refine lv_ishr hx hb dX5_liveStep_92 ?_
  refine lv_iconst (v := 1) hx hb dX5_liveStep_93 (by decide) ?_
  refine lv_iand hx hb dX5_liveStep_94 ?_
  refine lv_iconst (v := 1) hx hb dX5_liveStep_95 (by decide) ?_
  refine lv_icmp_ne (tgt := 105) hx hb dX5_liveStep_96 (by decide) (fun c15 => ?_) (fun c15 => ?_)
  · replace hf := hf.1 c15
    refine lv_iload_n hx hb dX5_liveStep_105 rfl (lv_at hl 3 rfl) ?_
    exact j_X5_liveStep_106_1 C0 a K (mI, mA, mL) v1 v2 v3 v4 v5 v6 v3 H locs ls hP hD hS (lv_sub hl [0, 1, 2, 3, 4, 5, 6, 7] rfl) hf
  · replace hf := hf.2 c15
    refine lv_iconst (v := 1) hx hb dX5_liveStep_99 (by decide) ?_
    refine lv_iload_n hx hb dX5_liveStep_100 rfl (lv_at hl 3 rfl) ?_
    refine lv_isub hx hb dX5_liveStep_101 ?_
    refine lv_goto (tgt := 106) hx hb dX5_liveStep_102 (by decide) ?_
    exact j_X5_liveStep_106_1 C0 a K (mI, mA, mL) v1 v2 v3 v4 v5 v6 (1 - v3) H locs ls hP hD hS (lv_sub hl [0, 1, 2, 3, 4, 5, 6, 7] rfl) hf
set_option maxHeartbeats 4000000 in
set_option maxRecDepth 100000 in
theorem j_X5_liveStep_206_0 {p : Program} {l : Launch} {e : Env} {s : State} {m : MethodId} {args : Array Value} {below : List Frame} {meth : Method} {c : Code} {dC : Nat → ClassId} {dI : Nat → Nat → Nat} {y : Nat → ClassId} {A : Nat → Prop} (C0 : Cx p s m args meth c cX5_liveStep 10 (some .int) wsX5_liveStep RX5 A dC dI y) (a : Nat → Nat) (K : Int32 → ModelS → Prop) : ∀ (S : ModelS) (v1 : Int32) (v2 : Int32) (v3 : Int32) (v4 : Int32) (v5 : Int32) (v6 : Int32) (H : Heap) (locs : List Loc) (ls : Array Slot), va_P (dC, dI) vwCl (mdW y a S) H → va_D A (mdW y a S) → va_S A s.heap H locs → lv_has ls 10 [(0, .ref (a 0)), (1, .int v1), (2, .int v2), (3, .int v3), (4, .int v4), (5, .int v5), (6, .int v6), (7, .int 0)] → wp_X5_liveStep_206_0 K S v1 v2 v3 v4 v5 v6 → W p l e ({ frames := 6, cells := 0, slots := 0, locals := 140 } : Room) s m args below meth c H locs 0 0 (MQ below (va_Qi K (BW dC dI A (fun u => mdW y a u)) A) args s 0 0 A) (F0 m 206 ls []) := by
  obtain ⟨hx, hb, hr, hml, hown, hts, hlocks, hA, hK⟩ := id C0
  intro S v1 v2 v3 v4 v5 v6 H locs ls hP hD hS hl hf
  obtain ⟨mI, mA, mL⟩ := S
  unfold wp_X5_liveStep_206_0 at hf
  refine lv_iinc (v := 1) (lv' := [(7, .int 1), (0, .ref (a 0)), (1, .int v1), (2, .int v2), (3, .int v3), (4, .int v4), (5, .int v5), (6, .int v6)]) hx hb dX5_liveStep_206 hl (k := 7) rfl (by decide) (by decide) rfl (fun ls hl => ?_)
  refine lv_goto (tgt := 83) hx hb dX5_liveStep_209 (by decide) ?_
  exact j_X5_liveStep_83_1 C0 a K (mI, mA, mL) v1 v2 v3 v4 v5 v6 H locs ls hP hD hS (lv_sub hl [1, 2, 3, 4, 5, 6, 7, 0] rfl) hf
set_option maxHeartbeats 4000000 in
set_option maxRecDepth 100000 in
theorem j_X5_liveStep_174_0 {p : Program} {l : Launch} {e : Env} {s : State} {m : MethodId} {args : Array Value} {below : List Frame} {meth : Method} {c : Code} {dC : Nat → ClassId} {dI : Nat → Nat → Nat} {y : Nat → ClassId} {A : Nat → Prop} (C0 : Cx p s m args meth c cX5_liveStep 10 (some .int) wsX5_liveStep RX5 A dC dI y) (a : Nat → Nat) (K : Int32 → ModelS → Prop) : ∀ (S : ModelS) (v1 : Int32) (v2 : Int32) (v3 : Int32) (v4 : Int32) (v6 : Int32) (v9 : Int32) (k0 : Int32) (H : Heap) (locs : List Loc) (ls : Array Slot), va_P (dC, dI) vwCl (mdW y a S) H → va_D A (mdW y a S) → va_S A s.heap H locs → lv_has ls 10 [(0, .ref (a 0)), (1, .int v1), (2, .int v2), (3, .int v3), (4, .int v4), (6, .int v6), (7, .int 0), (9, .int v9)] → wp_X5_liveStep_174_0 K S v1 v2 v3 v4 v6 v9 k0 → W p l e ({ frames := 6, cells := 0, slots := 0, locals := 140 } : Room) s m args below meth c H locs 0 0 (MQ below (va_Qi K (BW dC dI A (fun u => mdW y a u)) A) args s 0 0 A) (F0 m 174 ls [.int k0]) := by
  obtain ⟨hx, hb, hr, hml, hown, hts, hlocks, hA, hK⟩ := id C0
  have w25 := hts (Cond.fieldLink RX5 25 "SharedWireModel" "lastFault" "[I") (List.mem_of_getElem? (i := 3) rfl)
  have hinX5 : ∀ w ∈ wsX50, w ∈ wsX5_liveStep := fun w h => List.mem_cons_of_mem _ (List.mem_append_right _ (h))
  intro S v1 v2 v3 v4 v6 v9 k0 H locs ls hP hD hS hl hf
  obtain ⟨mI, mA, mL⟩ := S
  unfold wp_X5_liveStep_174_0 at hf
  refine lv_istore (lv' := [(5, .int k0), (0, .ref (a 0)), (1, .int v1), (2, .int v2), (3, .int v3), (4, .int v4), (6, .int v6), (7, .int 0), (9, .int v9)]) hx hb dX5_liveStep_174 hl (by decide) rfl (fun ls hl => ?_)
  refine lv_iload hx hb dX5_liveStep_176 (lv_at hl 8 rfl) ?_
  refine lv_if_le (tgt := 206) hx hb dX5_liveStep_178 (by decide) (fun c14 => ?_) (fun c14 => ?_)
  · replace hf := hf.1 c14
    exact j_X5_liveStep_206_0 C0 a K (mI, mA, mL) v1 v2 v3 v4 k0 v6 H locs ls hP hD hS (lv_sub hl [1, 2, 3, 4, 5, 0, 6, 7] rfl) hf
  · replace hf := hf.2 c14
    refine lv_iload hx hb dX5_liveStep_181 (lv_at hl 8 rfl) ?_
    refine lv_bipush (v := 9) hx hb dX5_liveStep_183 (by decide) ?_
    refine lv_icmp_ge (tgt := 206) hx hb dX5_liveStep_185 (by decide) (fun c50 => ?_) (fun c50 => ?_)
    · replace hf := hf.1 c50
      exact j_X5_liveStep_206_0 C0 a K (mI, mA, mL) v1 v2 v3 v4 k0 v6 H locs ls hP hD hS (lv_sub hl [1, 2, 3, 4, 5, 0, 6, 7] rfl) hf
    · replace hf := hf.2 c50
      refine lv_iload hx hb dX5_liveStep_188 (lv_at hl 5 rfl) ?_
      refine lv_iconst (v := 1) hx hb dX5_liveStep_190 (by decide) ?_
      refine lv_iload hx hb dX5_liveStep_191 (lv_at hl 7 rfl) ?_
      refine lv_ishl hx hb dX5_liveStep_193 ?_
      refine fold_i (v := 1) (by decide) ?_
      refine lv_ior hx hb dX5_liveStep_194 ?_
      refine lv_topi (fun n51 en51 => ?_)
      replace hf := hf n51 en51
      refine lv_istore (lv' := [(4, .int n51), (5, .int k0), (0, .ref (a 0)), (1, .int v1), (2, .int v2), (3, .int v3), (6, .int v6), (7, .int 0), (9, .int v9)]) hx hb dX5_liveStep_195 hl (by decide) rfl (fun ls hl => ?_)
      refine lv_aload_n hx hb dX5_liveStep_197 rfl (lv_at hl 2 rfl) ?_
      refine va_get (D := (dC, dI)) (ci := 5) (v := .ref (a 8)) (C := RX5) (T := TX5) (N := 35) hx hb hts hinX5 hown hK.1 hP 0 rfl rfl 8 (by decide) w25 (fun _ h9 => h9) rfl dX5_liveStep_198 ?_
      refine lv_iload hx hb dX5_liveStep_201 (lv_at hl 7 rfl) ?_
      refine lv_iload hx hb dX5_liveStep_203 (lv_at hl 8 rfl) ?_
      refine mst_8 (f := (mA 8)) (x := v9) (j := 0) hx hb hK.1 hP hD hS rfl (clamp_lit 0 rfl) (vin_lit 0 4 rfl rfl) dX5_liveStep_205 (fun H locs hP hD hS => ?_)
      exact j_X5_liveStep_206_0 C0 a K (mI, va_up mA 8 (upd (mA 8) 0 v9), mL) v1 v2 v3 n51 k0 v6 H locs ls hP hD hS (lv_sub hl [2, 3, 4, 5, 0, 1, 6, 7] rfl) hf
set_option maxHeartbeats 4000000 in
set_option maxRecDepth 100000 in
theorem j_X5_liveStep_153_0 {p : Program} {l : Launch} {e : Env} {s : State} {m : MethodId} {args : Array Value} {below : List Frame} {meth : Method} {c : Code} {dC : Nat → ClassId} {dI : Nat → Nat → Nat} {y : Nat → ClassId} {A : Nat → Prop} (C0 : Cx p s m args meth c cX5_liveStep 10 (some .int) wsX5_liveStep RX5 A dC dI y) (a : Nat → Nat) (K : Int32 → ModelS → Prop) : ∀ (S : ModelS) (v1 : Int32) (v2 : Int32) (v3 : Int32) (v4 : Int32) (v5 : Int32) (v9 : Int32) (k0 : Int32) (H : Heap) (locs : List Loc) (ls : Array Slot), va_P (dC, dI) vwCl (mdW y a S) H → va_D A (mdW y a S) → va_S A s.heap H locs → lv_has ls 10 [(0, .ref (a 0)), (1, .int v1), (2, .int v2), (3, .int v3), (4, .int v4), (5, .int v5), (7, .int 0), (9, .int v9)] → wp_X5_liveStep_153_0 K S v1 v2 v3 v4 v5 v9 k0 → W p l e ({ frames := 6, cells := 0, slots := 0, locals := 140 } : Room) s m args below meth c H locs 0 0 (MQ below (va_Qi K (BW dC dI A (fun u => mdW y a u)) A) args s 0 0 A) (F0 m 153 ls [.int k0]) := by
  obtain ⟨hx, hb, hr, hml, hown, hts, hlocks, hA, hK⟩ := id C0
  intro S v1 v2 v3 v4 v5 v9 k0 H locs ls hP hD hS hl hf
  obtain ⟨mI, mA, mL⟩ := S
  unfold wp_X5_liveStep_153_0 at hf
  refine lv_istore (lv' := [(6, .int k0), (0, .ref (a 0)), (1, .int v1), (2, .int v2), (3, .int v3), (4, .int v4), (5, .int v5), (7, .int 0), (9, .int v9)]) hx hb dX5_liveStep_153 hl (by decide) rfl (fun ls hl => ?_)
  refine lv_iload hx hb dX5_liveStep_155 (lv_at hl 8 rfl) ?_
  refine lv_bipush (v := 9) hx hb dX5_liveStep_157 (by decide) ?_
  refine lv_icmp_ne (tgt := 172) hx hb dX5_liveStep_159 (by decide) (fun c13 => ?_) (fun c13 => ?_)
  · replace hf := hf.1 c13
    refine lv_iload hx hb dX5_liveStep_172 (lv_at hl 6 rfl) ?_
    exact j_X5_liveStep_174_0 C0 a K (mI, mA, mL) v1 v2 v3 v4 k0 v9 v5 H locs ls hP hD hS (lv_sub hl [1, 2, 3, 4, 5, 0, 7, 8] rfl) hf
  · replace hf := hf.2 c13
    refine lv_iload hx hb dX5_liveStep_162 (lv_at hl 6 rfl) ?_
    refine lv_iconst (v := 1) hx hb dX5_liveStep_164 (by decide) ?_
    refine lv_iload hx hb dX5_liveStep_165 (lv_at hl 7 rfl) ?_
    refine lv_ishl hx hb dX5_liveStep_167 ?_
    refine fold_i (v := 1) (by decide) ?_
    refine lv_ior hx hb dX5_liveStep_168 ?_
    refine lv_goto (tgt := 174) hx hb dX5_liveStep_169 (by decide) ?_
    exact j_X5_liveStep_174_0 C0 a K (mI, mA, mL) v1 v2 v3 v4 k0 v9 (v5 ||| 1) H locs ls hP hD hS (lv_sub hl [1, 2, 3, 4, 5, 0, 7, 8] rfl) hf
set_option maxHeartbeats 4000000 in
set_option maxRecDepth 100000 in
theorem j_X5_liveStep_148_0 {p : Program} {l : Launch} {e : Env} {s : State} {m : MethodId} {args : Array Value} {below : List Frame} {meth : Method} {c : Code} {dC : Nat → ClassId} {dI : Nat → Nat → Nat} {y : Nat → ClassId} {A : Nat → Prop} (C0 : Cx p s m args meth c cX5_liveStep 10 (some .int) wsX5_liveStep RX5 A dC dI y) (a : Nat → Nat) (K : Int32 → ModelS → Prop) : ∀ (S : ModelS) (v1 : Int32) (v2 : Int32) (v3 : Int32) (v4 : Int32) (v5 : Int32) (v9 : Int32) (H : Heap) (locs : List Loc) (ls : Array Slot), va_P (dC, dI) vwCl (mdW y a S) H → va_D A (mdW y a S) → va_S A s.heap H locs → lv_has ls 10 [(0, .ref (a 0)), (1, .int v1), (2, .int v2), (3, .int v3), (4, .int v4), (5, .int v5), (7, .int 0), (9, .int v9)] → wp_X5_liveStep_148_0 K S v1 v2 v3 v4 v5 v9 → W p l e ({ frames := 6, cells := 0, slots := 0, locals := 140 } : Room) s m args below meth c H locs 0 0 (MQ below (va_Qi K (BW dC dI A (fun u => mdW y a u)) A) args s 0 0 A) (F0 m 148 ls []) := by
  obtain ⟨hx, hb, hr, hml, hown, hts, hlocks, hA, hK⟩ := id C0
  intro S v1 v2 v3 v4 v5 v9 H locs ls hP hD hS hl hf
  obtain ⟨mI, mA, mL⟩ := S
  unfold wp_X5_liveStep_148_0 at hf
  refine lv_iconst (v := 1) hx hb dX5_liveStep_148 (by decide) ?_
  refine lv_goto (tgt := 153) hx hb dX5_liveStep_149 (by decide) ?_
  exact j_X5_liveStep_153_0 C0 a K (mI, mA, mL) v1 v2 v3 v4 v5 v9 1 H locs ls hP hD hS (lv_sub hl [0, 1, 2, 3, 4, 5, 6, 7] rfl) hf
set_option maxHeartbeats 4000000 in
set_option maxRecDepth 100000 in
theorem j_X5_liveStep_130_0 {p : Program} {l : Launch} {e : Env} {s : State} {m : MethodId} {args : Array Value} {below : List Frame} {meth : Method} {c : Code} {dC : Nat → ClassId} {dI : Nat → Nat → Nat} {y : Nat → ClassId} {A : Nat → Prop} (C0 : Cx p s m args meth c cX5_liveStep 10 (some .int) wsX5_liveStep RX5 A dC dI y) (a : Nat → Nat) (K : Int32 → ModelS → Prop) : ∀ (S : ModelS) (v1 : Int32) (v2 : Int32) (v3 : Int32) (v4 : Int32) (v5 : Int32) (v6 : Int32) (k0 : Int32) (H : Heap) (locs : List Loc) (ls : Array Slot), va_P (dC, dI) vwCl (mdW y a S) H → va_D A (mdW y a S) → va_S A s.heap H locs → lv_has ls 10 [(0, .ref (a 0)), (1, .int v1), (2, .int v2), (3, .int v3), (4, .int v4), (5, .int v5), (6, .int v6), (7, .int 0)] → wp_X5_liveStep_130_0 K S v1 v2 v3 v4 v5 v6 k0 → W p l e ({ frames := 6, cells := 0, slots := 0, locals := 140 } : Room) s m args below meth c H locs 0 0 (MQ below (va_Qi K (BW dC dI A (fun u => mdW y a u)) A) args s 0 0 A) (F0 m 130 ls [.int k0]) := by
  obtain ⟨hx, hb, hr, hml, hown, hts, hlocks, hA, hK⟩ := id C0
  have w9 := hts (Cond.fieldLink RX5 9 "SharedWireModel" "state" "[I") (List.mem_of_getElem? (i := 2) rfl)
  have hinX5 : ∀ w ∈ wsX50, w ∈ wsX5_liveStep := fun w h => List.mem_cons_of_mem _ (List.mem_append_right _ (h))
  intro S v1 v2 v3 v4 v5 v6 k0 H locs ls hP hD hS hl hf
  obtain ⟨mI, mA, mL⟩ := S
  unfold wp_X5_liveStep_130_0 at hf
  refine lv_istore (lv' := [(9, .int k0), (0, .ref (a 0)), (1, .int v1), (2, .int v2), (3, .int v3), (4, .int v4), (5, .int v5), (6, .int v6), (7, .int 0)]) hx hb dX5_liveStep_130 hl (by decide) rfl (fun ls hl => ?_)
  refine lv_iload hx hb dX5_liveStep_132 (lv_at hl 7 rfl) ?_
  refine lv_if_ne (tgt := 148) hx hb dX5_liveStep_134 (by decide) (fun c12 => ?_) (fun c12 => ?_)
  · replace hf := hf.1 c12
    exact j_X5_liveStep_148_0 C0 a K (mI, mA, mL) v1 v2 v3 v4 v5 k0 H locs ls hP hD hS (lv_sub hl [1, 2, 3, 4, 5, 6, 8, 0] rfl) hf
  · replace hf := hf.2 c12
    refine lv_aload_n hx hb dX5_liveStep_137 rfl (lv_at hl 1 rfl) ?_
    refine va_get (D := (dC, dI)) (ci := 5) (v := .ref (a 3)) (C := RX5) (T := TX5) (N := 35) hx hb hts hinX5 hown hK.1 hP 0 rfl rfl 3 (by decide) w9 (fun _ h9 => h9) rfl dX5_liveStep_138 ?_
    refine lv_iload hx hb dX5_liveStep_141 (lv_at hl 8 rfl) ?_
    refine ar_ild (f := (mA 3)) (j := 0) hx hb hK.1 hP 1 0 rfl rfl (clamp_lit 0 rfl) (vin_lit 0 4 rfl rfl) dX5_liveStep_143 ?_
    refine lv_iconst (v := 2) hx hb dX5_liveStep_144 (by decide) ?_
    refine lv_icmp_ne (tgt := 152) hx hb dX5_liveStep_145 (by decide) (fun c52 => ?_) (fun c52 => ?_)
    · replace hf := hf.1 c52
      refine lv_iconst (v := 0) hx hb dX5_liveStep_152 (by decide) ?_
      exact j_X5_liveStep_153_0 C0 a K (mI, mA, mL) v1 v2 v3 v4 v5 k0 0 H locs ls hP hD hS (lv_sub hl [1, 2, 3, 4, 5, 6, 8, 0] rfl) hf
    · replace hf := hf.2 c52
      exact j_X5_liveStep_148_0 C0 a K (mI, mA, mL) v1 v2 v3 v4 v5 k0 H locs ls hP hD hS (lv_sub hl [1, 2, 3, 4, 5, 6, 8, 0] rfl) hf
set_option maxHeartbeats 4000000 in
set_option maxRecDepth 100000 in
theorem j_X5_liveStep_106_0 {p : Program} {l : Launch} {e : Env} {s : State} {m : MethodId} {args : Array Value} {below : List Frame} {meth : Method} {c : Code} {dC : Nat → ClassId} {dI : Nat → Nat → Nat} {y : Nat → ClassId} {A : Nat → Prop} (C0 : Cx p s m args meth c cX5_liveStep 10 (some .int) wsX5_liveStep RX5 A dC dI y) (a : Nat → Nat) (K : Int32 → ModelS → Prop) : ∀ (S : ModelS) (v1 : Int32) (v2 : Int32) (v3 : Int32) (v4 : Int32) (v5 : Int32) (v6 : Int32) (k0 : Int32) (H : Heap) (locs : List Loc) (ls : Array Slot), va_P (dC, dI) vwCl (mdW y a S) H → va_D A (mdW y a S) → va_S A s.heap H locs → lv_has ls 10 [(0, .ref (a 0)), (1, .int v1), (2, .int v2), (3, .int v3), (4, .int v4), (5, .int v5), (6, .int v6), (7, .int 0)] → wp_X5_liveStep_106_0 K S v1 v2 v3 v4 v5 v6 k0 → W p l e ({ frames := 6, cells := 0, slots := 0, locals := 140 } : Room) s m args below meth c H locs 0 0 (MQ below (va_Qi K (BW dC dI A (fun u => mdW y a u)) A) args s 0 0 A) (F0 m 106 ls [.int k0]) := by
  obtain ⟨hx, hb, hr, hml, hown, hts, hlocks, hA, hK⟩ := id C0
  have w9 := hts (Cond.fieldLink RX5 9 "SharedWireModel" "state" "[I") (List.mem_of_getElem? (i := 2) rfl)
  have hinX5 : ∀ w ∈ wsX50, w ∈ wsX5_liveStep := fun w h => List.mem_cons_of_mem _ (List.mem_append_right _ (h))
  intro S v1 v2 v3 v4 v5 v6 k0 H locs ls hP hD hS hl hf
  obtain ⟨mI, mA, mL⟩ := S
  unfold wp_X5_liveStep_106_0 at hf
  refine lv_istore (lv' := [(8, .int k0), (0, .ref (a 0)), (1, .int v1), (2, .int v2), (3, .int v3), (4, .int v4), (5, .int v5), (6, .int v6), (7, .int 0)]) hx hb dX5_liveStep_106 hl (by decide) rfl (fun ls hl => ?_)
  refine lv_aload_n hx hb dX5_liveStep_108 rfl (lv_at hl 1 rfl) ?_
  refine va_get (D := (dC, dI)) (ci := 5) (v := .ref (a 3)) (C := RX5) (T := TX5) (N := 35) hx hb hts hinX5 hown hK.1 hP 0 rfl rfl 3 (by decide) w9 (fun _ h9 => h9) rfl dX5_liveStep_109 ?_
  refine lv_iload hx hb dX5_liveStep_112 (lv_at hl 8 rfl) ?_
  refine ar_ild (f := (mA 3)) (j := 0) hx hb hK.1 hP 1 0 rfl rfl (clamp_lit 0 rfl) (vin_lit 0 4 rfl rfl) dX5_liveStep_114 ?_
  refine lv_if_ne (tgt := 122) hx hb dX5_liveStep_115 (by decide) (fun c9 => ?_) (fun c9 => ?_)
  · replace hf := hf.1 c9
    refine lv_aload_n hx hb dX5_liveStep_122 rfl (lv_at hl 1 rfl) ?_
    refine lv_iload hx hb dX5_liveStep_123 (lv_at hl 8 rfl) ?_
    refine lv_iload hx hb dX5_liveStep_125 (lv_at hl 0 rfl) ?_
    refine k0i (As := [.int 0, .int k0]) (rest := []) ⟨hx, hb, hml, hown, hts⟩ (c_X5_sees l dC dI y a H.size (mI, mA, mL) 0 k0 _ hf) (cwV 2 hts gX5_liveStep_X5_sees rfl rfl rfl (by decide +kernel) ⟨Nat.le_of_ble_eq_true rfl, Nat.le_of_ble_eq_true rfl⟩) hK hP hD (va_recv hK.1 hP (ci := 5) (q0 := 0) rfl rfl) hS hA rfl hl.1 rfl (Nat.le_of_ble_eq_true rfl) dX5_liveStep_127 ⟨Nat.zero_le _, Nat.zero_le _⟩ (fun r10 u11 H locs hf hP hD hS => ?_)
    have hP : va_P (dC, dI) vwCl (mdW y a (u11.1, u11.2.1, u11.2.2)) H := hP
    have hD : va_D A (mdW y a (u11.1, u11.2.1, u11.2.2)) := hD
    exact j_X5_liveStep_130_0 C0 a K (u11.1, u11.2.1, u11.2.2) v1 v2 v3 v4 v5 v6 r10 H locs ls hP hD hS (lv_sub hl [1, 2, 3, 4, 5, 6, 7, 8] rfl) hf
  · replace hf := hf.2 c9
    refine lv_iconst (v := 0) hx hb dX5_liveStep_118 (by decide) ?_
    refine lv_goto (tgt := 130) hx hb dX5_liveStep_119 (by decide) ?_
    exact j_X5_liveStep_130_0 C0 a K (mI, mA, mL) v1 v2 v3 v4 v5 v6 0 H locs ls hP hD hS (lv_sub hl [1, 2, 3, 4, 5, 6, 7, 8] rfl) hf
set_option maxHeartbeats 4000000 in
set_option maxRecDepth 100000 in
theorem j_X5_liveStep_83_0 {p : Program} {l : Launch} {e : Env} {s : State} {m : MethodId} {args : Array Value} {below : List Frame} {meth : Method} {c : Code} {dC : Nat → ClassId} {dI : Nat → Nat → Nat} {y : Nat → ClassId} {A : Nat → Prop} (C0 : Cx p s m args meth c cX5_liveStep 10 (some .int) wsX5_liveStep RX5 A dC dI y) (a : Nat → Nat) (K : Int32 → ModelS → Prop) : ∀ (S : ModelS) (v1 : Int32) (v2 : Int32) (v3 : Int32) (v4 : Int32) (v5 : Int32) (v6 : Int32) (H : Heap) (locs : List Loc) (ls : Array Slot), va_P (dC, dI) vwCl (mdW y a S) H → va_D A (mdW y a S) → va_S A s.heap H locs → lv_has ls 10 [(0, .ref (a 0)), (1, .int v1), (2, .int v2), (3, .int v3), (4, .int v4), (5, .int v5), (6, .int v6), (7, .int 0)] → wp_X5_liveStep_83_0 K S v1 v2 v3 v4 v5 v6 → W p l e ({ frames := 6, cells := 0, slots := 0, locals := 140 } : Room) s m args below meth c H locs 0 0 (MQ below (va_Qi K (BW dC dI A (fun u => mdW y a u)) A) args s 0 0 A) (F0 m 83 ls []) := by
  obtain ⟨hx, hb, hr, hml, hown, hts, hlocks, hA, hK⟩ := id C0
  intro S v1 v2 v3 v4 v5 v6 H locs ls hP hD hS hl hf
  obtain ⟨mI, mA, mL⟩ := S
  unfold wp_X5_liveStep_83_0 at hf
  refine lv_iload hx hb dX5_liveStep_83 (lv_at hl 7 rfl) ?_
  refine lv_iconst (v := 4) hx hb dX5_liveStep_85 (by decide) ?_
  refine lv_icmp_ge (tgt := 212) hx hb dX5_liveStep_86 (by decide) (fun c9 => absurd c9 (by decide)) (fun _ => ?_)
  refine lv_iload_n hx hb dX5_liveStep_89 rfl (lv_at hl 1 rfl) ?_
  refine lv_iload hx hb dX5_liveStep_90 (lv_at hl 7 rfl) ?_
  refine lv_ishr hx hb dX5_liveStep_92 ?_
  refine lv_iconst (v := 1) hx hb dX5_liveStep_93 (by decide) ?_
  refine lv_iand hx hb dX5_liveStep_94 ?_
  refine lv_iconst (v := 1) hx hb dX5_liveStep_95 (by decide) ?_
  refine lv_icmp_ne (tgt := 105) hx hb dX5_liveStep_96 (by decide) (fun c8 => ?_) (fun c8 => ?_)
  · replace hf := hf.1 c8
    refine lv_iload_n hx hb dX5_liveStep_105 rfl (lv_at hl 3 rfl) ?_
    exact j_X5_liveStep_106_0 C0 a K (mI, mA, mL) v1 v2 v3 v4 v5 v6 v3 H locs ls hP hD hS (lv_sub hl [0, 1, 2, 3, 4, 5, 6, 7] rfl) hf
  · replace hf := hf.2 c8
    refine lv_iconst (v := 1) hx hb dX5_liveStep_99 (by decide) ?_
    refine lv_iload_n hx hb dX5_liveStep_100 rfl (lv_at hl 3 rfl) ?_
    refine lv_isub hx hb dX5_liveStep_101 ?_
    refine lv_goto (tgt := 106) hx hb dX5_liveStep_102 (by decide) ?_
    exact j_X5_liveStep_106_0 C0 a K (mI, mA, mL) v1 v2 v3 v4 v5 v6 (1 - v3) H locs ls hP hD hS (lv_sub hl [0, 1, 2, 3, 4, 5, 6, 7] rfl) hf
set_option maxHeartbeats 4000000 in
set_option maxRecDepth 100000 in
theorem j_X5_liveStep_78 {p : Program} {l : Launch} {e : Env} {s : State} {m : MethodId} {args : Array Value} {below : List Frame} {meth : Method} {c : Code} {dC : Nat → ClassId} {dI : Nat → Nat → Nat} {y : Nat → ClassId} {A : Nat → Prop} (C0 : Cx p s m args meth c cX5_liveStep 10 (some .int) wsX5_liveStep RX5 A dC dI y) (a : Nat → Nat) (K : Int32 → ModelS → Prop) : ∀ (S : ModelS) (v1 : Int32) (v2 : Int32) (v3 : Int32) (v4 : Int32) (v5 : Int32) (k0 : Int32) (H : Heap) (locs : List Loc) (ls : Array Slot), va_P (dC, dI) vwCl (mdW y a S) H → va_D A (mdW y a S) → va_S A s.heap H locs → lv_has ls 10 [(0, .ref (a 0)), (1, .int v1), (2, .int v2), (3, .int v3), (4, .int v4), (5, .int v5)] → wp_X5_liveStep_78 K S v1 v2 v3 v4 v5 k0 → W p l e ({ frames := 6, cells := 0, slots := 0, locals := 140 } : Room) s m args below meth c H locs 0 0 (MQ below (va_Qi K (BW dC dI A (fun u => mdW y a u)) A) args s 0 0 A) (F0 m 78 ls [.int k0]) := by
  obtain ⟨hx, hb, hr, hml, hown, hts, hlocks, hA, hK⟩ := id C0
  intro S v1 v2 v3 v4 v5 k0 H locs ls hP hD hS hl hf
  obtain ⟨mI, mA, mL⟩ := S
  unfold wp_X5_liveStep_78 at hf
  refine lv_istore (lv' := [(6, .int k0), (0, .ref (a 0)), (1, .int v1), (2, .int v2), (3, .int v3), (4, .int v4), (5, .int v5)]) hx hb dX5_liveStep_78 hl (by decide) rfl (fun ls hl => ?_)
  refine lv_iconst (v := 0) hx hb dX5_liveStep_80 (by decide) ?_
  refine lv_istore (lv' := [(7, .int 0), (6, .int k0), (0, .ref (a 0)), (1, .int v1), (2, .int v2), (3, .int v3), (4, .int v4), (5, .int v5)]) hx hb dX5_liveStep_81 hl (by decide) rfl (fun ls hl => ?_)
  exact j_X5_liveStep_83_0 C0 a K (mI, mA, mL) v1 v2 v3 v4 v5 k0 H locs ls hP hD hS (lv_sub hl [2, 3, 4, 5, 6, 7, 1, 0] rfl) hf
set_option maxHeartbeats 4000000 in
set_option maxRecDepth 100000 in
theorem j_X5_liveStep_26_4 {p : Program} {l : Launch} {e : Env} {s : State} {m : MethodId} {args : Array Value} {below : List Frame} {meth : Method} {c : Code} {dC : Nat → ClassId} {dI : Nat → Nat → Nat} {y : Nat → ClassId} {A : Nat → Prop} (C0 : Cx p s m args meth c cX5_liveStep 10 (some .int) wsX5_liveStep RX5 A dC dI y) (a : Nat → Nat) (K : Int32 → ModelS → Prop) : ∀ (S : ModelS) (v1 : Int32) (v2 : Int32) (v3 : Int32) (H : Heap) (locs : List Loc) (ls : Array Slot), va_P (dC, dI) vwCl (mdW y a S) H → va_D A (mdW y a S) → va_S A s.heap H locs → lv_has ls 10 [(0, .ref (a 0)), (1, .int v1), (2, .int v2), (3, .int v3), (4, .int 4)] → wp_X5_liveStep_26_4 K S v1 v2 v3 → W p l e ({ frames := 6, cells := 0, slots := 0, locals := 140 } : Room) s m args below meth c H locs 0 0 (MQ below (va_Qi K (BW dC dI A (fun u => mdW y a u)) A) args s 0 0 A) (F0 m 26 ls []) := by
  obtain ⟨hx, hb, hr, hml, hown, hts, hlocks, hA, hK⟩ := id C0
  intro S v1 v2 v3 H locs ls hP hD hS hl hf
  obtain ⟨mI, mA, mL⟩ := S
  unfold wp_X5_liveStep_26_4 at hf
  refine lv_iload hx hb dX5_liveStep_26 (lv_at hl 4 rfl) ?_
  refine lv_iconst (v := 4) hx hb dX5_liveStep_28 (by decide) ?_
  refine lv_icmp_ge (tgt := 63) hx hb dX5_liveStep_29 (by decide) (fun _ => ?_) (fun c9 => absurd (by decide) c9)
  refine lv_iconst (v := 0) hx hb dX5_liveStep_63 (by decide) ?_
  refine lv_istore (lv' := [(4, .int 0), (0, .ref (a 0)), (1, .int v1), (2, .int v2), (3, .int v3)]) hx hb dX5_liveStep_64 hl (by decide) rfl (fun ls hl => ?_)
  refine lv_iconst (v := 0) hx hb dX5_liveStep_66 (by decide) ?_
  refine lv_istore (lv' := [(5, .int 0), (4, .int 0), (0, .ref (a 0)), (1, .int v1), (2, .int v2), (3, .int v3)]) hx hb dX5_liveStep_67 hl (by decide) rfl (fun ls hl => ?_)
  refine lv_iload_n hx hb dX5_liveStep_69 rfl (lv_at hl 5 rfl) ?_
  refine lv_if_ne (tgt := 77) hx hb dX5_liveStep_70 (by decide) (fun c7 => ?_) (fun c7 => ?_)
  · replace hf := hf.1 c7
    refine lv_iconst (v := 0) hx hb dX5_liveStep_77 (by decide) ?_
    exact j_X5_liveStep_78 C0 a K (mI, mA, mL) v1 v2 v3 0 0 0 H locs ls hP hD hS (lv_sub hl [2, 3, 4, 5, 1, 0] rfl) hf
  · replace hf := hf.2 c7
    refine lv_iconst (v := 1) hx hb dX5_liveStep_73 (by decide) ?_
    refine lv_goto (tgt := 78) hx hb dX5_liveStep_74 (by decide) ?_
    exact j_X5_liveStep_78 C0 a K (mI, mA, mL) v1 v2 v3 0 0 1 H locs ls hP hD hS (lv_sub hl [2, 3, 4, 5, 1, 0] rfl) hf
set_option maxHeartbeats 4000000 in
set_option maxRecDepth 100000 in
theorem j_X5_liveStep_56_3 {p : Program} {l : Launch} {e : Env} {s : State} {m : MethodId} {args : Array Value} {below : List Frame} {meth : Method} {c : Code} {dC : Nat → ClassId} {dI : Nat → Nat → Nat} {y : Nat → ClassId} {A : Nat → Prop} (C0 : Cx p s m args meth c cX5_liveStep 10 (some .int) wsX5_liveStep RX5 A dC dI y) (a : Nat → Nat) (K : Int32 → ModelS → Prop) : ∀ (S : ModelS) (v1 : Int32) (v2 : Int32) (k0 : Int32) (H : Heap) (locs : List Loc) (ls : Array Slot), va_P (dC, dI) vwCl (mdW y a S) H → va_D A (mdW y a S) → va_S A s.heap H locs → lv_has ls 10 [(0, .ref (a 0)), (1, .int v1), (2, .int v2), (4, .int 3)] → wp_X5_liveStep_56_3 K S v1 v2 k0 → W p l e ({ frames := 6, cells := 0, slots := 0, locals := 140 } : Room) s m args below meth c H locs 0 0 (MQ below (va_Qi K (BW dC dI A (fun u => mdW y a u)) A) args s 0 0 A) (F0 m 56 ls [.int k0]) := by
  obtain ⟨hx, hb, hr, hml, hown, hts, hlocks, hA, hK⟩ := id C0
  intro S v1 v2 k0 H locs ls hP hD hS hl hf
  obtain ⟨mI, mA, mL⟩ := S
  unfold wp_X5_liveStep_56_3 at hf
  refine lv_istore_n (lv' := [(3, .int k0), (0, .ref (a 0)), (1, .int v1), (2, .int v2), (4, .int 3)]) hx hb dX5_liveStep_56 rfl hl (by decide) rfl (fun ls hl => ?_)
  refine lv_iinc (v := 4) (lv' := [(4, .int 4), (3, .int k0), (0, .ref (a 0)), (1, .int v1), (2, .int v2)]) hx hb dX5_liveStep_57 hl (k := 4) rfl (by decide) (by decide) rfl (fun ls hl => ?_)
  refine lv_goto (tgt := 26) hx hb dX5_liveStep_60 (by decide) ?_
  exact j_X5_liveStep_26_4 C0 a K (mI, mA, mL) v1 v2 k0 H locs ls hP hD hS (lv_sub hl [2, 3, 4, 1, 0] rfl) hf
set_option maxHeartbeats 4000000 in
set_option maxRecDepth 100000 in
theorem j_X5_liveStep_55_3 {p : Program} {l : Launch} {e : Env} {s : State} {m : MethodId} {args : Array Value} {below : List Frame} {meth : Method} {c : Code} {dC : Nat → ClassId} {dI : Nat → Nat → Nat} {y : Nat → ClassId} {A : Nat → Prop} (C0 : Cx p s m args meth c cX5_liveStep 10 (some .int) wsX5_liveStep RX5 A dC dI y) (a : Nat → Nat) (K : Int32 → ModelS → Prop) : ∀ (S : ModelS) (v1 : Int32) (v2 : Int32) (v3 : Int32) (H : Heap) (locs : List Loc) (ls : Array Slot), va_P (dC, dI) vwCl (mdW y a S) H → va_D A (mdW y a S) → va_S A s.heap H locs → lv_has ls 10 [(0, .ref (a 0)), (1, .int v1), (2, .int v2), (3, .int v3), (4, .int 3)] → wp_X5_liveStep_55_3 K S v1 v2 v3 → W p l e ({ frames := 6, cells := 0, slots := 0, locals := 140 } : Room) s m args below meth c H locs 0 0 (MQ below (va_Qi K (BW dC dI A (fun u => mdW y a u)) A) args s 0 0 A) (F0 m 55 ls []) := by
  obtain ⟨hx, hb, hr, hml, hown, hts, hlocks, hA, hK⟩ := id C0
  intro S v1 v2 v3 H locs ls hP hD hS hl hf
  obtain ⟨mI, mA, mL⟩ := S
  unfold wp_X5_liveStep_55_3 at hf
  refine lv_iload_n hx hb dX5_liveStep_55 rfl (lv_at hl 3 rfl) ?_
  exact j_X5_liveStep_56_3 C0 a K (mI, mA, mL) v1 v2 v3 H locs ls hP hD hS (lv_sub hl [0, 1, 2, 4] rfl) hf
set_option maxHeartbeats 4000000 in
set_option maxRecDepth 100000 in
theorem j_X5_liveStep_26_3 {p : Program} {l : Launch} {e : Env} {s : State} {m : MethodId} {args : Array Value} {below : List Frame} {meth : Method} {c : Code} {dC : Nat → ClassId} {dI : Nat → Nat → Nat} {y : Nat → ClassId} {A : Nat → Prop} (C0 : Cx p s m args meth c cX5_liveStep 10 (some .int) wsX5_liveStep RX5 A dC dI y) (a : Nat → Nat) (K : Int32 → ModelS → Prop) : ∀ (S : ModelS) (v1 : Int32) (v2 : Int32) (v3 : Int32) (H : Heap) (locs : List Loc) (ls : Array Slot), va_P (dC, dI) vwCl (mdW y a S) H → va_D A (mdW y a S) → va_S A s.heap H locs → lv_has ls 10 [(0, .ref (a 0)), (1, .int v1), (2, .int v2), (3, .int v3), (4, .int 3)] → wp_X5_liveStep_26_3 K S v1 v2 v3 → W p l e ({ frames := 6, cells := 0, slots := 0, locals := 140 } : Room) s m args below meth c H locs 0 0 (MQ below (va_Qi K (BW dC dI A (fun u => mdW y a u)) A) args s 0 0 A) (F0 m 26 ls []) := by
  obtain ⟨hx, hb, hr, hml, hown, hts, hlocks, hA, hK⟩ := id C0
  have w9 := hts (Cond.fieldLink RX5 9 "SharedWireModel" "state" "[I") (List.mem_of_getElem? (i := 2) rfl)
  have hinX5 : ∀ w ∈ wsX50, w ∈ wsX5_liveStep := fun w h => List.mem_cons_of_mem _ (List.mem_append_right _ (h))
  intro S v1 v2 v3 H locs ls hP hD hS hl hf
  obtain ⟨mI, mA, mL⟩ := S
  unfold wp_X5_liveStep_26_3 at hf
  refine lv_iload hx hb dX5_liveStep_26 (lv_at hl 4 rfl) ?_
  refine lv_iconst (v := 4) hx hb dX5_liveStep_28 (by decide) ?_
  refine lv_icmp_ge (tgt := 63) hx hb dX5_liveStep_29 (by decide) (fun c9 => absurd c9 (by decide)) (fun _ => ?_)
  refine lv_aload_n hx hb dX5_liveStep_32 rfl (lv_at hl 0 rfl) ?_
  refine va_get (D := (dC, dI)) (ci := 5) (v := .ref (a 3)) (C := RX5) (T := TX5) (N := 35) hx hb hts hinX5 hown hK.1 hP 0 rfl rfl 3 (by decide) w9 (fun _ h9 => h9) rfl dX5_liveStep_33 ?_
  refine lv_iload hx hb dX5_liveStep_36 (lv_at hl 4 rfl) ?_
  refine ar_ild (f := (mA 3)) (j := 3) hx hb hK.1 hP 1 0 rfl rfl (clamp_lit 3 rfl) (vin_lit 3 4 rfl rfl) dX5_liveStep_38 ?_
  refine lv_if_eq (tgt := 55) hx hb dX5_liveStep_39 (by decide) (fun c6 => ?_) (fun c6 => ?_)
  · replace hf := hf.1 c6
    exact j_X5_liveStep_55_3 C0 a K (mI, mA, mL) v1 v2 v3 H locs ls hP hD hS (lv_sub hl [0, 1, 2, 3, 4] rfl) hf
  · replace hf := hf.2 c6
    refine lv_aload_n hx hb dX5_liveStep_42 rfl (lv_at hl 0 rfl) ?_
    refine lv_iload hx hb dX5_liveStep_43 (lv_at hl 4 rfl) ?_
    refine k0i (As := [.int 3]) (rest := []) ⟨hx, hb, hml, hown, hts⟩ (c_X5_sends l dC dI y a H.size (mI, mA, mL) 3 _ hf) (cwV 1 hts gX5_liveStep_X5_sends rfl rfl rfl (by decide +kernel) ⟨Nat.le_of_ble_eq_true rfl, Nat.le_of_ble_eq_true rfl⟩) hK hP hD (va_recv hK.1 hP (ci := 5) (q0 := 0) rfl rfl) hS hA rfl hl.1 rfl (Nat.le_of_ble_eq_true rfl) dX5_liveStep_45 ⟨Nat.zero_le _, Nat.zero_le _⟩ (fun r53 u54 H locs hf hP hD hS => ?_)
    obtain ⟨hf, e9⟩ := hf
    have e9 := e9.symm
    subst e9
    have hP : va_P (dC, dI) vwCl (mdW y a (mI, mA, mL)) H := hP
    have hD : va_D A (mdW y a (mI, mA, mL)) := hD
    refine lv_if_ne (tgt := 55) hx hb dX5_liveStep_48 (by decide) (fun c55 => ?_) (fun c55 => ?_)
    · replace hf := hf.1 c55
      exact j_X5_liveStep_55_3 C0 a K (mI, mA, mL) v1 v2 v3 H locs ls hP hD hS (lv_sub hl [0, 1, 2, 3, 4] rfl) hf
    · replace hf := hf.2 c55
      refine lv_iconst (v := 0) hx hb dX5_liveStep_51 (by decide) ?_
      refine lv_goto (tgt := 56) hx hb dX5_liveStep_52 (by decide) ?_
      exact j_X5_liveStep_56_3 C0 a K (mI, mA, mL) v1 v2 0 H locs ls hP hD hS (lv_sub hl [0, 1, 2, 4] rfl) hf
set_option maxHeartbeats 4000000 in
set_option maxRecDepth 100000 in
theorem j_X5_liveStep_56_2 {p : Program} {l : Launch} {e : Env} {s : State} {m : MethodId} {args : Array Value} {below : List Frame} {meth : Method} {c : Code} {dC : Nat → ClassId} {dI : Nat → Nat → Nat} {y : Nat → ClassId} {A : Nat → Prop} (C0 : Cx p s m args meth c cX5_liveStep 10 (some .int) wsX5_liveStep RX5 A dC dI y) (a : Nat → Nat) (K : Int32 → ModelS → Prop) : ∀ (S : ModelS) (v1 : Int32) (v2 : Int32) (k0 : Int32) (H : Heap) (locs : List Loc) (ls : Array Slot), va_P (dC, dI) vwCl (mdW y a S) H → va_D A (mdW y a S) → va_S A s.heap H locs → lv_has ls 10 [(0, .ref (a 0)), (1, .int v1), (2, .int v2), (4, .int 2)] → wp_X5_liveStep_56_2 K S v1 v2 k0 → W p l e ({ frames := 6, cells := 0, slots := 0, locals := 140 } : Room) s m args below meth c H locs 0 0 (MQ below (va_Qi K (BW dC dI A (fun u => mdW y a u)) A) args s 0 0 A) (F0 m 56 ls [.int k0]) := by
  obtain ⟨hx, hb, hr, hml, hown, hts, hlocks, hA, hK⟩ := id C0
  intro S v1 v2 k0 H locs ls hP hD hS hl hf
  obtain ⟨mI, mA, mL⟩ := S
  unfold wp_X5_liveStep_56_2 at hf
  refine lv_istore_n (lv' := [(3, .int k0), (0, .ref (a 0)), (1, .int v1), (2, .int v2), (4, .int 2)]) hx hb dX5_liveStep_56 rfl hl (by decide) rfl (fun ls hl => ?_)
  refine lv_iinc (v := 3) (lv' := [(4, .int 3), (3, .int k0), (0, .ref (a 0)), (1, .int v1), (2, .int v2)]) hx hb dX5_liveStep_57 hl (k := 4) rfl (by decide) (by decide) rfl (fun ls hl => ?_)
  refine lv_goto (tgt := 26) hx hb dX5_liveStep_60 (by decide) ?_
  exact j_X5_liveStep_26_3 C0 a K (mI, mA, mL) v1 v2 k0 H locs ls hP hD hS (lv_sub hl [2, 3, 4, 1, 0] rfl) hf
set_option maxHeartbeats 4000000 in
set_option maxRecDepth 100000 in
theorem j_X5_liveStep_55_2 {p : Program} {l : Launch} {e : Env} {s : State} {m : MethodId} {args : Array Value} {below : List Frame} {meth : Method} {c : Code} {dC : Nat → ClassId} {dI : Nat → Nat → Nat} {y : Nat → ClassId} {A : Nat → Prop} (C0 : Cx p s m args meth c cX5_liveStep 10 (some .int) wsX5_liveStep RX5 A dC dI y) (a : Nat → Nat) (K : Int32 → ModelS → Prop) : ∀ (S : ModelS) (v1 : Int32) (v2 : Int32) (v3 : Int32) (H : Heap) (locs : List Loc) (ls : Array Slot), va_P (dC, dI) vwCl (mdW y a S) H → va_D A (mdW y a S) → va_S A s.heap H locs → lv_has ls 10 [(0, .ref (a 0)), (1, .int v1), (2, .int v2), (3, .int v3), (4, .int 2)] → wp_X5_liveStep_55_2 K S v1 v2 v3 → W p l e ({ frames := 6, cells := 0, slots := 0, locals := 140 } : Room) s m args below meth c H locs 0 0 (MQ below (va_Qi K (BW dC dI A (fun u => mdW y a u)) A) args s 0 0 A) (F0 m 55 ls []) := by
  obtain ⟨hx, hb, hr, hml, hown, hts, hlocks, hA, hK⟩ := id C0
  intro S v1 v2 v3 H locs ls hP hD hS hl hf
  obtain ⟨mI, mA, mL⟩ := S
  unfold wp_X5_liveStep_55_2 at hf
  refine lv_iload_n hx hb dX5_liveStep_55 rfl (lv_at hl 3 rfl) ?_
  exact j_X5_liveStep_56_2 C0 a K (mI, mA, mL) v1 v2 v3 H locs ls hP hD hS (lv_sub hl [0, 1, 2, 4] rfl) hf
set_option maxHeartbeats 4000000 in
set_option maxRecDepth 100000 in
theorem j_X5_liveStep_26_2 {p : Program} {l : Launch} {e : Env} {s : State} {m : MethodId} {args : Array Value} {below : List Frame} {meth : Method} {c : Code} {dC : Nat → ClassId} {dI : Nat → Nat → Nat} {y : Nat → ClassId} {A : Nat → Prop} (C0 : Cx p s m args meth c cX5_liveStep 10 (some .int) wsX5_liveStep RX5 A dC dI y) (a : Nat → Nat) (K : Int32 → ModelS → Prop) : ∀ (S : ModelS) (v1 : Int32) (v2 : Int32) (v3 : Int32) (H : Heap) (locs : List Loc) (ls : Array Slot), va_P (dC, dI) vwCl (mdW y a S) H → va_D A (mdW y a S) → va_S A s.heap H locs → lv_has ls 10 [(0, .ref (a 0)), (1, .int v1), (2, .int v2), (3, .int v3), (4, .int 2)] → wp_X5_liveStep_26_2 K S v1 v2 v3 → W p l e ({ frames := 6, cells := 0, slots := 0, locals := 140 } : Room) s m args below meth c H locs 0 0 (MQ below (va_Qi K (BW dC dI A (fun u => mdW y a u)) A) args s 0 0 A) (F0 m 26 ls []) := by
  obtain ⟨hx, hb, hr, hml, hown, hts, hlocks, hA, hK⟩ := id C0
  have w9 := hts (Cond.fieldLink RX5 9 "SharedWireModel" "state" "[I") (List.mem_of_getElem? (i := 2) rfl)
  have hinX5 : ∀ w ∈ wsX50, w ∈ wsX5_liveStep := fun w h => List.mem_cons_of_mem _ (List.mem_append_right _ (h))
  intro S v1 v2 v3 H locs ls hP hD hS hl hf
  obtain ⟨mI, mA, mL⟩ := S
  unfold wp_X5_liveStep_26_2 at hf
  refine lv_iload hx hb dX5_liveStep_26 (lv_at hl 4 rfl) ?_
  refine lv_iconst (v := 4) hx hb dX5_liveStep_28 (by decide) ?_
  refine lv_icmp_ge (tgt := 63) hx hb dX5_liveStep_29 (by decide) (fun c9 => absurd c9 (by decide)) (fun _ => ?_)
  refine lv_aload_n hx hb dX5_liveStep_32 rfl (lv_at hl 0 rfl) ?_
  refine va_get (D := (dC, dI)) (ci := 5) (v := .ref (a 3)) (C := RX5) (T := TX5) (N := 35) hx hb hts hinX5 hown hK.1 hP 0 rfl rfl 3 (by decide) w9 (fun _ h9 => h9) rfl dX5_liveStep_33 ?_
  refine lv_iload hx hb dX5_liveStep_36 (lv_at hl 4 rfl) ?_
  refine ar_ild (f := (mA 3)) (j := 2) hx hb hK.1 hP 1 0 rfl rfl (clamp_lit 2 rfl) (vin_lit 2 4 rfl rfl) dX5_liveStep_38 ?_
  refine lv_if_eq (tgt := 55) hx hb dX5_liveStep_39 (by decide) (fun c5 => ?_) (fun c5 => ?_)
  · replace hf := hf.1 c5
    exact j_X5_liveStep_55_2 C0 a K (mI, mA, mL) v1 v2 v3 H locs ls hP hD hS (lv_sub hl [0, 1, 2, 3, 4] rfl) hf
  · replace hf := hf.2 c5
    refine lv_aload_n hx hb dX5_liveStep_42 rfl (lv_at hl 0 rfl) ?_
    refine lv_iload hx hb dX5_liveStep_43 (lv_at hl 4 rfl) ?_
    refine k0i (As := [.int 2]) (rest := []) ⟨hx, hb, hml, hown, hts⟩ (c_X5_sends l dC dI y a H.size (mI, mA, mL) 2 _ hf) (cwV 1 hts gX5_liveStep_X5_sends rfl rfl rfl (by decide +kernel) ⟨Nat.le_of_ble_eq_true rfl, Nat.le_of_ble_eq_true rfl⟩) hK hP hD (va_recv hK.1 hP (ci := 5) (q0 := 0) rfl rfl) hS hA rfl hl.1 rfl (Nat.le_of_ble_eq_true rfl) dX5_liveStep_45 ⟨Nat.zero_le _, Nat.zero_le _⟩ (fun r56 u57 H locs hf hP hD hS => ?_)
    obtain ⟨hf, e9⟩ := hf
    have e9 := e9.symm
    subst e9
    have hP : va_P (dC, dI) vwCl (mdW y a (mI, mA, mL)) H := hP
    have hD : va_D A (mdW y a (mI, mA, mL)) := hD
    refine lv_if_ne (tgt := 55) hx hb dX5_liveStep_48 (by decide) (fun c58 => ?_) (fun c58 => ?_)
    · replace hf := hf.1 c58
      exact j_X5_liveStep_55_2 C0 a K (mI, mA, mL) v1 v2 v3 H locs ls hP hD hS (lv_sub hl [0, 1, 2, 3, 4] rfl) hf
    · replace hf := hf.2 c58
      refine lv_iconst (v := 0) hx hb dX5_liveStep_51 (by decide) ?_
      refine lv_goto (tgt := 56) hx hb dX5_liveStep_52 (by decide) ?_
      exact j_X5_liveStep_56_2 C0 a K (mI, mA, mL) v1 v2 0 H locs ls hP hD hS (lv_sub hl [0, 1, 2, 4] rfl) hf
set_option maxHeartbeats 4000000 in
set_option maxRecDepth 100000 in
theorem j_X5_liveStep_56_1 {p : Program} {l : Launch} {e : Env} {s : State} {m : MethodId} {args : Array Value} {below : List Frame} {meth : Method} {c : Code} {dC : Nat → ClassId} {dI : Nat → Nat → Nat} {y : Nat → ClassId} {A : Nat → Prop} (C0 : Cx p s m args meth c cX5_liveStep 10 (some .int) wsX5_liveStep RX5 A dC dI y) (a : Nat → Nat) (K : Int32 → ModelS → Prop) : ∀ (S : ModelS) (v1 : Int32) (v2 : Int32) (k0 : Int32) (H : Heap) (locs : List Loc) (ls : Array Slot), va_P (dC, dI) vwCl (mdW y a S) H → va_D A (mdW y a S) → va_S A s.heap H locs → lv_has ls 10 [(0, .ref (a 0)), (1, .int v1), (2, .int v2), (4, .int 1)] → wp_X5_liveStep_56_1 K S v1 v2 k0 → W p l e ({ frames := 6, cells := 0, slots := 0, locals := 140 } : Room) s m args below meth c H locs 0 0 (MQ below (va_Qi K (BW dC dI A (fun u => mdW y a u)) A) args s 0 0 A) (F0 m 56 ls [.int k0]) := by
  obtain ⟨hx, hb, hr, hml, hown, hts, hlocks, hA, hK⟩ := id C0
  intro S v1 v2 k0 H locs ls hP hD hS hl hf
  obtain ⟨mI, mA, mL⟩ := S
  unfold wp_X5_liveStep_56_1 at hf
  refine lv_istore_n (lv' := [(3, .int k0), (0, .ref (a 0)), (1, .int v1), (2, .int v2), (4, .int 1)]) hx hb dX5_liveStep_56 rfl hl (by decide) rfl (fun ls hl => ?_)
  refine lv_iinc (v := 2) (lv' := [(4, .int 2), (3, .int k0), (0, .ref (a 0)), (1, .int v1), (2, .int v2)]) hx hb dX5_liveStep_57 hl (k := 4) rfl (by decide) (by decide) rfl (fun ls hl => ?_)
  refine lv_goto (tgt := 26) hx hb dX5_liveStep_60 (by decide) ?_
  exact j_X5_liveStep_26_2 C0 a K (mI, mA, mL) v1 v2 k0 H locs ls hP hD hS (lv_sub hl [2, 3, 4, 1, 0] rfl) hf
set_option maxHeartbeats 4000000 in
set_option maxRecDepth 100000 in
theorem j_X5_liveStep_55_1 {p : Program} {l : Launch} {e : Env} {s : State} {m : MethodId} {args : Array Value} {below : List Frame} {meth : Method} {c : Code} {dC : Nat → ClassId} {dI : Nat → Nat → Nat} {y : Nat → ClassId} {A : Nat → Prop} (C0 : Cx p s m args meth c cX5_liveStep 10 (some .int) wsX5_liveStep RX5 A dC dI y) (a : Nat → Nat) (K : Int32 → ModelS → Prop) : ∀ (S : ModelS) (v1 : Int32) (v2 : Int32) (v3 : Int32) (H : Heap) (locs : List Loc) (ls : Array Slot), va_P (dC, dI) vwCl (mdW y a S) H → va_D A (mdW y a S) → va_S A s.heap H locs → lv_has ls 10 [(0, .ref (a 0)), (1, .int v1), (2, .int v2), (3, .int v3), (4, .int 1)] → wp_X5_liveStep_55_1 K S v1 v2 v3 → W p l e ({ frames := 6, cells := 0, slots := 0, locals := 140 } : Room) s m args below meth c H locs 0 0 (MQ below (va_Qi K (BW dC dI A (fun u => mdW y a u)) A) args s 0 0 A) (F0 m 55 ls []) := by
  obtain ⟨hx, hb, hr, hml, hown, hts, hlocks, hA, hK⟩ := id C0
  intro S v1 v2 v3 H locs ls hP hD hS hl hf
  obtain ⟨mI, mA, mL⟩ := S
  unfold wp_X5_liveStep_55_1 at hf
  refine lv_iload_n hx hb dX5_liveStep_55 rfl (lv_at hl 3 rfl) ?_
  exact j_X5_liveStep_56_1 C0 a K (mI, mA, mL) v1 v2 v3 H locs ls hP hD hS (lv_sub hl [0, 1, 2, 4] rfl) hf
set_option maxHeartbeats 4000000 in
set_option maxRecDepth 100000 in
theorem j_X5_liveStep_26_1 {p : Program} {l : Launch} {e : Env} {s : State} {m : MethodId} {args : Array Value} {below : List Frame} {meth : Method} {c : Code} {dC : Nat → ClassId} {dI : Nat → Nat → Nat} {y : Nat → ClassId} {A : Nat → Prop} (C0 : Cx p s m args meth c cX5_liveStep 10 (some .int) wsX5_liveStep RX5 A dC dI y) (a : Nat → Nat) (K : Int32 → ModelS → Prop) : ∀ (S : ModelS) (v1 : Int32) (v2 : Int32) (v3 : Int32) (H : Heap) (locs : List Loc) (ls : Array Slot), va_P (dC, dI) vwCl (mdW y a S) H → va_D A (mdW y a S) → va_S A s.heap H locs → lv_has ls 10 [(0, .ref (a 0)), (1, .int v1), (2, .int v2), (3, .int v3), (4, .int 1)] → wp_X5_liveStep_26_1 K S v1 v2 v3 → W p l e ({ frames := 6, cells := 0, slots := 0, locals := 140 } : Room) s m args below meth c H locs 0 0 (MQ below (va_Qi K (BW dC dI A (fun u => mdW y a u)) A) args s 0 0 A) (F0 m 26 ls []) := by
  obtain ⟨hx, hb, hr, hml, hown, hts, hlocks, hA, hK⟩ := id C0
  have w9 := hts (Cond.fieldLink RX5 9 "SharedWireModel" "state" "[I") (List.mem_of_getElem? (i := 2) rfl)
  have hinX5 : ∀ w ∈ wsX50, w ∈ wsX5_liveStep := fun w h => List.mem_cons_of_mem _ (List.mem_append_right _ (h))
  intro S v1 v2 v3 H locs ls hP hD hS hl hf
  obtain ⟨mI, mA, mL⟩ := S
  unfold wp_X5_liveStep_26_1 at hf
  refine lv_iload hx hb dX5_liveStep_26 (lv_at hl 4 rfl) ?_
  refine lv_iconst (v := 4) hx hb dX5_liveStep_28 (by decide) ?_
  refine lv_icmp_ge (tgt := 63) hx hb dX5_liveStep_29 (by decide) (fun c9 => absurd c9 (by decide)) (fun _ => ?_)
  refine lv_aload_n hx hb dX5_liveStep_32 rfl (lv_at hl 0 rfl) ?_
  refine va_get (D := (dC, dI)) (ci := 5) (v := .ref (a 3)) (C := RX5) (T := TX5) (N := 35) hx hb hts hinX5 hown hK.1 hP 0 rfl rfl 3 (by decide) w9 (fun _ h9 => h9) rfl dX5_liveStep_33 ?_
  refine lv_iload hx hb dX5_liveStep_36 (lv_at hl 4 rfl) ?_
  refine ar_ild (f := (mA 3)) (j := 1) hx hb hK.1 hP 1 0 rfl rfl (clamp_lit 1 rfl) (vin_lit 1 4 rfl rfl) dX5_liveStep_38 ?_
  refine lv_if_eq (tgt := 55) hx hb dX5_liveStep_39 (by decide) (fun c4 => ?_) (fun c4 => ?_)
  · replace hf := hf.1 c4
    exact j_X5_liveStep_55_1 C0 a K (mI, mA, mL) v1 v2 v3 H locs ls hP hD hS (lv_sub hl [0, 1, 2, 3, 4] rfl) hf
  · replace hf := hf.2 c4
    refine lv_aload_n hx hb dX5_liveStep_42 rfl (lv_at hl 0 rfl) ?_
    refine lv_iload hx hb dX5_liveStep_43 (lv_at hl 4 rfl) ?_
    refine k0i (As := [.int 1]) (rest := []) ⟨hx, hb, hml, hown, hts⟩ (c_X5_sends l dC dI y a H.size (mI, mA, mL) 1 _ hf) (cwV 1 hts gX5_liveStep_X5_sends rfl rfl rfl (by decide +kernel) ⟨Nat.le_of_ble_eq_true rfl, Nat.le_of_ble_eq_true rfl⟩) hK hP hD (va_recv hK.1 hP (ci := 5) (q0 := 0) rfl rfl) hS hA rfl hl.1 rfl (Nat.le_of_ble_eq_true rfl) dX5_liveStep_45 ⟨Nat.zero_le _, Nat.zero_le _⟩ (fun r59 u60 H locs hf hP hD hS => ?_)
    obtain ⟨hf, e9⟩ := hf
    have e9 := e9.symm
    subst e9
    have hP : va_P (dC, dI) vwCl (mdW y a (mI, mA, mL)) H := hP
    have hD : va_D A (mdW y a (mI, mA, mL)) := hD
    refine lv_if_ne (tgt := 55) hx hb dX5_liveStep_48 (by decide) (fun c61 => ?_) (fun c61 => ?_)
    · replace hf := hf.1 c61
      exact j_X5_liveStep_55_1 C0 a K (mI, mA, mL) v1 v2 v3 H locs ls hP hD hS (lv_sub hl [0, 1, 2, 3, 4] rfl) hf
    · replace hf := hf.2 c61
      refine lv_iconst (v := 0) hx hb dX5_liveStep_51 (by decide) ?_
      refine lv_goto (tgt := 56) hx hb dX5_liveStep_52 (by decide) ?_
      exact j_X5_liveStep_56_1 C0 a K (mI, mA, mL) v1 v2 0 H locs ls hP hD hS (lv_sub hl [0, 1, 2, 4] rfl) hf
set_option maxHeartbeats 4000000 in
set_option maxRecDepth 100000 in
theorem j_X5_liveStep_56_0 {p : Program} {l : Launch} {e : Env} {s : State} {m : MethodId} {args : Array Value} {below : List Frame} {meth : Method} {c : Code} {dC : Nat → ClassId} {dI : Nat → Nat → Nat} {y : Nat → ClassId} {A : Nat → Prop} (C0 : Cx p s m args meth c cX5_liveStep 10 (some .int) wsX5_liveStep RX5 A dC dI y) (a : Nat → Nat) (K : Int32 → ModelS → Prop) : ∀ (S : ModelS) (v1 : Int32) (v2 : Int32) (k0 : Int32) (H : Heap) (locs : List Loc) (ls : Array Slot), va_P (dC, dI) vwCl (mdW y a S) H → va_D A (mdW y a S) → va_S A s.heap H locs → lv_has ls 10 [(0, .ref (a 0)), (1, .int v1), (2, .int v2), (4, .int 0)] → wp_X5_liveStep_56_0 K S v1 v2 k0 → W p l e ({ frames := 6, cells := 0, slots := 0, locals := 140 } : Room) s m args below meth c H locs 0 0 (MQ below (va_Qi K (BW dC dI A (fun u => mdW y a u)) A) args s 0 0 A) (F0 m 56 ls [.int k0]) := by
  obtain ⟨hx, hb, hr, hml, hown, hts, hlocks, hA, hK⟩ := id C0
  intro S v1 v2 k0 H locs ls hP hD hS hl hf
  obtain ⟨mI, mA, mL⟩ := S
  unfold wp_X5_liveStep_56_0 at hf
  refine lv_istore_n (lv' := [(3, .int k0), (0, .ref (a 0)), (1, .int v1), (2, .int v2), (4, .int 0)]) hx hb dX5_liveStep_56 rfl hl (by decide) rfl (fun ls hl => ?_)
  refine lv_iinc (v := 1) (lv' := [(4, .int 1), (3, .int k0), (0, .ref (a 0)), (1, .int v1), (2, .int v2)]) hx hb dX5_liveStep_57 hl (k := 4) rfl (by decide) (by decide) rfl (fun ls hl => ?_)
  refine lv_goto (tgt := 26) hx hb dX5_liveStep_60 (by decide) ?_
  exact j_X5_liveStep_26_1 C0 a K (mI, mA, mL) v1 v2 k0 H locs ls hP hD hS (lv_sub hl [2, 3, 4, 1, 0] rfl) hf
set_option maxHeartbeats 4000000 in
set_option maxRecDepth 100000 in
theorem j_X5_liveStep_55_0 {p : Program} {l : Launch} {e : Env} {s : State} {m : MethodId} {args : Array Value} {below : List Frame} {meth : Method} {c : Code} {dC : Nat → ClassId} {dI : Nat → Nat → Nat} {y : Nat → ClassId} {A : Nat → Prop} (C0 : Cx p s m args meth c cX5_liveStep 10 (some .int) wsX5_liveStep RX5 A dC dI y) (a : Nat → Nat) (K : Int32 → ModelS → Prop) : ∀ (S : ModelS) (v1 : Int32) (v2 : Int32) (v3 : Int32) (H : Heap) (locs : List Loc) (ls : Array Slot), va_P (dC, dI) vwCl (mdW y a S) H → va_D A (mdW y a S) → va_S A s.heap H locs → lv_has ls 10 [(0, .ref (a 0)), (1, .int v1), (2, .int v2), (3, .int v3), (4, .int 0)] → wp_X5_liveStep_55_0 K S v1 v2 v3 → W p l e ({ frames := 6, cells := 0, slots := 0, locals := 140 } : Room) s m args below meth c H locs 0 0 (MQ below (va_Qi K (BW dC dI A (fun u => mdW y a u)) A) args s 0 0 A) (F0 m 55 ls []) := by
  obtain ⟨hx, hb, hr, hml, hown, hts, hlocks, hA, hK⟩ := id C0
  intro S v1 v2 v3 H locs ls hP hD hS hl hf
  obtain ⟨mI, mA, mL⟩ := S
  unfold wp_X5_liveStep_55_0 at hf
  refine lv_iload_n hx hb dX5_liveStep_55 rfl (lv_at hl 3 rfl) ?_
  exact j_X5_liveStep_56_0 C0 a K (mI, mA, mL) v1 v2 v3 H locs ls hP hD hS (lv_sub hl [0, 1, 2, 4] rfl) hf
set_option maxHeartbeats 4000000 in
set_option maxRecDepth 100000 in
theorem j_X5_liveStep_26_0 {p : Program} {l : Launch} {e : Env} {s : State} {m : MethodId} {args : Array Value} {below : List Frame} {meth : Method} {c : Code} {dC : Nat → ClassId} {dI : Nat → Nat → Nat} {y : Nat → ClassId} {A : Nat → Prop} (C0 : Cx p s m args meth c cX5_liveStep 10 (some .int) wsX5_liveStep RX5 A dC dI y) (a : Nat → Nat) (K : Int32 → ModelS → Prop) : ∀ (S : ModelS) (v1 : Int32) (v2 : Int32) (v3 : Int32) (H : Heap) (locs : List Loc) (ls : Array Slot), va_P (dC, dI) vwCl (mdW y a S) H → va_D A (mdW y a S) → va_S A s.heap H locs → lv_has ls 10 [(0, .ref (a 0)), (1, .int v1), (2, .int v2), (3, .int v3), (4, .int 0)] → wp_X5_liveStep_26_0 K S v1 v2 v3 → W p l e ({ frames := 6, cells := 0, slots := 0, locals := 140 } : Room) s m args below meth c H locs 0 0 (MQ below (va_Qi K (BW dC dI A (fun u => mdW y a u)) A) args s 0 0 A) (F0 m 26 ls []) := by
  obtain ⟨hx, hb, hr, hml, hown, hts, hlocks, hA, hK⟩ := id C0
  have w9 := hts (Cond.fieldLink RX5 9 "SharedWireModel" "state" "[I") (List.mem_of_getElem? (i := 2) rfl)
  have hinX5 : ∀ w ∈ wsX50, w ∈ wsX5_liveStep := fun w h => List.mem_cons_of_mem _ (List.mem_append_right _ (h))
  intro S v1 v2 v3 H locs ls hP hD hS hl hf
  obtain ⟨mI, mA, mL⟩ := S
  unfold wp_X5_liveStep_26_0 at hf
  refine lv_iload hx hb dX5_liveStep_26 (lv_at hl 4 rfl) ?_
  refine lv_iconst (v := 4) hx hb dX5_liveStep_28 (by decide) ?_
  refine lv_icmp_ge (tgt := 63) hx hb dX5_liveStep_29 (by decide) (fun c9 => absurd c9 (by decide)) (fun _ => ?_)
  refine lv_aload_n hx hb dX5_liveStep_32 rfl (lv_at hl 0 rfl) ?_
  refine va_get (D := (dC, dI)) (ci := 5) (v := .ref (a 3)) (C := RX5) (T := TX5) (N := 35) hx hb hts hinX5 hown hK.1 hP 0 rfl rfl 3 (by decide) w9 (fun _ h9 => h9) rfl dX5_liveStep_33 ?_
  refine lv_iload hx hb dX5_liveStep_36 (lv_at hl 4 rfl) ?_
  refine ar_ild (f := (mA 3)) (j := 0) hx hb hK.1 hP 1 0 rfl rfl (clamp_lit 0 rfl) (vin_lit 0 4 rfl rfl) dX5_liveStep_38 ?_
  refine lv_if_eq (tgt := 55) hx hb dX5_liveStep_39 (by decide) (fun c3 => ?_) (fun c3 => ?_)
  · replace hf := hf.1 c3
    exact j_X5_liveStep_55_0 C0 a K (mI, mA, mL) v1 v2 v3 H locs ls hP hD hS (lv_sub hl [0, 1, 2, 3, 4] rfl) hf
  · replace hf := hf.2 c3
    refine lv_aload_n hx hb dX5_liveStep_42 rfl (lv_at hl 0 rfl) ?_
    refine lv_iload hx hb dX5_liveStep_43 (lv_at hl 4 rfl) ?_
    refine k0i (As := [.int 0]) (rest := []) ⟨hx, hb, hml, hown, hts⟩ (c_X5_sends l dC dI y a H.size (mI, mA, mL) 0 _ hf) (cwV 1 hts gX5_liveStep_X5_sends rfl rfl rfl (by decide +kernel) ⟨Nat.le_of_ble_eq_true rfl, Nat.le_of_ble_eq_true rfl⟩) hK hP hD (va_recv hK.1 hP (ci := 5) (q0 := 0) rfl rfl) hS hA rfl hl.1 rfl (Nat.le_of_ble_eq_true rfl) dX5_liveStep_45 ⟨Nat.zero_le _, Nat.zero_le _⟩ (fun r62 u63 H locs hf hP hD hS => ?_)
    obtain ⟨hf, e9⟩ := hf
    have e9 := e9.symm
    subst e9
    have hP : va_P (dC, dI) vwCl (mdW y a (mI, mA, mL)) H := hP
    have hD : va_D A (mdW y a (mI, mA, mL)) := hD
    refine lv_if_ne (tgt := 55) hx hb dX5_liveStep_48 (by decide) (fun c64 => ?_) (fun c64 => ?_)
    · replace hf := hf.1 c64
      exact j_X5_liveStep_55_0 C0 a K (mI, mA, mL) v1 v2 v3 H locs ls hP hD hS (lv_sub hl [0, 1, 2, 3, 4] rfl) hf
    · replace hf := hf.2 c64
      refine lv_iconst (v := 0) hx hb dX5_liveStep_51 (by decide) ?_
      refine lv_goto (tgt := 56) hx hb dX5_liveStep_52 (by decide) ?_
      exact j_X5_liveStep_56_0 C0 a K (mI, mA, mL) v1 v2 0 H locs ls hP hD hS (lv_sub hl [0, 1, 2, 4] rfl) hf
set_option maxHeartbeats 4000000 in
set_option maxRecDepth 100000 in
theorem j_X5_liveStep_21 {p : Program} {l : Launch} {e : Env} {s : State} {m : MethodId} {args : Array Value} {below : List Frame} {meth : Method} {c : Code} {dC : Nat → ClassId} {dI : Nat → Nat → Nat} {y : Nat → ClassId} {A : Nat → Prop} (C0 : Cx p s m args meth c cX5_liveStep 10 (some .int) wsX5_liveStep RX5 A dC dI y) (a : Nat → Nat) (K : Int32 → ModelS → Prop) : ∀ (S : ModelS) (v1 : Int32) (v2 : Int32) (H : Heap) (locs : List Loc) (ls : Array Slot), va_P (dC, dI) vwCl (mdW y a S) H → va_D A (mdW y a S) → va_S A s.heap H locs → lv_has ls 10 [(0, .ref (a 0)), (1, .int v1), (2, .int v2)] → wp_X5_liveStep_21 K S v1 v2 → W p l e ({ frames := 6, cells := 0, slots := 0, locals := 140 } : Room) s m args below meth c H locs 0 0 (MQ below (va_Qi K (BW dC dI A (fun u => mdW y a u)) A) args s 0 0 A) (F0 m 21 ls []) := by
  obtain ⟨hx, hb, hr, hml, hown, hts, hlocks, hA, hK⟩ := id C0
  intro S v1 v2 H locs ls hP hD hS hl hf
  obtain ⟨mI, mA, mL⟩ := S
  unfold wp_X5_liveStep_21 at hf
  refine lv_iconst (v := 1) hx hb dX5_liveStep_21 (by decide) ?_
  refine lv_istore_n (lv' := [(3, .int 1), (0, .ref (a 0)), (1, .int v1), (2, .int v2)]) hx hb dX5_liveStep_22 rfl hl (by decide) rfl (fun ls hl => ?_)
  refine lv_iconst (v := 0) hx hb dX5_liveStep_23 (by decide) ?_
  refine lv_istore (lv' := [(4, .int 0), (3, .int 1), (0, .ref (a 0)), (1, .int v1), (2, .int v2)]) hx hb dX5_liveStep_24 hl (by decide) rfl (fun ls hl => ?_)
  exact j_X5_liveStep_26_0 C0 a K (mI, mA, mL) v1 v2 1 H locs ls hP hD hS (lv_sub hl [2, 3, 4, 1, 0] rfl) hf
set_option maxHeartbeats 4000000 in
set_option maxRecDepth 100000 in
theorem j_X5_liveStep_12 {p : Program} {l : Launch} {e : Env} {s : State} {m : MethodId} {args : Array Value} {below : List Frame} {meth : Method} {c : Code} {dC : Nat → ClassId} {dI : Nat → Nat → Nat} {y : Nat → ClassId} {A : Nat → Prop} (C0 : Cx p s m args meth c cX5_liveStep 10 (some .int) wsX5_liveStep RX5 A dC dI y) (a : Nat → Nat) (K : Int32 → ModelS → Prop) : ∀ (S : ModelS) (v1 : Int32) (k0 : Int32) (H : Heap) (locs : List Loc) (ls : Array Slot), va_P (dC, dI) vwCl (mdW y a S) H → va_D A (mdW y a S) → va_S A s.heap H locs → lv_has ls 10 [(0, .ref (a 0)), (1, .int v1)] → wp_X5_liveStep_12 K S v1 k0 → W p l e ({ frames := 6, cells := 0, slots := 0, locals := 140 } : Room) s m args below meth c H locs 0 0 (MQ below (va_Qi K (BW dC dI A (fun u => mdW y a u)) A) args s 0 0 A) (F0 m 12 ls [.int k0]) := by
  obtain ⟨hx, hb, hr, hml, hown, hts, hlocks, hA, hK⟩ := id C0
  intro S v1 k0 H locs ls hP hD hS hl hf
  obtain ⟨mI, mA, mL⟩ := S
  unfold wp_X5_liveStep_12 at hf
  refine lv_istore_n (lv' := [(2, .int k0), (0, .ref (a 0)), (1, .int v1)]) hx hb dX5_liveStep_12 rfl hl (by decide) rfl (fun ls hl => ?_)
  refine lv_iload_n hx hb dX5_liveStep_13 rfl (lv_at hl 0 rfl) ?_
  refine lv_if_eq (tgt := 21) hx hb dX5_liveStep_14 (by decide) (fun c2 => ?_) (fun c2 => ?_)
  · replace hf := hf.1 c2
    exact j_X5_liveStep_21 C0 a K (mI, mA, mL) v1 k0 H locs ls hP hD hS (lv_sub hl [1, 2, 0] rfl) hf
  · replace hf := hf.2 c2
    refine lv_aload_n hx hb dX5_liveStep_17 rfl (lv_at hl 1 rfl) ?_
    refine k0v (As := []) (rest := []) ⟨hx, hb, hml, hown, hts⟩ (c_X5_offerAll l dC dI y a H.size (mI, mA, mL) _ hf) (cwV 0 hts gX5_liveStep_X5_offerAll rfl rfl rfl (by decide +kernel) ⟨Nat.le_of_ble_eq_true rfl, Nat.le_of_ble_eq_true rfl⟩) hK hP hD (va_recv hK.1 hP (ci := 5) (q0 := 0) rfl rfl) hS hA rfl hl.1 rfl (Nat.le_of_ble_eq_true rfl) dX5_liveStep_18 ⟨Nat.zero_le _, Nat.zero_le _⟩ (fun u65 H locs hf hP hD hS => ?_)
    have hP : va_P (dC, dI) vwCl (mdW y a (u65.1, u65.2.1, u65.2.2)) H := hP
    have hD : va_D A (mdW y a (u65.1, u65.2.1, u65.2.2)) := hD
    exact j_X5_liveStep_21 C0 a K (u65.1, u65.2.1, u65.2.2) v1 k0 H locs ls hP hD hS (lv_sub hl [1, 2, 0] rfl) hf
set_option maxHeartbeats 4000000 in
set_option maxRecDepth 100000 in
theorem c_X5_liveStep (l : Launch) (dC : Nat → ClassId) (dI : Nat → Nat → Nat) (y : Nat → ClassId) (a : Nat → Nat) (sz : Nat) (S : ModelS) (p0 : Int32) (K : Int32 → ModelS → Prop) (hf : wp_X5_liveStep S p0 K) : MI l yX5_liveStep wsX5_liveStep { frames := 6, cells := 0, slots := 0, locals := 140 } dC dI y [.ref (a 0), .int p0] (mdW y a S) sz (fun u => mdW y a u) K := by
  refine Met.ofW (cc := cX5_liveStep) (maxL := 10) (ret := (some .int)) (by decide) rfl ?_
  intro p e s m args below meth c s₁ B hml hv
  obtain ⟨rfl, hsz, hP, hK, hD0⟩ := hv
  have hx := B.exec
  have hb := B.bytes
  have hr := B.returns
  have hts := atoms_spec (ws := wsX5_liveStep) B.pre
  have hown : s.vm.findClass RX5 = some m.cls := findClass_of_methodNamed B.named
  have hlocks := B.notSynchronized
  subst hsz
  have hD := hD0.self (sz := s.heap.size)
  generalize hAe : va_A (mdW y a S) s.heap.size = A at hD ⊢
  have hA : ∀ q : Nat, s.heap.size ≤ q → A q := fun q h => by rw [← hAe]; exact Or.inr h
  have hS : va_S A s.heap s.heap [] := va_S.rf
  have C0 : Cx p s m [.ref (a 0), .int p0].toArray meth c cX5_liveStep 10 (some .int) wsX5_liveStep RX5 A dC dI y := ⟨hx, hb, hr, hml, hown, hts, hlocks, hA, hK⟩
  have w178 := hts (Cond.fieldLink RX5 178 "SharedWireModel" "wire" "I") (List.mem_of_getElem? (i := 1) rfl)
  have hinX5 : ∀ w ∈ wsX50, w ∈ wsX5_liveStep := fun w h => List.mem_cons_of_mem _ (List.mem_append_right _ (h))
  have hl := lv_entry ([.ref (a 0), .int p0]) (n := 10) (Nat.le_of_ble_eq_true rfl)
  rw [lg_entry_eq]
  generalize (lg_sl ([.ref (a 0), .int p0]) ++ List.replicate (10 - (lg_sl ([.ref (a 0), .int p0])).length) Slot.unset).toArray = ls at hl ⊢
  have hl : lv_has ls 10 [(0, .ref (a 0)), (1, .int p0)] := hl
  obtain ⟨mI, mA, mL⟩ := S
  clear hAe hD0
  generalize hL0 : ([] : List Loc) = locs at hS ⊢
  unfold wp_X5_liveStep at hf
  refine lv_aload_n hx hb dX5_liveStep_0 rfl (lv_at hl 0 rfl) ?_
  refine va_get (D := (dC, dI)) (ci := 5) (v := .int (mI 1)) (C := RX5) (T := TX5) (N := 35) hx hb hts hinX5 hown hK.1 hP 0 rfl rfl 1 (by decide) w178 (fun _ h9 => h9) rfl dX5_liveStep_1 ?_
  refine lv_if_ne (tgt := 11) hx hb dX5_liveStep_4 (by decide) (fun c1 => ?_) (fun c1 => ?_)
  · replace hf := hf.1 c1
    refine lv_iconst (v := 0) hx hb dX5_liveStep_11 (by decide) ?_
    exact j_X5_liveStep_12 C0 a K (mI, mA, mL) p0 0 s.heap locs ls hP hD hS (lv_sub hl [0, 1] rfl) hf
  · replace hf := hf.2 c1
    refine lv_iconst (v := 1) hx hb dX5_liveStep_7 (by decide) ?_
    refine lv_goto (tgt := 12) hx hb dX5_liveStep_8 (by decide) ?_
    exact j_X5_liveStep_12 C0 a K (mI, mA, mL) p0 1 s.heap locs ls hP hD hS (lv_sub hl [0, 1] rfl) hf

def wp_X5_oneStep_15 (K : Int32 → ModelS → Prop) : ModelS → Int32 → Prop := fun (mI, mA, mL) v1 => wp_X5_liveStep (mI, mA, mL) v1 (fun r2 u3 => K r2 (u3.1, u3.2.1, u3.2.2))
def wp_X5_oneStep_95 (K : Int32 → ModelS → Prop) : ModelS → Int32 → Prop := fun (mI, mA, mL) v2 => K v2 (mI, mA, mL)
def wp_X5_oneStep_92 (K : Int32 → ModelS → Prop) : ModelS → Int32 → Int32 → Prop := fun (mI, mA, mL) v2 k0 => wp_X5_oneStep_95 K (va_up mI 1 k0, mA, mL) v2
def wp_X5_oneStep_75 (K : Int32 → ModelS → Prop) : ModelS → Int32 → Int32 → Prop := fun (mI, mA, mL) v2 k0 => ((¬ mI 1 = 2 → wp_X5_oneStep_92 K (va_up mI 2 k0, mA, mL) v2 0) ∧ (mI 1 = 2 → wp_X5_oneStep_92 K (va_up mI 2 k0, mA, mL) v2 3))
def wp_X5_oneStep_43 (K : Int32 → ModelS → Prop) : ModelS → Int32 → Prop := fun (mI, mA, mL) k0 => ((¬ (mI 2) - 1 = 0 → wp_X5_oneStep_95 K (va_up mI 2 ((mI 2) - 1), mA, mL) k0) ∧ ((mI 2) - 1 = 0 → ((¬ mI 1 = 2 → wp_X5_oneStep_75 K (va_up mI 2 ((mI 2) - 1), mA, mL) k0 0) ∧ (mI 1 = 2 → wp_X5_oneStep_75 K (va_up mI 2 ((mI 2) - 1), mA, mL) k0 3))))
def wp_X5_oneStep_42 (K : Int32 → ModelS → Prop) : ModelS → Prop := fun (mI, mA, mL) => wp_X5_oneStep_43 K (mI, mA, mL) 1
def wp_X5_oneStep : ModelS → Int32 → (Int32 → ModelS → Prop) → Prop := fun (mI, mA, mL) p0 K => ((mI 1 = 0 → wp_X5_oneStep_15 K (mI, mA, mL) p0) ∧ (¬ mI 1 = 0 → ((¬ mI 1 = 1 → ((¬ mI 1 = 2 → wp_X5_oneStep_42 K (mI, mA, mL)) ∧ (mI 1 = 2 → ((mI 2 ≤ 8 → wp_X5_oneStep_42 K (mI, mA, mL)) ∧ (¬ mI 2 ≤ 8 → wp_X5_oneStep_43 K (mI, mA, mL) 0))))) ∧ (mI 1 = 1 → wp_X5_oneStep_15 K (mI, mA, mL) p0))))
set_option maxHeartbeats 4000000 in
set_option maxRecDepth 100000 in
theorem j_X5_oneStep_15 {p : Program} {l : Launch} {e : Env} {s : State} {m : MethodId} {args : Array Value} {below : List Frame} {meth : Method} {c : Code} {dC : Nat → ClassId} {dI : Nat → Nat → Nat} {y : Nat → ClassId} {A : Nat → Prop} (C0 : Cx p s m args meth c cX5_oneStep 3 (some .int) wsX5_oneStep RX5 A dC dI y) (a : Nat → Nat) (K : Int32 → ModelS → Prop) : ∀ (S : ModelS) (v1 : Int32) (H : Heap) (locs : List Loc) (ls : Array Slot), va_P (dC, dI) vwCl (mdW y a S) H → va_D A (mdW y a S) → va_S A s.heap H locs → lv_has ls 3 [(0, .ref (a 0)), (1, .int v1)] → wp_X5_oneStep_15 K S v1 → W p l e ({ frames := 7, cells := 0, slots := 0, locals := 169 } : Room) s m args below meth c H locs 0 0 (MQ below (va_Qi K (BW dC dI A (fun u => mdW y a u)) A) args s 0 0 A) (F0 m 15 ls []) := by
  obtain ⟨hx, hb, hr, hml, hown, hts, hlocks, hA, hK⟩ := id C0
  intro S v1 H locs ls hP hD hS hl hf
  obtain ⟨mI, mA, mL⟩ := S
  unfold wp_X5_oneStep_15 at hf
  refine lv_aload_n hx hb dX5_oneStep_15 rfl (lv_at hl 0 rfl) ?_
  refine lv_iload_n hx hb dX5_oneStep_16 rfl (lv_at hl 1 rfl) ?_
  refine k0i (As := [.int v1]) (rest := []) ⟨hx, hb, hml, hown, hts⟩ (c_X5_liveStep l dC dI y a H.size (mI, mA, mL) v1 _ hf) (cwV 1 hts gX5_oneStep_X5_liveStep rfl rfl rfl (by decide +kernel) ⟨Nat.le_of_ble_eq_true rfl, Nat.le_of_ble_eq_true rfl⟩) hK hP hD (va_recv hK.1 hP (ci := 5) (q0 := 0) rfl rfl) hS hA rfl hl.1 rfl (Nat.le_of_ble_eq_true rfl) dX5_oneStep_17 ⟨Nat.zero_le _, Nat.zero_le _⟩ (fun r2 u3 H locs hf hP hD hS => ?_)
  have hP : va_P (dC, dI) vwCl (mdW y a (u3.1, u3.2.1, u3.2.2)) H := hP
  have hD : va_D A (mdW y a (u3.1, u3.2.1, u3.2.2)) := hD
  exact W.iret (v := r2) hx hb hr (fun t ht hW => ⟨⟨r2, (u3.1, u3.2.1, u3.2.2), rfl, hf, by rw [ht]; exact hP, hD⟩, hS.F ht⟩) hS.2.2 dX5_oneStep_20
set_option maxHeartbeats 4000000 in
set_option maxRecDepth 100000 in
theorem j_X5_oneStep_95 {p : Program} {l : Launch} {e : Env} {s : State} {m : MethodId} {args : Array Value} {below : List Frame} {meth : Method} {c : Code} {dC : Nat → ClassId} {dI : Nat → Nat → Nat} {y : Nat → ClassId} {A : Nat → Prop} (C0 : Cx p s m args meth c cX5_oneStep 3 (some .int) wsX5_oneStep RX5 A dC dI y) (a : Nat → Nat) (K : Int32 → ModelS → Prop) : ∀ (S : ModelS) (v2 : Int32) (H : Heap) (locs : List Loc) (ls : Array Slot), va_P (dC, dI) vwCl (mdW y a S) H → va_D A (mdW y a S) → va_S A s.heap H locs → lv_has ls 3 [(2, .int v2)] → wp_X5_oneStep_95 K S v2 → W p l e ({ frames := 7, cells := 0, slots := 0, locals := 169 } : Room) s m args below meth c H locs 0 0 (MQ below (va_Qi K (BW dC dI A (fun u => mdW y a u)) A) args s 0 0 A) (F0 m 95 ls []) := by
  obtain ⟨hx, hb, hr, hml, hown, hts, hlocks, hA, hK⟩ := id C0
  intro S v2 H locs ls hP hD hS hl hf
  obtain ⟨mI, mA, mL⟩ := S
  unfold wp_X5_oneStep_95 at hf
  refine lv_iload_n hx hb dX5_oneStep_95 rfl (lv_at hl 0 rfl) ?_
  exact W.iret (v := v2) hx hb hr (fun t ht hW => ⟨⟨v2, (mI, mA, mL), rfl, hf, by rw [ht]; exact hP, hD⟩, hS.F ht⟩) hS.2.2 dX5_oneStep_96
set_option maxHeartbeats 4000000 in
set_option maxRecDepth 100000 in
theorem j_X5_oneStep_92 {p : Program} {l : Launch} {e : Env} {s : State} {m : MethodId} {args : Array Value} {below : List Frame} {meth : Method} {c : Code} {dC : Nat → ClassId} {dI : Nat → Nat → Nat} {y : Nat → ClassId} {A : Nat → Prop} (C0 : Cx p s m args meth c cX5_oneStep 3 (some .int) wsX5_oneStep RX5 A dC dI y) (a : Nat → Nat) (K : Int32 → ModelS → Prop) : ∀ (S : ModelS) (v2 : Int32) (k0 : Int32) (H : Heap) (locs : List Loc) (ls : Array Slot), va_P (dC, dI) vwCl (mdW y a S) H → va_D A (mdW y a S) → va_S A s.heap H locs → lv_has ls 3 [(2, .int v2)] → wp_X5_oneStep_92 K S v2 k0 → W p l e ({ frames := 7, cells := 0, slots := 0, locals := 169 } : Room) s m args below meth c H locs 0 0 (MQ below (va_Qi K (BW dC dI A (fun u => mdW y a u)) A) args s 0 0 A) (F0 m 92 ls [.int k0, .ref (a 0)]) := by
  obtain ⟨hx, hb, hr, hml, hown, hts, hlocks, hA, hK⟩ := id C0
  have w178 := hts (Cond.fieldLink RX5 178 "SharedWireModel" "wire" "I") (List.mem_of_getElem? (i := 1) rfl)
  have hinX5 : ∀ w ∈ wsX50, w ∈ wsX5_oneStep := fun w h => List.mem_cons_of_mem _ (List.mem_append_right _ (h))
  intro S v2 k0 H locs ls hP hD hS hl hf
  obtain ⟨mI, mA, mL⟩ := S
  unfold wp_X5_oneStep_92 at hf
  refine mput_1 (v := k0) hx hb hts hinX5 hown hK.1 hP hD hS w178 dX5_oneStep_92 (fun H locs hP hD hS => ?_)
  exact j_X5_oneStep_95 C0 a K (va_up mI 1 k0, mA, mL) v2 H locs ls hP hD hS (lv_sub hl [0] rfl) hf
set_option maxHeartbeats 4000000 in
set_option maxRecDepth 100000 in
theorem j_X5_oneStep_75 {p : Program} {l : Launch} {e : Env} {s : State} {m : MethodId} {args : Array Value} {below : List Frame} {meth : Method} {c : Code} {dC : Nat → ClassId} {dI : Nat → Nat → Nat} {y : Nat → ClassId} {A : Nat → Prop} (C0 : Cx p s m args meth c cX5_oneStep 3 (some .int) wsX5_oneStep RX5 A dC dI y) (a : Nat → Nat) (K : Int32 → ModelS → Prop) : ∀ (S : ModelS) (v2 : Int32) (k0 : Int32) (H : Heap) (locs : List Loc) (ls : Array Slot), va_P (dC, dI) vwCl (mdW y a S) H → va_D A (mdW y a S) → va_S A s.heap H locs → lv_has ls 3 [(0, .ref (a 0)), (2, .int v2)] → wp_X5_oneStep_75 K S v2 k0 → W p l e ({ frames := 7, cells := 0, slots := 0, locals := 169 } : Room) s m args below meth c H locs 0 0 (MQ below (va_Qi K (BW dC dI A (fun u => mdW y a u)) A) args s 0 0 A) (F0 m 75 ls [.int k0, .ref (a 0)]) := by
  obtain ⟨hx, hb, hr, hml, hown, hts, hlocks, hA, hK⟩ := id C0
  have w178 := hts (Cond.fieldLink RX5 178 "SharedWireModel" "wire" "I") (List.mem_of_getElem? (i := 1) rfl)
  have w181 := hts (Cond.fieldLink RX5 181 "SharedWireModel" "left" "I") (List.mem_of_getElem? (i := 2) rfl)
  have hinX5 : ∀ w ∈ wsX50, w ∈ wsX5_oneStep := fun w h => List.mem_cons_of_mem _ (List.mem_append_right _ (h))
  intro S v2 k0 H locs ls hP hD hS hl hf
  obtain ⟨mI, mA, mL⟩ := S
  unfold wp_X5_oneStep_75 at hf
  refine mput_2 (v := k0) hx hb hts hinX5 hown hK.1 hP hD hS w181 dX5_oneStep_75 (fun H locs hP hD hS => ?_)
  refine lv_aload_n hx hb dX5_oneStep_78 rfl (lv_at hl 0 rfl) ?_
  refine lv_aload_n hx hb dX5_oneStep_79 rfl (lv_at hl 0 rfl) ?_
  refine va_get (D := (dC, dI)) (ci := 5) (v := .int (mI 1)) (C := RX5) (T := TX5) (N := 35) hx hb hts hinX5 hown hK.1 hP 0 rfl rfl 1 (by decide) w178 (fun _ h9 => h9) rfl dX5_oneStep_80 ?_
  refine lv_iconst (v := 2) hx hb dX5_oneStep_83 (by decide) ?_
  refine lv_icmp_ne (tgt := 91) hx hb dX5_oneStep_84 (by decide) (fun c8 => ?_) (fun c8 => ?_)
  · replace hf := hf.1 c8
    refine lv_iconst (v := 0) hx hb dX5_oneStep_91 (by decide) ?_
    exact j_X5_oneStep_92 C0 a K (va_up mI 2 k0, mA, mL) v2 0 H locs ls hP hD hS (lv_sub hl [1] rfl) hf
  · replace hf := hf.2 c8
    refine lv_iconst (v := 3) hx hb dX5_oneStep_87 (by decide) ?_
    refine lv_goto (tgt := 92) hx hb dX5_oneStep_88 (by decide) ?_
    exact j_X5_oneStep_92 C0 a K (va_up mI 2 k0, mA, mL) v2 3 H locs ls hP hD hS (lv_sub hl [1] rfl) hf
set_option maxHeartbeats 4000000 in
set_option maxRecDepth 100000 in
theorem j_X5_oneStep_43 {p : Program} {l : Launch} {e : Env} {s : State} {m : MethodId} {args : Array Value} {below : List Frame} {meth : Method} {c : Code} {dC : Nat → ClassId} {dI : Nat → Nat → Nat} {y : Nat → ClassId} {A : Nat → Prop} (C0 : Cx p s m args meth c cX5_oneStep 3 (some .int) wsX5_oneStep RX5 A dC dI y) (a : Nat → Nat) (K : Int32 → ModelS → Prop) : ∀ (S : ModelS) (k0 : Int32) (H : Heap) (locs : List Loc) (ls : Array Slot), va_P (dC, dI) vwCl (mdW y a S) H → va_D A (mdW y a S) → va_S A s.heap H locs → lv_has ls 3 [(0, .ref (a 0))] → wp_X5_oneStep_43 K S k0 → W p l e ({ frames := 7, cells := 0, slots := 0, locals := 169 } : Room) s m args below meth c H locs 0 0 (MQ below (va_Qi K (BW dC dI A (fun u => mdW y a u)) A) args s 0 0 A) (F0 m 43 ls [.int k0]) := by
  obtain ⟨hx, hb, hr, hml, hown, hts, hlocks, hA, hK⟩ := id C0
  have w178 := hts (Cond.fieldLink RX5 178 "SharedWireModel" "wire" "I") (List.mem_of_getElem? (i := 1) rfl)
  have w181 := hts (Cond.fieldLink RX5 181 "SharedWireModel" "left" "I") (List.mem_of_getElem? (i := 2) rfl)
  have hinX5 : ∀ w ∈ wsX50, w ∈ wsX5_oneStep := fun w h => List.mem_cons_of_mem _ (List.mem_append_right _ (h))
  intro S k0 H locs ls hP hD hS hl hf
  obtain ⟨mI, mA, mL⟩ := S
  unfold wp_X5_oneStep_43 at hf
  refine lv_istore_n (lv' := [(2, .int k0), (0, .ref (a 0))]) hx hb dX5_oneStep_43 rfl hl (by decide) rfl (fun ls hl => ?_)
  refine lv_aload_n hx hb dX5_oneStep_44 rfl (lv_at hl 1 rfl) ?_
  refine lv_dup hx hb dX5_oneStep_45 rfl ?_
  refine va_get (D := (dC, dI)) (ci := 5) (v := .int (mI 2)) (C := RX5) (T := TX5) (N := 35) hx hb hts hinX5 hown hK.1 hP 0 rfl rfl 2 (by decide) w181 (fun _ h9 => h9) rfl dX5_oneStep_46 ?_
  refine lv_iconst (v := 1) hx hb dX5_oneStep_49 (by decide) ?_
  refine lv_isub hx hb dX5_oneStep_50 ?_
  refine mput_2 (v := (mI 2) - 1) hx hb hts hinX5 hown hK.1 hP hD hS w181 dX5_oneStep_51 (fun H locs hP hD hS => ?_)
  refine lv_aload_n hx hb dX5_oneStep_54 rfl (lv_at hl 1 rfl) ?_
  refine va_get (D := (dC, dI)) (ci := 5) (v := .int ((mI 2) - 1)) (C := RX5) (T := TX5) (N := 35) hx hb hts hinX5 hown hK.1 hP 0 rfl rfl 2 (by decide) w181 (fun _ h9 => h9) rfl dX5_oneStep_55 ?_
  refine lv_if_ne (tgt := 95) hx hb dX5_oneStep_58 (by decide) (fun c6 => ?_) (fun c6 => ?_)
  · replace hf := hf.1 c6
    exact j_X5_oneStep_95 C0 a K (va_up mI 2 ((mI 2) - 1), mA, mL) k0 H locs ls hP hD hS (lv_sub hl [0] rfl) hf
  · replace hf := hf.2 c6
    refine lv_aload_n hx hb dX5_oneStep_61 rfl (lv_at hl 1 rfl) ?_
    refine lv_aload_n hx hb dX5_oneStep_62 rfl (lv_at hl 1 rfl) ?_
    refine va_get (D := (dC, dI)) (ci := 5) (v := .int (mI 1)) (C := RX5) (T := TX5) (N := 35) hx hb hts hinX5 hown hK.1 hP 0 rfl rfl 1 (by decide) w178 (fun _ h9 => h9) rfl dX5_oneStep_63 ?_
    refine lv_iconst (v := 2) hx hb dX5_oneStep_66 (by decide) ?_
    refine lv_icmp_ne (tgt := 74) hx hb dX5_oneStep_67 (by decide) (fun c7 => ?_) (fun c7 => ?_)
    · replace hf := hf.1 c7
      refine lv_iconst (v := 0) hx hb dX5_oneStep_74 (by decide) ?_
      exact j_X5_oneStep_75 C0 a K (va_up mI 2 ((mI 2) - 1), mA, mL) k0 0 H locs ls hP hD hS (lv_sub hl [1, 0] rfl) hf
    · replace hf := hf.2 c7
      refine lv_iconst (v := 3) hx hb dX5_oneStep_70 (by decide) ?_
      refine lv_goto (tgt := 75) hx hb dX5_oneStep_71 (by decide) ?_
      exact j_X5_oneStep_75 C0 a K (va_up mI 2 ((mI 2) - 1), mA, mL) k0 3 H locs ls hP hD hS (lv_sub hl [1, 0] rfl) hf
set_option maxHeartbeats 4000000 in
set_option maxRecDepth 100000 in
theorem j_X5_oneStep_42 {p : Program} {l : Launch} {e : Env} {s : State} {m : MethodId} {args : Array Value} {below : List Frame} {meth : Method} {c : Code} {dC : Nat → ClassId} {dI : Nat → Nat → Nat} {y : Nat → ClassId} {A : Nat → Prop} (C0 : Cx p s m args meth c cX5_oneStep 3 (some .int) wsX5_oneStep RX5 A dC dI y) (a : Nat → Nat) (K : Int32 → ModelS → Prop) : ∀ (S : ModelS) (H : Heap) (locs : List Loc) (ls : Array Slot), va_P (dC, dI) vwCl (mdW y a S) H → va_D A (mdW y a S) → va_S A s.heap H locs → lv_has ls 3 [(0, .ref (a 0))] → wp_X5_oneStep_42 K S → W p l e ({ frames := 7, cells := 0, slots := 0, locals := 169 } : Room) s m args below meth c H locs 0 0 (MQ below (va_Qi K (BW dC dI A (fun u => mdW y a u)) A) args s 0 0 A) (F0 m 42 ls []) := by
  obtain ⟨hx, hb, hr, hml, hown, hts, hlocks, hA, hK⟩ := id C0
  intro S H locs ls hP hD hS hl hf
  obtain ⟨mI, mA, mL⟩ := S
  unfold wp_X5_oneStep_42 at hf
  refine lv_iconst (v := 1) hx hb dX5_oneStep_42 (by decide) ?_
  exact j_X5_oneStep_43 C0 a K (mI, mA, mL) 1 H locs ls hP hD hS (lv_sub hl [0] rfl) hf
set_option maxHeartbeats 4000000 in
set_option maxRecDepth 100000 in
theorem c_X5_oneStep (l : Launch) (dC : Nat → ClassId) (dI : Nat → Nat → Nat) (y : Nat → ClassId) (a : Nat → Nat) (sz : Nat) (S : ModelS) (p0 : Int32) (K : Int32 → ModelS → Prop) (hf : wp_X5_oneStep S p0 K) : MI l yX5_oneStep wsX5_oneStep { frames := 7, cells := 0, slots := 0, locals := 169 } dC dI y [.ref (a 0), .int p0] (mdW y a S) sz (fun u => mdW y a u) K := by
  refine Met.ofW (cc := cX5_oneStep) (maxL := 3) (ret := (some .int)) (by decide) rfl ?_
  intro p e s m args below meth c s₁ B hml hv
  obtain ⟨rfl, hsz, hP, hK, hD0⟩ := hv
  have hx := B.exec
  have hb := B.bytes
  have hr := B.returns
  have hts := atoms_spec (ws := wsX5_oneStep) B.pre
  have hown : s.vm.findClass RX5 = some m.cls := findClass_of_methodNamed B.named
  have hlocks := B.notSynchronized
  subst hsz
  have hD := hD0.self (sz := s.heap.size)
  generalize hAe : va_A (mdW y a S) s.heap.size = A at hD ⊢
  have hA : ∀ q : Nat, s.heap.size ≤ q → A q := fun q h => by rw [← hAe]; exact Or.inr h
  have hS : va_S A s.heap s.heap [] := va_S.rf
  have C0 : Cx p s m [.ref (a 0), .int p0].toArray meth c cX5_oneStep 3 (some .int) wsX5_oneStep RX5 A dC dI y := ⟨hx, hb, hr, hml, hown, hts, hlocks, hA, hK⟩
  have w178 := hts (Cond.fieldLink RX5 178 "SharedWireModel" "wire" "I") (List.mem_of_getElem? (i := 1) rfl)
  have w181 := hts (Cond.fieldLink RX5 181 "SharedWireModel" "left" "I") (List.mem_of_getElem? (i := 2) rfl)
  have hinX5 : ∀ w ∈ wsX50, w ∈ wsX5_oneStep := fun w h => List.mem_cons_of_mem _ (List.mem_append_right _ (h))
  have hl := lv_entry ([.ref (a 0), .int p0]) (n := 3) (Nat.le_of_ble_eq_true rfl)
  rw [lg_entry_eq]
  generalize (lg_sl ([.ref (a 0), .int p0]) ++ List.replicate (3 - (lg_sl ([.ref (a 0), .int p0])).length) Slot.unset).toArray = ls at hl ⊢
  have hl : lv_has ls 3 [(0, .ref (a 0)), (1, .int p0)] := hl
  obtain ⟨mI, mA, mL⟩ := S
  clear hAe hD0
  generalize hL0 : ([] : List Loc) = locs at hS ⊢
  unfold wp_X5_oneStep at hf
  refine lv_aload_n hx hb dX5_oneStep_0 rfl (lv_at hl 0 rfl) ?_
  refine va_get (D := (dC, dI)) (ci := 5) (v := .int (mI 1)) (C := RX5) (T := TX5) (N := 35) hx hb hts hinX5 hown hK.1 hP 0 rfl rfl 1 (by decide) w178 (fun _ h9 => h9) rfl dX5_oneStep_1 ?_
  refine lv_if_eq (tgt := 15) hx hb dX5_oneStep_4 (by decide) (fun c1 => ?_) (fun c1 => ?_)
  · replace hf := hf.1 c1
    exact j_X5_oneStep_15 C0 a K (mI, mA, mL) p0 s.heap locs ls hP hD hS (lv_sub hl [0, 1] rfl) hf
  · replace hf := hf.2 c1
    refine lv_aload_n hx hb dX5_oneStep_7 rfl (lv_at hl 0 rfl) ?_
    refine va_get (D := (dC, dI)) (ci := 5) (v := .int (mI 1)) (C := RX5) (T := TX5) (N := 35) hx hb hts hinX5 hown hK.1 hP 0 rfl rfl 1 (by decide) w178 (fun _ h9 => h9) rfl dX5_oneStep_8 ?_
    refine lv_iconst (v := 1) hx hb dX5_oneStep_11 (by decide) ?_
    refine lv_icmp_ne (tgt := 21) hx hb dX5_oneStep_12 (by decide) (fun c4 => ?_) (fun c4 => ?_)
    · replace hf := hf.1 c4
      refine lv_aload_n hx hb dX5_oneStep_21 rfl (lv_at hl 0 rfl) ?_
      refine va_get (D := (dC, dI)) (ci := 5) (v := .int (mI 1)) (C := RX5) (T := TX5) (N := 35) hx hb hts hinX5 hown hK.1 hP 0 rfl rfl 1 (by decide) w178 (fun _ h9 => h9) rfl dX5_oneStep_22 ?_
      refine lv_iconst (v := 2) hx hb dX5_oneStep_25 (by decide) ?_
      refine lv_icmp_ne (tgt := 42) hx hb dX5_oneStep_26 (by decide) (fun c5 => ?_) (fun c5 => ?_)
      · replace hf := hf.1 c5
        exact j_X5_oneStep_42 C0 a K (mI, mA, mL) s.heap locs ls hP hD hS (lv_sub hl [0] rfl) hf
      · replace hf := hf.2 c5
        refine lv_aload_n hx hb dX5_oneStep_29 rfl (lv_at hl 0 rfl) ?_
        refine va_get (D := (dC, dI)) (ci := 5) (v := .int (mI 2)) (C := RX5) (T := TX5) (N := 35) hx hb hts hinX5 hown hK.1 hP 0 rfl rfl 2 (by decide) w181 (fun _ h9 => h9) rfl dX5_oneStep_30 ?_
        refine lv_bipush (v := 8) hx hb dX5_oneStep_33 (by decide) ?_
        refine lv_icmp_le (tgt := 42) hx hb dX5_oneStep_35 (by decide) (fun c9 => ?_) (fun c9 => ?_)
        · replace hf := hf.1 c9
          exact j_X5_oneStep_42 C0 a K (mI, mA, mL) s.heap locs ls hP hD hS (lv_sub hl [0] rfl) hf
        · replace hf := hf.2 c9
          refine lv_iconst (v := 0) hx hb dX5_oneStep_38 (by decide) ?_
          refine lv_goto (tgt := 43) hx hb dX5_oneStep_39 (by decide) ?_
          exact j_X5_oneStep_43 C0 a K (mI, mA, mL) 0 s.heap locs ls hP hD hS (lv_sub hl [0] rfl) hf
    · replace hf := hf.2 c4
      exact j_X5_oneStep_15 C0 a K (mI, mA, mL) p0 s.heap locs ls hP hD hS (lv_sub hl [0, 1] rfl) hf

def wp_X5_step_62 (K : Int32 → ModelS → Prop) (C : ModelS → Int32 → Int32 → Int32 → Int32 → Prop) : ModelS → Int32 → Int32 → Int32 → Int32 → Prop := fun (mI, mA, mL) v1 v2 v4 k0 => wp_X5_oneStep (mI, mA, mL) k0 (fun r5 u6 => (∀ n7 : Int32, n7 = v4 + 1 → C (u6.1, u6.2.1, u6.2.2) v1 v2 r5 n7))
def wp_X5_step_45 (K : Int32 → ModelS → Prop) : Nat → ModelS → Int32 → Int32 → Int32 → Int32 → Prop
  | 0, _, _, _, _, _ => False
  | n + 1, (mI, mA, mL), v1, v2, v3, v4 => ((v1 ≤ v4 → K v3 (mI, mA, mL)) ∧ (¬ v1 ≤ v4 → ((¬ v4 = 0 → wp_X5_step_62 K (wp_X5_step_45 K n) (mI, mA, mL) v1 v2 v4 0) ∧ (v4 = 0 → wp_X5_step_62 K (wp_X5_step_45 K n) (mI, mA, mL) v1 v2 v4 v2))))
def wp_X5_step_28 (K : Int32 → ModelS → Prop) : ModelS → Int32 → Int32 → Int32 → Prop := fun (mI, mA, mL) v1 v2 k0 => ((k0 ≤ 0 → wp_X5_step_45 K 1000 (va_up mI 0 k0, mA, mL) v1 v2 1 0) ∧ (¬ k0 ≤ 0 → K 0 (va_up mI 0 k0, mA, mL)))
def wp_X5_step_23 (K : Int32 → ModelS → Prop) : ModelS → Int32 → Int32 → Prop := fun (mI, mA, mL) v1 v2 => wp_X5_step_28 K (mI, mA, mL) v1 v2 1
def wp_X5_step : ModelS → Int32 → Int32 → (Int32 → ModelS → Prop) → Prop := fun (mI, mA, mL) p0 p1 K => ((p0 < 1 → wp_X5_step_23 K (mI, mA, mL) p0 p1) ∧ (¬ p0 < 1 → ((200 < p0 → wp_X5_step_23 K (mI, mA, mL) p0 p1) ∧ (¬ 200 < p0 → ((p1 < 0 → wp_X5_step_23 K (mI, mA, mL) p0 p1) ∧ (¬ p1 < 0 → ((p1 ≤ 15 → wp_X5_step_28 K (mI, mA, mL) p0 p1 0) ∧ (¬ p1 ≤ 15 → wp_X5_step_23 K (mI, mA, mL) p0 p1))))))))
set_option maxHeartbeats 4000000 in
set_option maxRecDepth 100000 in
theorem j_X5_step_62 {p : Program} {l : Launch} {e : Env} {s : State} {m : MethodId} {args : Array Value} {below : List Frame} {meth : Method} {c : Code} {dC : Nat → ClassId} {dI : Nat → Nat → Nat} {y : Nat → ClassId} {A : Nat → Prop} (C0 : Cx p s m args meth c cX5_step 5 (some .int) wsX5_step RX5 A dC dI y) (a : Nat → Nat) (K : Int32 → ModelS → Prop) (C : ModelS → Int32 → Int32 → Int32 → Int32 → Prop) (hC : ∀ (S : ModelS) (v1 : Int32) (v2 : Int32) (v3 : Int32) (v4 : Int32) (H : Heap) (locs : List Loc) (ls : Array Slot), va_P (dC, dI) vwCl (mdW y a S) H → va_D A (mdW y a S) → va_S A s.heap H locs → lv_has ls 5 [(0, .ref (a 0)), (1, .int v1), (2, .int v2), (3, .int v3), (4, .int v4)] → C S v1 v2 v3 v4 → W p l e ({ frames := 8, cells := 0, slots := 0, locals := 191 } : Room) s m args below meth c H locs 0 0 (MQ below (va_Qi K (BW dC dI A (fun u => mdW y a u)) A) args s 0 0 A) (F0 m 45 ls [])) : ∀ (S : ModelS) (v1 : Int32) (v2 : Int32) (v4 : Int32) (k0 : Int32) (H : Heap) (locs : List Loc) (ls : Array Slot), va_P (dC, dI) vwCl (mdW y a S) H → va_D A (mdW y a S) → va_S A s.heap H locs → lv_has ls 5 [(0, .ref (a 0)), (1, .int v1), (2, .int v2), (4, .int v4)] → wp_X5_step_62 K C S v1 v2 v4 k0 → W p l e ({ frames := 8, cells := 0, slots := 0, locals := 191 } : Room) s m args below meth c H locs 0 0 (MQ below (va_Qi K (BW dC dI A (fun u => mdW y a u)) A) args s 0 0 A) (F0 m 62 ls [.int k0, .ref (a 0)]) := by
  obtain ⟨hx, hb, hr, hml, hown, hts, hlocks, hA, hK⟩ := id C0
  intro S v1 v2 v4 k0 H locs ls hP hD hS hl hf
  obtain ⟨mI, mA, mL⟩ := S
  unfold wp_X5_step_62 at hf
  refine k0i (As := [.int k0]) (rest := []) ⟨hx, hb, hml, hown, hts⟩ (c_X5_oneStep l dC dI y a H.size (mI, mA, mL) k0 _ hf) (cwV 1 hts gX5_step_X5_oneStep rfl rfl rfl (by decide +kernel) ⟨Nat.le_of_ble_eq_true rfl, Nat.le_of_ble_eq_true rfl⟩) hK hP hD (va_recv hK.1 hP (ci := 5) (q0 := 0) rfl rfl) hS hA rfl hl.1 rfl (Nat.le_of_ble_eq_true rfl) dX5_step_62 ⟨Nat.zero_le _, Nat.zero_le _⟩ (fun r5 u6 H locs hf hP hD hS => ?_)
  have hP : va_P (dC, dI) vwCl (mdW y a (u6.1, u6.2.1, u6.2.2)) H := hP
  have hD : va_D A (mdW y a (u6.1, u6.2.1, u6.2.2)) := hD
  refine lv_istore_n (lv' := [(3, .int r5), (0, .ref (a 0)), (1, .int v1), (2, .int v2), (4, .int v4)]) hx hb dX5_step_65 rfl hl (by decide) rfl (fun ls hl => ?_)
  obtain ⟨n7, en7⟩ : ∃ z : Int32, z = v4 + 1 := ⟨_, rfl⟩
  replace hf := hf n7 en7
  refine lv_iinc (v := n7) (lv' := [(4, .int n7), (3, .int r5), (0, .ref (a 0)), (1, .int v1), (2, .int v2)]) hx hb dX5_step_66 hl (k := 4) rfl (by rw [en7]; rfl) (by decide) rfl (fun ls hl => ?_)
  refine lv_goto (tgt := 45) hx hb dX5_step_69 (by decide) ?_
  exact hC (u6.1, u6.2.1, u6.2.2) v1 v2 r5 n7 H locs ls hP hD hS (lv_sub hl [2, 3, 4, 1, 0] rfl) hf
set_option maxHeartbeats 4000000 in
set_option maxRecDepth 100000 in
theorem j_X5_step_45 {p : Program} {l : Launch} {e : Env} {s : State} {m : MethodId} {args : Array Value} {below : List Frame} {meth : Method} {c : Code} {dC : Nat → ClassId} {dI : Nat → Nat → Nat} {y : Nat → ClassId} {A : Nat → Prop} (C0 : Cx p s m args meth c cX5_step 5 (some .int) wsX5_step RX5 A dC dI y) (a : Nat → Nat) (K : Int32 → ModelS → Prop) : ∀ n : Nat, ∀ (S : ModelS) (v1 : Int32) (v2 : Int32) (v3 : Int32) (v4 : Int32) (H : Heap) (locs : List Loc) (ls : Array Slot), va_P (dC, dI) vwCl (mdW y a S) H → va_D A (mdW y a S) → va_S A s.heap H locs → lv_has ls 5 [(0, .ref (a 0)), (1, .int v1), (2, .int v2), (3, .int v3), (4, .int v4)] → wp_X5_step_45 K n S v1 v2 v3 v4 → W p l e ({ frames := 8, cells := 0, slots := 0, locals := 191 } : Room) s m args below meth c H locs 0 0 (MQ below (va_Qi K (BW dC dI A (fun u => mdW y a u)) A) args s 0 0 A) (F0 m 45 ls []) := by
  obtain ⟨hx, hb, hr, hml, hown, hts, hlocks, hA, hK⟩ := id C0
  intro n
  induction n with
  | zero =>
    intro S v1 v2 v3 v4 H locs ls hP hD hS hl hf
    exact False.elim (by unfold wp_X5_step_45 at hf; exact hf)
  | succ n ih =>
    intro S v1 v2 v3 v4 H locs ls hP hD hS hl hf
    obtain ⟨mI, mA, mL⟩ := S
    unfold wp_X5_step_45 at hf
    refine lv_iload hx hb dX5_step_45 (lv_at hl 4 rfl) ?_
    refine lv_iload_n hx hb dX5_step_47 rfl (lv_at hl 1 rfl) ?_
    refine lv_icmp_ge (tgt := 72) hx hb dX5_step_48 (by decide) (fun c3 => ?_) (fun c3 => ?_)
    · replace hf := hf.1 c3
      refine lv_iload_n hx hb dX5_step_72 rfl (lv_at hl 3 rfl) ?_
      exact W.iret (v := v3) hx hb hr (fun t ht hW => ⟨⟨v3, (mI, mA, mL), rfl, hf, by rw [ht]; exact hP, hD⟩, hS.F ht⟩) hS.2.2 dX5_step_73
    · replace hf := hf.2 c3
      refine lv_aload_n hx hb dX5_step_51 rfl (lv_at hl 0 rfl) ?_
      refine lv_iload hx hb dX5_step_52 (lv_at hl 4 rfl) ?_
      refine lv_if_ne (tgt := 61) hx hb dX5_step_54 (by decide) (fun c4 => ?_) (fun c4 => ?_)
      · replace hf := hf.1 c4
        refine lv_iconst (v := 0) hx hb dX5_step_61 (by decide) ?_
        exact j_X5_step_62 C0 a K (wp_X5_step_45 K n) ih (mI, mA, mL) v1 v2 v4 0 H locs ls hP hD hS (lv_sub hl [0, 1, 2, 4] rfl) hf
      · replace hf := hf.2 c4
        refine lv_iload_n hx hb dX5_step_57 rfl (lv_at hl 2 rfl) ?_
        refine lv_goto (tgt := 62) hx hb dX5_step_58 (by decide) ?_
        exact j_X5_step_62 C0 a K (wp_X5_step_45 K n) ih (mI, mA, mL) v1 v2 v4 v2 H locs ls hP hD hS (lv_sub hl [0, 1, 2, 4] rfl) hf
set_option maxHeartbeats 4000000 in
set_option maxRecDepth 100000 in
theorem j_X5_step_28 {p : Program} {l : Launch} {e : Env} {s : State} {m : MethodId} {args : Array Value} {below : List Frame} {meth : Method} {c : Code} {dC : Nat → ClassId} {dI : Nat → Nat → Nat} {y : Nat → ClassId} {A : Nat → Prop} (C0 : Cx p s m args meth c cX5_step 5 (some .int) wsX5_step RX5 A dC dI y) (a : Nat → Nat) (K : Int32 → ModelS → Prop) : ∀ (S : ModelS) (v1 : Int32) (v2 : Int32) (k0 : Int32) (H : Heap) (locs : List Loc) (ls : Array Slot), va_P (dC, dI) vwCl (mdW y a S) H → va_D A (mdW y a S) → va_S A s.heap H locs → lv_has ls 5 [(0, .ref (a 0)), (1, .int v1), (2, .int v2)] → wp_X5_step_28 K S v1 v2 k0 → W p l e ({ frames := 8, cells := 0, slots := 0, locals := 191 } : Room) s m args below meth c H locs 0 0 (MQ below (va_Qi K (BW dC dI A (fun u => mdW y a u)) A) args s 0 0 A) (F0 m 28 ls [.int k0, .ref (a 0)]) := by
  obtain ⟨hx, hb, hr, hml, hown, hts, hlocks, hA, hK⟩ := id C0
  have w99 := hts (Cond.fieldLink RX5 99 "SharedWireModel" "thrown" "I") (List.mem_of_getElem? (i := 1) rfl)
  have hinX5 : ∀ w ∈ wsX50, w ∈ wsX5_step := fun w h => List.mem_cons_of_mem _ (List.mem_append_right _ (h))
  intro S v1 v2 k0 H locs ls hP hD hS hl hf
  obtain ⟨mI, mA, mL⟩ := S
  unfold wp_X5_step_28 at hf
  refine mput_0 (v := k0) hx hb hts hinX5 hown hK.1 hP hD hS w99 dX5_step_28 (fun H locs hP hD hS => ?_)
  refine lv_aload_n hx hb dX5_step_31 rfl (lv_at hl 0 rfl) ?_
  refine va_get (D := (dC, dI)) (ci := 5) (v := .int k0) (C := RX5) (T := TX5) (N := 35) hx hb hts hinX5 hown hK.1 hP 0 rfl rfl 0 (by decide) w99 (fun _ h9 => h9) rfl dX5_step_32 ?_
  refine lv_if_le (tgt := 40) hx hb dX5_step_35 (by decide) (fun c2 => ?_) (fun c2 => ?_)
  · replace hf := hf.1 c2
    refine lv_iconst (v := 1) hx hb dX5_step_40 (by decide) ?_
    refine lv_istore_n (lv' := [(3, .int 1), (0, .ref (a 0)), (1, .int v1), (2, .int v2)]) hx hb dX5_step_41 rfl hl (by decide) rfl (fun ls hl => ?_)
    refine lv_iconst (v := 0) hx hb dX5_step_42 (by decide) ?_
    refine lv_istore (lv' := [(4, .int 0), (3, .int 1), (0, .ref (a 0)), (1, .int v1), (2, .int v2)]) hx hb dX5_step_43 hl (by decide) rfl (fun ls hl => ?_)
    exact j_X5_step_45 C0 a K 1000 (va_up mI 0 k0, mA, mL) v1 v2 1 0 H locs ls hP hD hS (lv_sub hl [2, 3, 4, 1, 0] rfl) hf
  · replace hf := hf.2 c2
    refine lv_iconst (v := 0) hx hb dX5_step_38 (by decide) ?_
    exact W.iret (v := 0) hx hb hr (fun t ht hW => ⟨⟨0, (va_up mI 0 k0, mA, mL), rfl, hf, by rw [ht]; exact hP, hD⟩, hS.F ht⟩) hS.2.2 dX5_step_39
set_option maxHeartbeats 4000000 in
set_option maxRecDepth 100000 in
theorem j_X5_step_23 {p : Program} {l : Launch} {e : Env} {s : State} {m : MethodId} {args : Array Value} {below : List Frame} {meth : Method} {c : Code} {dC : Nat → ClassId} {dI : Nat → Nat → Nat} {y : Nat → ClassId} {A : Nat → Prop} (C0 : Cx p s m args meth c cX5_step 5 (some .int) wsX5_step RX5 A dC dI y) (a : Nat → Nat) (K : Int32 → ModelS → Prop) : ∀ (S : ModelS) (v1 : Int32) (v2 : Int32) (H : Heap) (locs : List Loc) (ls : Array Slot), va_P (dC, dI) vwCl (mdW y a S) H → va_D A (mdW y a S) → va_S A s.heap H locs → lv_has ls 5 [(0, .ref (a 0)), (1, .int v1), (2, .int v2)] → wp_X5_step_23 K S v1 v2 → W p l e ({ frames := 8, cells := 0, slots := 0, locals := 191 } : Room) s m args below meth c H locs 0 0 (MQ below (va_Qi K (BW dC dI A (fun u => mdW y a u)) A) args s 0 0 A) (F0 m 23 ls [.ref (a 0)]) := by
  obtain ⟨hx, hb, hr, hml, hown, hts, hlocks, hA, hK⟩ := id C0
  intro S v1 v2 H locs ls hP hD hS hl hf
  obtain ⟨mI, mA, mL⟩ := S
  unfold wp_X5_step_23 at hf
  refine lv_iconst (v := 1) hx hb dX5_step_23 (by decide) ?_
  refine lv_goto (tgt := 28) hx hb dX5_step_24 (by decide) ?_
  exact j_X5_step_28 C0 a K (mI, mA, mL) v1 v2 1 H locs ls hP hD hS (lv_sub hl [0, 1, 2] rfl) hf
set_option maxHeartbeats 4000000 in
set_option maxRecDepth 100000 in
theorem c_X5_step (l : Launch) (dC : Nat → ClassId) (dI : Nat → Nat → Nat) (y : Nat → ClassId) (a : Nat → Nat) (sz : Nat) (S : ModelS) (p0 : Int32) (p1 : Int32) (K : Int32 → ModelS → Prop) (hf : wp_X5_step S p0 p1 K) : MI l yX5_step wsX5_step { frames := 8, cells := 0, slots := 0, locals := 191 } dC dI y [.ref (a 0), .int p0, .int p1] (mdW y a S) sz (fun u => mdW y a u) K := by
  refine Met.ofW (cc := cX5_step) (maxL := 5) (ret := (some .int)) (by decide) rfl ?_
  intro p e s m args below meth c s₁ B hml hv
  obtain ⟨rfl, hsz, hP, hK, hD0⟩ := hv
  have hx := B.exec
  have hb := B.bytes
  have hr := B.returns
  have hts := atoms_spec (ws := wsX5_step) B.pre
  have hown : s.vm.findClass RX5 = some m.cls := findClass_of_methodNamed B.named
  have hlocks := B.notSynchronized
  subst hsz
  have hD := hD0.self (sz := s.heap.size)
  generalize hAe : va_A (mdW y a S) s.heap.size = A at hD ⊢
  have hA : ∀ q : Nat, s.heap.size ≤ q → A q := fun q h => by rw [← hAe]; exact Or.inr h
  have hS : va_S A s.heap s.heap [] := va_S.rf
  have C0 : Cx p s m [.ref (a 0), .int p0, .int p1].toArray meth c cX5_step 5 (some .int) wsX5_step RX5 A dC dI y := ⟨hx, hb, hr, hml, hown, hts, hlocks, hA, hK⟩
  have hl := lv_entry ([.ref (a 0), .int p0, .int p1]) (n := 5) (Nat.le_of_ble_eq_true rfl)
  rw [lg_entry_eq]
  generalize (lg_sl ([.ref (a 0), .int p0, .int p1]) ++ List.replicate (5 - (lg_sl ([.ref (a 0), .int p0, .int p1])).length) Slot.unset).toArray = ls at hl ⊢
  have hl : lv_has ls 5 [(0, .ref (a 0)), (1, .int p0), (2, .int p1)] := hl
  obtain ⟨mI, mA, mL⟩ := S
  clear hAe hD0
  generalize hL0 : ([] : List Loc) = locs at hS ⊢
  unfold wp_X5_step at hf
  refine lv_aload_n hx hb dX5_step_0 rfl (lv_at hl 0 rfl) ?_
  refine lv_iload_n hx hb dX5_step_1 rfl (lv_at hl 1 rfl) ?_
  refine lv_iconst (v := 1) hx hb dX5_step_2 (by decide) ?_
  refine lv_icmp_lt (tgt := 23) hx hb dX5_step_3 (by decide) (fun c1 => ?_) (fun c1 => ?_)
  · replace hf := hf.1 c1
    exact j_X5_step_23 C0 a K (mI, mA, mL) p0 p1 s.heap locs ls hP hD hS (lv_sub hl [0, 1, 2] rfl) hf
  · replace hf := hf.2 c1
    refine lv_iload_n hx hb dX5_step_6 rfl (lv_at hl 1 rfl) ?_
    refine lv_sipush (v := 200) hx hb dX5_step_7 (by decide) ?_
    refine lv_icmp_gt (tgt := 23) hx hb dX5_step_10 (by decide) (fun c8 => ?_) (fun c8 => ?_)
    · replace hf := hf.1 c8
      exact j_X5_step_23 C0 a K (mI, mA, mL) p0 p1 s.heap locs ls hP hD hS (lv_sub hl [0, 1, 2] rfl) hf
    · replace hf := hf.2 c8
      refine lv_iload_n hx hb dX5_step_13 rfl (lv_at hl 2 rfl) ?_
      refine lv_if_lt (tgt := 23) hx hb dX5_step_14 (by decide) (fun c9 => ?_) (fun c9 => ?_)
      · replace hf := hf.1 c9
        exact j_X5_step_23 C0 a K (mI, mA, mL) p0 p1 s.heap locs ls hP hD hS (lv_sub hl [0, 1, 2] rfl) hf
      · replace hf := hf.2 c9
        refine lv_iload_n hx hb dX5_step_17 rfl (lv_at hl 2 rfl) ?_
        refine lv_bipush (v := 15) hx hb dX5_step_18 (by decide) ?_
        refine lv_icmp_le (tgt := 27) hx hb dX5_step_20 (by decide) (fun c10 => ?_) (fun c10 => ?_)
        · replace hf := hf.1 c10
          refine lv_iconst (v := 0) hx hb dX5_step_27 (by decide) ?_
          exact j_X5_step_28 C0 a K (mI, mA, mL) p0 p1 0 s.heap locs ls hP hD hS (lv_sub hl [0, 1, 2] rfl) hf
        · replace hf := hf.2 c10
          exact j_X5_step_23 C0 a K (mI, mA, mL) p0 p1 s.heap locs ls hP hD hS (lv_sub hl [0, 1, 2] rfl) hf

def wp_X5_join_32 (K : Int32 → ModelS → Prop) : ModelS → Prop := fun (mI, mA, mL) => K 0 (mI, mA, mL)
def wp_X5_join_55 (K : Int32 → ModelS → Prop) : ModelS → Prop := fun (mI, mA, mL) => K 1 (mI, mA, mL)
def wp_X5_join_13 (K : Int32 → ModelS → Prop) : ModelS → Int32 → Int32 → Prop := fun (mI, mA, mL) v1 k0 => ((0 < k0 → wp_X5_join_32 K (va_up mI 0 k0, mA, mL)) ∧ (¬ 0 < k0 → (vp_in v1 4 ∧ (((mA 3) v1.toNatClampNeg = 0 → (vp_in v1 4 ∧ (vp_in v1 4 ∧ (vp_in v1 4 ∧ wp_X5_join_55 K (va_up mI 0 k0, va_up (va_up (va_up mA 3 (upd (mA 3) v1.toNatClampNeg 1)) 4 (upd (mA 4) v1.toNatClampNeg 0)) 5 (upd (mA 5) v1.toNatClampNeg 0), mL))))) ∧ (¬ (mA 3) v1.toNatClampNeg = 0 → wp_X5_join_32 K (va_up mI 0 k0, mA, mL))))))
def wp_X5_join : ModelS → Int32 → (Int32 → ModelS → Prop) → Prop := fun (mI, mA, mL) p0 K => wp_X5_isNode p0 (fun r1 => ((r1 = 0 → wp_X5_join_13 K (mI, mA, mL) p0 1) ∧ (¬ r1 = 0 → wp_X5_join_13 K (mI, mA, mL) p0 0)))
set_option maxHeartbeats 4000000 in
set_option maxRecDepth 100000 in
theorem j_X5_join_32 {p : Program} {l : Launch} {e : Env} {s : State} {m : MethodId} {args : Array Value} {below : List Frame} {meth : Method} {c : Code} {dC : Nat → ClassId} {dI : Nat → Nat → Nat} {y : Nat → ClassId} {A : Nat → Prop} (C0 : Cx p s m args meth c cX5_join 2 (some .boolean) wsX5_join RX5 A dC dI y) (a : Nat → Nat) (K : Int32 → ModelS → Prop) : ∀ (S : ModelS) (H : Heap) (locs : List Loc) (ls : Array Slot), va_P (dC, dI) vwCl (mdW y a S) H → va_D A (mdW y a S) → va_S A s.heap H locs → lv_has ls 2 [] → wp_X5_join_32 K S → W p l e ({ frames := 1, cells := 0, slots := 0, locals := 20 } : Room) s m args below meth c H locs 0 0 (MQ below (va_Qi K (BW dC dI A (fun u => mdW y a u)) A) args s 0 0 A) (F0 m 32 ls []) := by
  obtain ⟨hx, hb, hr, hml, hown, hts, hlocks, hA, hK⟩ := id C0
  intro S H locs ls hP hD hS hl hf
  obtain ⟨mI, mA, mL⟩ := S
  unfold wp_X5_join_32 at hf
  refine lv_iconst (v := 0) hx hb dX5_join_32 (by decide) ?_
  exact W.zret (v := 0) (ty := .boolean) hx hb hr rfl (fun t ht hW => ⟨⟨0, (mI, mA, mL), rfl, hf, by rw [ht]; exact hP, hD⟩, hS.F ht⟩) hS.2.2 dX5_join_33
set_option maxHeartbeats 4000000 in
set_option maxRecDepth 100000 in
theorem j_X5_join_55 {p : Program} {l : Launch} {e : Env} {s : State} {m : MethodId} {args : Array Value} {below : List Frame} {meth : Method} {c : Code} {dC : Nat → ClassId} {dI : Nat → Nat → Nat} {y : Nat → ClassId} {A : Nat → Prop} (C0 : Cx p s m args meth c cX5_join 2 (some .boolean) wsX5_join RX5 A dC dI y) (a : Nat → Nat) (K : Int32 → ModelS → Prop) : ∀ (S : ModelS) (H : Heap) (locs : List Loc) (ls : Array Slot), va_P (dC, dI) vwCl (mdW y a S) H → va_D A (mdW y a S) → va_S A s.heap H locs → lv_has ls 2 [] → wp_X5_join_55 K S → W p l e ({ frames := 1, cells := 0, slots := 0, locals := 20 } : Room) s m args below meth c H locs 0 0 (MQ below (va_Qi K (BW dC dI A (fun u => mdW y a u)) A) args s 0 0 A) (F0 m 55 ls []) := by
  obtain ⟨hx, hb, hr, hml, hown, hts, hlocks, hA, hK⟩ := id C0
  intro S H locs ls hP hD hS hl hf
  obtain ⟨mI, mA, mL⟩ := S
  unfold wp_X5_join_55 at hf
  refine lv_iconst (v := 1) hx hb dX5_join_55 (by decide) ?_
  exact W.zret (v := 1) (ty := .boolean) hx hb hr rfl (fun t ht hW => ⟨⟨1, (mI, mA, mL), rfl, hf, by rw [ht]; exact hP, hD⟩, hS.F ht⟩) hS.2.2 dX5_join_56
set_option maxHeartbeats 4000000 in
set_option maxRecDepth 100000 in
theorem j_X5_join_13 {p : Program} {l : Launch} {e : Env} {s : State} {m : MethodId} {args : Array Value} {below : List Frame} {meth : Method} {c : Code} {dC : Nat → ClassId} {dI : Nat → Nat → Nat} {y : Nat → ClassId} {A : Nat → Prop} (C0 : Cx p s m args meth c cX5_join 2 (some .boolean) wsX5_join RX5 A dC dI y) (a : Nat → Nat) (K : Int32 → ModelS → Prop) : ∀ (S : ModelS) (v1 : Int32) (k0 : Int32) (H : Heap) (locs : List Loc) (ls : Array Slot), va_P (dC, dI) vwCl (mdW y a S) H → va_D A (mdW y a S) → va_S A s.heap H locs → lv_has ls 2 [(0, .ref (a 0)), (1, .int v1)] → wp_X5_join_13 K S v1 k0 → W p l e ({ frames := 1, cells := 0, slots := 0, locals := 20 } : Room) s m args below meth c H locs 0 0 (MQ below (va_Qi K (BW dC dI A (fun u => mdW y a u)) A) args s 0 0 A) (F0 m 13 ls [.int k0, .ref (a 0)]) := by
  obtain ⟨hx, hb, hr, hml, hown, hts, hlocks, hA, hK⟩ := id C0
  have w9 := hts (.fieldLink RX5 9 "SharedWireModel" "state" "[I") (List.mem_of_getElem? (i := 2) rfl)
  have w13 := hts (.fieldLink RX5 13 "SharedWireModel" "sending" "[I") (List.mem_of_getElem? (i := 3) rfl)
  have w16 := hts (.fieldLink RX5 16 "SharedWireModel" "receiving" "[I") (List.mem_of_getElem? (i := 4) rfl)
  have w99 := hts (.fieldLink RX5 99 "SharedWireModel" "thrown" "I") (List.mem_of_getElem? (i := 1) rfl)
  have hinX5 : ∀ w ∈ wsX50, w ∈ wsX5_join := fun w h => List.mem_cons_of_mem _ (List.mem_append_right _ (h))
  intro S v1 k0 H locs ls hP hD hS hl hf
  obtain ⟨mI, mA, mL⟩ := S
  unfold wp_X5_join_13 at hf
  refine mput_0 (v := k0) hx hb hts hinX5 hown hK.1 hP hD hS w99 dX5_join_13 (fun H locs hP hD hS => ?_)
  refine lv_aload_n hx hb dX5_join_16 rfl (lv_at hl 0 rfl) ?_
  refine va_get (D := (dC, dI)) (ci := 5) (v := .int k0) (C := RX5) (T := TX5) (N := 35) hx hb hts hinX5 hown hK.1 hP 0 rfl rfl 0 (by decide) w99 (fun _ h9 => h9) rfl dX5_join_17 ?_
  refine lv_if_gt (tgt := 32) hx hb dX5_join_20 (by decide) (fun c3 => ?_) (fun c3 => ?_)
  · replace hf := hf.1 c3
    exact j_X5_join_32 C0 a K (va_up mI 0 k0, mA, mL) H locs ls hP hD hS (lv_sub hl [] rfl) hf
  · replace hf := hf.2 c3
    refine lv_aload_n hx hb dX5_join_23 rfl (lv_at hl 0 rfl) ?_
    refine va_get (D := (dC, dI)) (ci := 5) (v := .ref (a 3)) (C := RX5) (T := TX5) (N := 35) hx hb hts hinX5 hown hK.1 hP 0 rfl rfl 3 (by decide) w9 (fun _ h9 => h9) rfl dX5_join_24 ?_
    refine lv_iload_n hx hb dX5_join_27 rfl (lv_at hl 1 rfl) ?_
    have g4 := hf.1
    replace hf := hf.2
    refine ar_ild (f := (mA 3)) (j := v1.toNatClampNeg) hx hb hK.1 hP 1 0 rfl rfl rfl g4 dX5_join_28 ?_
    refine lv_if_eq (tgt := 34) hx hb dX5_join_29 (by decide) (fun c5 => ?_) (fun c5 => ?_)
    · replace hf := hf.1 c5
      refine lv_aload_n hx hb dX5_join_34 rfl (lv_at hl 0 rfl) ?_
      refine va_get (D := (dC, dI)) (ci := 5) (v := .ref (a 3)) (C := RX5) (T := TX5) (N := 35) hx hb hts hinX5 hown hK.1 hP 0 rfl rfl 3 (by decide) w9 (fun _ h9 => h9) rfl dX5_join_35 ?_
      refine lv_iload_n hx hb dX5_join_38 rfl (lv_at hl 1 rfl) ?_
      refine lv_iconst (v := 1) hx hb dX5_join_39 (by decide) ?_
      have g6 := hf.1
      replace hf := hf.2
      refine mst_3 (f := (mA 3)) (x := 1) (j := v1.toNatClampNeg) hx hb hK.1 hP hD hS rfl rfl g6 dX5_join_40 (fun H locs hP hD hS => ?_)
      refine lv_aload_n hx hb dX5_join_41 rfl (lv_at hl 0 rfl) ?_
      refine va_get (D := (dC, dI)) (ci := 5) (v := .ref (a 4)) (C := RX5) (T := TX5) (N := 35) hx hb hts hinX5 hown hK.1 hP 0 rfl rfl 4 (by decide) w13 (fun _ h9 => h9) rfl dX5_join_42 ?_
      refine lv_iload_n hx hb dX5_join_45 rfl (lv_at hl 1 rfl) ?_
      refine lv_iconst (v := 0) hx hb dX5_join_46 (by decide) ?_
      have g7 := hf.1
      replace hf := hf.2
      refine mst_4 (f := (mA 4)) (x := 0) (j := v1.toNatClampNeg) hx hb hK.1 hP hD hS rfl rfl g7 dX5_join_47 (fun H locs hP hD hS => ?_)
      refine lv_aload_n hx hb dX5_join_48 rfl (lv_at hl 0 rfl) ?_
      refine va_get (D := (dC, dI)) (ci := 5) (v := .ref (a 5)) (C := RX5) (T := TX5) (N := 35) hx hb hts hinX5 hown hK.1 hP 0 rfl rfl 5 (by decide) w16 (fun _ h9 => h9) rfl dX5_join_49 ?_
      refine lv_iload_n hx hb dX5_join_52 rfl (lv_at hl 1 rfl) ?_
      refine lv_iconst (v := 0) hx hb dX5_join_53 (by decide) ?_
      have g8 := hf.1
      replace hf := hf.2
      refine mst_5 (f := (mA 5)) (x := 0) (j := v1.toNatClampNeg) hx hb hK.1 hP hD hS rfl rfl g8 dX5_join_54 (fun H locs hP hD hS => ?_)
      exact j_X5_join_55 C0 a K (va_up mI 0 k0, va_up (va_up (va_up mA 3 (upd (mA 3) v1.toNatClampNeg 1)) 4 (upd (mA 4) v1.toNatClampNeg 0)) 5 (upd (mA 5) v1.toNatClampNeg 0), mL) H locs ls hP hD hS (lv_sub hl [] rfl) hf
    · replace hf := hf.2 c5
      exact j_X5_join_32 C0 a K (va_up mI 0 k0, mA, mL) H locs ls hP hD hS (lv_sub hl [] rfl) hf
set_option maxHeartbeats 4000000 in
set_option maxRecDepth 100000 in
theorem c_X5_join (l : Launch) (dC : Nat → ClassId) (dI : Nat → Nat → Nat) (y : Nat → ClassId) (a : Nat → Nat) (sz : Nat) (S : ModelS) (p0 : Int32) (K : Int32 → ModelS → Prop) (hf : wp_X5_join S p0 K) : MI l yX5_join wsX5_join { frames := 1, cells := 0, slots := 0, locals := 20 } dC dI y [.ref (a 0), .int p0] (mdW y a S) sz (fun u => mdW y a u) K := by
  refine Met.ofW (cc := cX5_join) (maxL := 2) (ret := (some .boolean)) (by decide) rfl ?_
  intro p e s m args below meth c s₁ B hml hv
  obtain ⟨rfl, hsz, hP, hK, hD0⟩ := hv
  have hx := B.exec
  have hb := B.bytes
  have hr := B.returns
  have hts := atoms_spec (ws := wsX5_join) B.pre
  have hown : s.vm.findClass RX5 = some m.cls := findClass_of_methodNamed B.named
  have hlocks := B.notSynchronized
  subst hsz
  have hD := hD0.self (sz := s.heap.size)
  generalize hAe : va_A (mdW y a S) s.heap.size = A at hD ⊢
  have hA : ∀ q : Nat, s.heap.size ≤ q → A q := fun q h => by rw [← hAe]; exact Or.inr h
  have hS : va_S A s.heap s.heap [] := va_S.rf
  have C0 : Cx p s m [.ref (a 0), .int p0].toArray meth c cX5_join 2 (some .boolean) wsX5_join RX5 A dC dI y := ⟨hx, hb, hr, hml, hown, hts, hlocks, hA, hK⟩
  have hl := lv_entry ([.ref (a 0), .int p0]) (n := 2) (Nat.le_of_ble_eq_true rfl)
  rw [lg_entry_eq]
  generalize (lg_sl ([.ref (a 0), .int p0]) ++ List.replicate (2 - (lg_sl ([.ref (a 0), .int p0])).length) Slot.unset).toArray = ls at hl ⊢
  have hl : lv_has ls 2 [(0, .ref (a 0)), (1, .int p0)] := hl
  obtain ⟨mI, mA, mL⟩ := S
  clear hAe hD0
  generalize hL0 : ([] : List Loc) = locs at hS ⊢
  unfold wp_X5_join at hf
  refine lv_aload_n hx hb dX5_join_0 rfl (lv_at hl 0 rfl) ?_
  refine lv_iload_n hx hb dX5_join_1 rfl (lv_at hl 1 rfl) ?_
  refine kSi (As := [.int p0]) (rest := [.ref (a 0)]) ⟨hx, hb, hml, hown, hts⟩ (c_X5_isNode l dC dI y s.heap.size p0 _ hf) (va_cwS 1 hts gX5_join_X5_isNode rfl rfl rfl (by decide +kernel) ⟨Nat.le_of_ble_eq_true rfl, Nat.le_of_ble_eq_true rfl⟩) hK hP hD hS hA rfl hl.1 rfl (Nat.le_of_ble_eq_true rfl) dX5_join_2 ⟨Nat.zero_le _, Nat.zero_le _⟩ (fun r1 H locs hf hP hD hS => ?_)
  refine lv_if_eq (tgt := 12) hx hb dX5_join_5 (by decide) (fun c2 => ?_) (fun c2 => ?_)
  · replace hf := hf.1 c2
    refine lv_iconst (v := 1) hx hb dX5_join_12 (by decide) ?_
    exact j_X5_join_13 C0 a K (mI, mA, mL) p0 1 H locs ls hP hD hS (lv_sub hl [0, 1] rfl) hf
  · replace hf := hf.2 c2
    refine lv_iconst (v := 0) hx hb dX5_join_8 (by decide) ?_
    refine lv_goto (tgt := 13) hx hb dX5_join_9 (by decide) ?_
    exact j_X5_join_13 C0 a K (mI, mA, mL) p0 0 H locs ls hP hD hS (lv_sub hl [0, 1] rfl) hf

def wp_X5_wire : ModelS → (Int32 → ModelS → Prop) → Prop := fun (mI, mA, mL) K => K (mI 1) (va_up mI 0 0, mA, mL)
set_option maxHeartbeats 4000000 in
set_option maxRecDepth 100000 in
theorem c_X5_wire (l : Launch) (dC : Nat → ClassId) (dI : Nat → Nat → Nat) (y : Nat → ClassId) (a : Nat → Nat) (sz : Nat) (S : ModelS) (K : Int32 → ModelS → Prop) (hf : wp_X5_wire S K) : MI l yX5_wire wsX5_wire { frames := 0, cells := 0, slots := 0, locals := 0 } dC dI y [.ref (a 0)] (mdW y a S) sz (fun u => mdW y a u) K := by
  refine Met.ofW (cc := cX5_wire) (maxL := 1) (ret := (some .int)) (by decide) rfl ?_
  intro p e s m args below meth c s₁ B hml hv
  obtain ⟨rfl, hsz, hP, hK, hD0⟩ := hv
  have hx := B.exec
  have hb := B.bytes
  have hr := B.returns
  have hts := atoms_spec (ws := wsX5_wire) B.pre
  have hown : s.vm.findClass RX5 = some m.cls := findClass_of_methodNamed B.named
  have hlocks := B.notSynchronized
  subst hsz
  have hD := hD0.self (sz := s.heap.size)
  generalize hAe : va_A (mdW y a S) s.heap.size = A at hD ⊢
  have hA : ∀ q : Nat, s.heap.size ≤ q → A q := fun q h => by rw [← hAe]; exact Or.inr h
  have hS : va_S A s.heap s.heap [] := va_S.rf
  have C0 : Cx p s m [.ref (a 0)].toArray meth c cX5_wire 1 (some .int) wsX5_wire RX5 A dC dI y := ⟨hx, hb, hr, hml, hown, hts, hlocks, hA, hK⟩
  have w99 := hts (.fieldLink RX5 99 "SharedWireModel" "thrown" "I") (List.mem_of_getElem? (i := 1) rfl)
  have w178 := hts (.fieldLink RX5 178 "SharedWireModel" "wire" "I") (List.mem_of_getElem? (i := 2) rfl)
  have hinX5 : ∀ w ∈ wsX50, w ∈ wsX5_wire := fun w h => List.mem_cons_of_mem _ (List.mem_append_right _ (h))
  have hl := lv_entry ([.ref (a 0)]) (n := 1) (Nat.le_of_ble_eq_true rfl)
  rw [lg_entry_eq]
  generalize (lg_sl ([.ref (a 0)]) ++ List.replicate (1 - (lg_sl ([.ref (a 0)])).length) Slot.unset).toArray = ls at hl ⊢
  have hl : lv_has ls 1 [(0, .ref (a 0))] := hl
  obtain ⟨mI, mA, mL⟩ := S
  clear hAe hD0
  generalize hL0 : ([] : List Loc) = locs at hS ⊢
  unfold wp_X5_wire at hf
  refine lv_aload_n hx hb dX5_wire_0 rfl (lv_at hl 0 rfl) ?_
  refine lv_iconst (v := 0) hx hb dX5_wire_1 (by decide) ?_
  refine mput_0 (v := 0) hx hb hts hinX5 hown hK.1 hP hD hS w99 dX5_wire_2 (fun H locs hP hD hS => ?_)
  refine lv_aload_n hx hb dX5_wire_5 rfl (lv_at hl 0 rfl) ?_
  refine va_get (D := (dC, dI)) (ci := 5) (v := .int (mI 1)) (C := RX5) (T := TX5) (N := 35) hx hb hts hinX5 hown hK.1 hP 0 rfl rfl 1 (by decide) w178 (fun _ h9 => h9) rfl dX5_wire_6 ?_
  exact W.iret (v := mI 1) hx hb hr (fun t ht hW => ⟨⟨mI 1, (va_up mI 0 0, mA, mL), rfl, hf, by rw [ht]; exact hP, hD⟩, hS.F ht⟩) hS.2.2 dX5_wire_9

def wp_X5_node_23 (K : Int32 → ModelS → Prop) : ModelS → Int32 → Int32 → Int32 → Prop := fun (mI, mA, mL) v1 v2 k0 => ((k0 ≤ 0 → ((v2.toInt < 0 ∨ 5 < v2.toInt → (vp_in v1 4 ∧ K ((mA 8) v1.toNatClampNeg) (va_up mI 0 k0, mA, mL))) ∧ (v2.toInt = 0 → (vp_in v1 4 ∧ K ((mA 3) v1.toNatClampNeg) (va_up mI 0 k0, mA, mL))) ∧ (v2.toInt = 1 → (vp_in v1 4 ∧ K ((mA 4) v1.toNatClampNeg) (va_up mI 0 k0, mA, mL))) ∧ (v2.toInt = 2 → (vp_in v1 4 ∧ K ((mA 5) v1.toNatClampNeg) (va_up mI 0 k0, mA, mL))) ∧ (v2.toInt = 3 → (vp_in v1 4 ∧ K ((mA 9) v1.toNatClampNeg) (va_up mI 0 k0, mA, mL))) ∧ (v2.toInt = 4 → (vp_in v1 4 ∧ K ((mA 6) v1.toNatClampNeg) (va_up mI 0 k0, mA, mL))) ∧ (v2.toInt = 5 → (vp_in v1 4 ∧ K ((mA 7) v1.toNatClampNeg) (va_up mI 0 k0, mA, mL))))) ∧ (¬ k0 ≤ 0 → K 0 (va_up mI 0 k0, mA, mL)))
def wp_X5_node_18 (K : Int32 → ModelS → Prop) : ModelS → Int32 → Int32 → Prop := fun (mI, mA, mL) v1 v2 => wp_X5_node_23 K (mI, mA, mL) v1 v2 1
def wp_X5_node : ModelS → Int32 → Int32 → (Int32 → ModelS → Prop) → Prop := fun (mI, mA, mL) p0 p1 K => wp_X5_isNode p0 (fun r1 => ((r1 = 0 → wp_X5_node_18 K (mI, mA, mL) p0 p1) ∧ (¬ r1 = 0 → ((p1 < 0 → wp_X5_node_18 K (mI, mA, mL) p0 p1) ∧ (¬ p1 < 0 → ((p1 ≤ 6 → wp_X5_node_23 K (mI, mA, mL) p0 p1 0) ∧ (¬ p1 ≤ 6 → wp_X5_node_18 K (mI, mA, mL) p0 p1)))))))
set_option maxHeartbeats 4000000 in
set_option maxRecDepth 100000 in
theorem j_X5_node_23 {p : Program} {l : Launch} {e : Env} {s : State} {m : MethodId} {args : Array Value} {below : List Frame} {meth : Method} {c : Code} {dC : Nat → ClassId} {dI : Nat → Nat → Nat} {y : Nat → ClassId} {A : Nat → Prop} (C0 : Cx p s m args meth c cX5_node 3 (some .int) wsX5_node RX5 A dC dI y) (a : Nat → Nat) (K : Int32 → ModelS → Prop) : ∀ (S : ModelS) (v1 : Int32) (v2 : Int32) (k0 : Int32) (H : Heap) (locs : List Loc) (ls : Array Slot), va_P (dC, dI) vwCl (mdW y a S) H → va_D A (mdW y a S) → va_S A s.heap H locs → lv_has ls 3 [(0, .ref (a 0)), (1, .int v1), (2, .int v2)] → wp_X5_node_23 K S v1 v2 k0 → W p l e ({ frames := 1, cells := 0, slots := 0, locals := 20 } : Room) s m args below meth c H locs 0 0 (MQ below (va_Qi K (BW dC dI A (fun u => mdW y a u)) A) args s 0 0 A) (F0 m 23 ls [.int k0, .ref (a 0)]) := by
  obtain ⟨hx, hb, hr, hml, hown, hts, hlocks, hA, hK⟩ := id C0
  have w9 := hts (.fieldLink RX5 9 "SharedWireModel" "state" "[I") (List.mem_of_getElem? (i := 2) rfl)
  have w13 := hts (.fieldLink RX5 13 "SharedWireModel" "sending" "[I") (List.mem_of_getElem? (i := 3) rfl)
  have w16 := hts (.fieldLink RX5 16 "SharedWireModel" "receiving" "[I") (List.mem_of_getElem? (i := 4) rfl)
  have w19 := hts (.fieldLink RX5 19 "SharedWireModel" "sent" "[I") (List.mem_of_getElem? (i := 6) rfl)
  have w22 := hts (.fieldLink RX5 22 "SharedWireModel" "gotten" "[I") (List.mem_of_getElem? (i := 7) rfl)
  have w25 := hts (.fieldLink RX5 25 "SharedWireModel" "lastFault" "[I") (List.mem_of_getElem? (i := 8) rfl)
  have w28 := hts (.fieldLink RX5 28 "SharedWireModel" "wants" "[I") (List.mem_of_getElem? (i := 5) rfl)
  have w99 := hts (.fieldLink RX5 99 "SharedWireModel" "thrown" "I") (List.mem_of_getElem? (i := 1) rfl)
  have hinX5 : ∀ w ∈ wsX50, w ∈ wsX5_node := fun w h => List.mem_cons_of_mem _ (List.mem_append_right _ (h))
  intro S v1 v2 k0 H locs ls hP hD hS hl hf
  obtain ⟨mI, mA, mL⟩ := S
  unfold wp_X5_node_23 at hf
  refine mput_0 (v := k0) hx hb hts hinX5 hown hK.1 hP hD hS w99 dX5_node_23 (fun H locs hP hD hS => ?_)
  refine lv_aload_n hx hb dX5_node_26 rfl (lv_at hl 0 rfl) ?_
  refine va_get (D := (dC, dI)) (ci := 5) (v := .int k0) (C := RX5) (T := TX5) (N := 35) hx hb hts hinX5 hown hK.1 hP 0 rfl rfl 0 (by decide) w99 (fun _ h9 => h9) rfl dX5_node_27 ?_
  refine lv_if_le (tgt := 35) hx hb dX5_node_30 (by decide) (fun c3 => ?_) (fun c3 => ?_)
  · replace hf := hf.1 c3
    refine lv_iload_n hx hb dX5_node_35 rfl (lv_at hl 2 rfl) ?_
    by_cases hsw : v2.toInt < 0 ∨ 5 < v2.toInt
    · refine lv_tableOut (tgt := 118) hx hb dX5_node_36 hsw (by decide) ?_
      replace hf := hf.1 hsw
      refine lv_aload_n hx hb dX5_node_118 rfl (lv_at hl 0 rfl) ?_
      refine va_get (D := (dC, dI)) (ci := 5) (v := .ref (a 8)) (C := RX5) (T := TX5) (N := 35) hx hb hts hinX5 hown hK.1 hP 0 rfl rfl 8 (by decide) w25 (fun _ h9 => h9) rfl dX5_node_119 ?_
      refine lv_iload_n hx hb dX5_node_122 rfl (lv_at hl 1 rfl) ?_
      have g4 := hf.1
      replace hf := hf.2
      refine ar_ild (f := (mA 8)) (j := v1.toNatClampNeg) hx hb hK.1 hP 6 0 rfl rfl rfl g4 dX5_node_123 ?_
      exact W.iret (v := (mA 8) v1.toNatClampNeg) hx hb hr (fun t ht hW => ⟨⟨(mA 8) v1.toNatClampNeg, (va_up mI 0 k0, mA, mL), rfl, hf, by rw [ht]; exact hP, hD⟩, hS.F ht⟩) hS.2.2 dX5_node_124
    · by_cases hs0 : v2.toInt = 0
      · refine lv_tableIn (off := 40) (tgt := 76) hx hb dX5_node_36 (by omega) (by omega) (by rw [hs0]; rfl) (by decide) ?_
        replace hf := hf.2.1 hs0
        refine lv_aload_n hx hb dX5_node_76 rfl (lv_at hl 0 rfl) ?_
        refine va_get (D := (dC, dI)) (ci := 5) (v := .ref (a 3)) (C := RX5) (T := TX5) (N := 35) hx hb hts hinX5 hown hK.1 hP 0 rfl rfl 3 (by decide) w9 (fun _ h9 => h9) rfl dX5_node_77 ?_
        refine lv_iload_n hx hb dX5_node_80 rfl (lv_at hl 1 rfl) ?_
        have g5 := hf.1
        replace hf := hf.2
        refine ar_ild (f := (mA 3)) (j := v1.toNatClampNeg) hx hb hK.1 hP 1 0 rfl rfl rfl g5 dX5_node_81 ?_
        exact W.iret (v := (mA 3) v1.toNatClampNeg) hx hb hr (fun t ht hW => ⟨⟨(mA 3) v1.toNatClampNeg, (va_up mI 0 k0, mA, mL), rfl, hf, by rw [ht]; exact hP, hD⟩, hS.F ht⟩) hS.2.2 dX5_node_82
      by_cases hs1 : v2.toInt = 1
      · refine lv_tableIn (off := 47) (tgt := 83) hx hb dX5_node_36 (by omega) (by omega) (by rw [hs1]; rfl) (by decide) ?_
        replace hf := hf.2.2.1 hs1
        refine lv_aload_n hx hb dX5_node_83 rfl (lv_at hl 0 rfl) ?_
        refine va_get (D := (dC, dI)) (ci := 5) (v := .ref (a 4)) (C := RX5) (T := TX5) (N := 35) hx hb hts hinX5 hown hK.1 hP 0 rfl rfl 4 (by decide) w13 (fun _ h9 => h9) rfl dX5_node_84 ?_
        refine lv_iload_n hx hb dX5_node_87 rfl (lv_at hl 1 rfl) ?_
        have g6 := hf.1
        replace hf := hf.2
        refine ar_ild (f := (mA 4)) (j := v1.toNatClampNeg) hx hb hK.1 hP 2 0 rfl rfl rfl g6 dX5_node_88 ?_
        exact W.iret (v := (mA 4) v1.toNatClampNeg) hx hb hr (fun t ht hW => ⟨⟨(mA 4) v1.toNatClampNeg, (va_up mI 0 k0, mA, mL), rfl, hf, by rw [ht]; exact hP, hD⟩, hS.F ht⟩) hS.2.2 dX5_node_89
      by_cases hs2 : v2.toInt = 2
      · refine lv_tableIn (off := 54) (tgt := 90) hx hb dX5_node_36 (by omega) (by omega) (by rw [hs2]; rfl) (by decide) ?_
        replace hf := hf.2.2.2.1 hs2
        refine lv_aload_n hx hb dX5_node_90 rfl (lv_at hl 0 rfl) ?_
        refine va_get (D := (dC, dI)) (ci := 5) (v := .ref (a 5)) (C := RX5) (T := TX5) (N := 35) hx hb hts hinX5 hown hK.1 hP 0 rfl rfl 5 (by decide) w16 (fun _ h9 => h9) rfl dX5_node_91 ?_
        refine lv_iload_n hx hb dX5_node_94 rfl (lv_at hl 1 rfl) ?_
        have g7 := hf.1
        replace hf := hf.2
        refine ar_ild (f := (mA 5)) (j := v1.toNatClampNeg) hx hb hK.1 hP 3 0 rfl rfl rfl g7 dX5_node_95 ?_
        exact W.iret (v := (mA 5) v1.toNatClampNeg) hx hb hr (fun t ht hW => ⟨⟨(mA 5) v1.toNatClampNeg, (va_up mI 0 k0, mA, mL), rfl, hf, by rw [ht]; exact hP, hD⟩, hS.F ht⟩) hS.2.2 dX5_node_96
      by_cases hs3 : v2.toInt = 3
      · refine lv_tableIn (off := 61) (tgt := 97) hx hb dX5_node_36 (by omega) (by omega) (by rw [hs3]; rfl) (by decide) ?_
        replace hf := hf.2.2.2.2.1 hs3
        refine lv_aload_n hx hb dX5_node_97 rfl (lv_at hl 0 rfl) ?_
        refine va_get (D := (dC, dI)) (ci := 5) (v := .ref (a 9)) (C := RX5) (T := TX5) (N := 35) hx hb hts hinX5 hown hK.1 hP 0 rfl rfl 9 (by decide) w28 (fun _ h9 => h9) rfl dX5_node_98 ?_
        refine lv_iload_n hx hb dX5_node_101 rfl (lv_at hl 1 rfl) ?_
        have g8 := hf.1
        replace hf := hf.2
        refine ar_ild (f := (mA 9)) (j := v1.toNatClampNeg) hx hb hK.1 hP 7 0 rfl rfl rfl g8 dX5_node_102 ?_
        exact W.iret (v := (mA 9) v1.toNatClampNeg) hx hb hr (fun t ht hW => ⟨⟨(mA 9) v1.toNatClampNeg, (va_up mI 0 k0, mA, mL), rfl, hf, by rw [ht]; exact hP, hD⟩, hS.F ht⟩) hS.2.2 dX5_node_103
      by_cases hs4 : v2.toInt = 4
      · refine lv_tableIn (off := 68) (tgt := 104) hx hb dX5_node_36 (by omega) (by omega) (by rw [hs4]; rfl) (by decide) ?_
        replace hf := hf.2.2.2.2.2.1 hs4
        refine lv_aload_n hx hb dX5_node_104 rfl (lv_at hl 0 rfl) ?_
        refine va_get (D := (dC, dI)) (ci := 5) (v := .ref (a 6)) (C := RX5) (T := TX5) (N := 35) hx hb hts hinX5 hown hK.1 hP 0 rfl rfl 6 (by decide) w19 (fun _ h9 => h9) rfl dX5_node_105 ?_
        refine lv_iload_n hx hb dX5_node_108 rfl (lv_at hl 1 rfl) ?_
        have g9 := hf.1
        replace hf := hf.2
        refine ar_ild (f := (mA 6)) (j := v1.toNatClampNeg) hx hb hK.1 hP 4 0 rfl rfl rfl g9 dX5_node_109 ?_
        exact W.iret (v := (mA 6) v1.toNatClampNeg) hx hb hr (fun t ht hW => ⟨⟨(mA 6) v1.toNatClampNeg, (va_up mI 0 k0, mA, mL), rfl, hf, by rw [ht]; exact hP, hD⟩, hS.F ht⟩) hS.2.2 dX5_node_110
      by_cases hs5 : v2.toInt = 5
      · refine lv_tableIn (off := 75) (tgt := 111) hx hb dX5_node_36 (by omega) (by omega) (by rw [hs5]; rfl) (by decide) ?_
        replace hf := hf.2.2.2.2.2.2 hs5
        refine lv_aload_n hx hb dX5_node_111 rfl (lv_at hl 0 rfl) ?_
        refine va_get (D := (dC, dI)) (ci := 5) (v := .ref (a 7)) (C := RX5) (T := TX5) (N := 35) hx hb hts hinX5 hown hK.1 hP 0 rfl rfl 7 (by decide) w22 (fun _ h9 => h9) rfl dX5_node_112 ?_
        refine lv_iload_n hx hb dX5_node_115 rfl (lv_at hl 1 rfl) ?_
        have g10 := hf.1
        replace hf := hf.2
        refine ar_ild (f := (mA 7)) (j := v1.toNatClampNeg) hx hb hK.1 hP 5 0 rfl rfl rfl g10 dX5_node_116 ?_
        exact W.iret (v := (mA 7) v1.toNatClampNeg) hx hb hr (fun t ht hW => ⟨⟨(mA 7) v1.toNatClampNeg, (va_up mI 0 k0, mA, mL), rfl, hf, by rw [ht]; exact hP, hD⟩, hS.F ht⟩) hS.2.2 dX5_node_117
      · exact absurd hsw (by omega)
  · replace hf := hf.2 c3
    refine lv_iconst (v := 0) hx hb dX5_node_33 (by decide) ?_
    exact W.iret (v := 0) hx hb hr (fun t ht hW => ⟨⟨0, (va_up mI 0 k0, mA, mL), rfl, hf, by rw [ht]; exact hP, hD⟩, hS.F ht⟩) hS.2.2 dX5_node_34
set_option maxHeartbeats 4000000 in
set_option maxRecDepth 100000 in
theorem j_X5_node_18 {p : Program} {l : Launch} {e : Env} {s : State} {m : MethodId} {args : Array Value} {below : List Frame} {meth : Method} {c : Code} {dC : Nat → ClassId} {dI : Nat → Nat → Nat} {y : Nat → ClassId} {A : Nat → Prop} (C0 : Cx p s m args meth c cX5_node 3 (some .int) wsX5_node RX5 A dC dI y) (a : Nat → Nat) (K : Int32 → ModelS → Prop) : ∀ (S : ModelS) (v1 : Int32) (v2 : Int32) (H : Heap) (locs : List Loc) (ls : Array Slot), va_P (dC, dI) vwCl (mdW y a S) H → va_D A (mdW y a S) → va_S A s.heap H locs → lv_has ls 3 [(0, .ref (a 0)), (1, .int v1), (2, .int v2)] → wp_X5_node_18 K S v1 v2 → W p l e ({ frames := 1, cells := 0, slots := 0, locals := 20 } : Room) s m args below meth c H locs 0 0 (MQ below (va_Qi K (BW dC dI A (fun u => mdW y a u)) A) args s 0 0 A) (F0 m 18 ls [.ref (a 0)]) := by
  obtain ⟨hx, hb, hr, hml, hown, hts, hlocks, hA, hK⟩ := id C0
  intro S v1 v2 H locs ls hP hD hS hl hf
  obtain ⟨mI, mA, mL⟩ := S
  unfold wp_X5_node_18 at hf
  refine lv_iconst (v := 1) hx hb dX5_node_18 (by decide) ?_
  refine lv_goto (tgt := 23) hx hb dX5_node_19 (by decide) ?_
  exact j_X5_node_23 C0 a K (mI, mA, mL) v1 v2 1 H locs ls hP hD hS (lv_sub hl [0, 1, 2] rfl) hf
set_option maxHeartbeats 4000000 in
set_option maxRecDepth 100000 in
theorem c_X5_node (l : Launch) (dC : Nat → ClassId) (dI : Nat → Nat → Nat) (y : Nat → ClassId) (a : Nat → Nat) (sz : Nat) (S : ModelS) (p0 : Int32) (p1 : Int32) (K : Int32 → ModelS → Prop) (hf : wp_X5_node S p0 p1 K) : MI l yX5_node wsX5_node { frames := 1, cells := 0, slots := 0, locals := 20 } dC dI y [.ref (a 0), .int p0, .int p1] (mdW y a S) sz (fun u => mdW y a u) K := by
  refine Met.ofW (cc := cX5_node) (maxL := 3) (ret := (some .int)) (by decide) rfl ?_
  intro p e s m args below meth c s₁ B hml hv
  obtain ⟨rfl, hsz, hP, hK, hD0⟩ := hv
  have hx := B.exec
  have hb := B.bytes
  have hr := B.returns
  have hts := atoms_spec (ws := wsX5_node) B.pre
  have hown : s.vm.findClass RX5 = some m.cls := findClass_of_methodNamed B.named
  have hlocks := B.notSynchronized
  subst hsz
  have hD := hD0.self (sz := s.heap.size)
  generalize hAe : va_A (mdW y a S) s.heap.size = A at hD ⊢
  have hA : ∀ q : Nat, s.heap.size ≤ q → A q := fun q h => by rw [← hAe]; exact Or.inr h
  have hS : va_S A s.heap s.heap [] := va_S.rf
  have C0 : Cx p s m [.ref (a 0), .int p0, .int p1].toArray meth c cX5_node 3 (some .int) wsX5_node RX5 A dC dI y := ⟨hx, hb, hr, hml, hown, hts, hlocks, hA, hK⟩
  have hl := lv_entry ([.ref (a 0), .int p0, .int p1]) (n := 3) (Nat.le_of_ble_eq_true rfl)
  rw [lg_entry_eq]
  generalize (lg_sl ([.ref (a 0), .int p0, .int p1]) ++ List.replicate (3 - (lg_sl ([.ref (a 0), .int p0, .int p1])).length) Slot.unset).toArray = ls at hl ⊢
  have hl : lv_has ls 3 [(0, .ref (a 0)), (1, .int p0), (2, .int p1)] := hl
  obtain ⟨mI, mA, mL⟩ := S
  clear hAe hD0
  generalize hL0 : ([] : List Loc) = locs at hS ⊢
  unfold wp_X5_node at hf
  refine lv_aload_n hx hb dX5_node_0 rfl (lv_at hl 0 rfl) ?_
  refine lv_iload_n hx hb dX5_node_1 rfl (lv_at hl 1 rfl) ?_
  refine kSi (As := [.int p0]) (rest := [.ref (a 0)]) ⟨hx, hb, hml, hown, hts⟩ (c_X5_isNode l dC dI y s.heap.size p0 _ hf) (va_cwS 1 hts gX5_node_X5_isNode rfl rfl rfl (by decide +kernel) ⟨Nat.le_of_ble_eq_true rfl, Nat.le_of_ble_eq_true rfl⟩) hK hP hD hS hA rfl hl.1 rfl (Nat.le_of_ble_eq_true rfl) dX5_node_2 ⟨Nat.zero_le _, Nat.zero_le _⟩ (fun r1 H locs hf hP hD hS => ?_)
  refine lv_if_eq (tgt := 18) hx hb dX5_node_5 (by decide) (fun c2 => ?_) (fun c2 => ?_)
  · replace hf := hf.1 c2
    exact j_X5_node_18 C0 a K (mI, mA, mL) p0 p1 H locs ls hP hD hS (lv_sub hl [0, 1, 2] rfl) hf
  · replace hf := hf.2 c2
    refine lv_iload_n hx hb dX5_node_8 rfl (lv_at hl 2 rfl) ?_
    refine lv_if_lt (tgt := 18) hx hb dX5_node_9 (by decide) (fun c11 => ?_) (fun c11 => ?_)
    · replace hf := hf.1 c11
      exact j_X5_node_18 C0 a K (mI, mA, mL) p0 p1 H locs ls hP hD hS (lv_sub hl [0, 1, 2] rfl) hf
    · replace hf := hf.2 c11
      refine lv_iload_n hx hb dX5_node_12 rfl (lv_at hl 2 rfl) ?_
      refine lv_bipush (v := 6) hx hb dX5_node_13 (by decide) ?_
      refine lv_icmp_le (tgt := 22) hx hb dX5_node_15 (by decide) (fun c12 => ?_) (fun c12 => ?_)
      · replace hf := hf.1 c12
        refine lv_iconst (v := 0) hx hb dX5_node_22 (by decide) ?_
        exact j_X5_node_23 C0 a K (mI, mA, mL) p0 p1 0 H locs ls hP hD hS (lv_sub hl [0, 1, 2] rfl) hf
      · replace hf := hf.2 c12
        exact j_X5_node_18 C0 a K (mI, mA, mL) p0 p1 H locs ls hP hD hS (lv_sub hl [0, 1, 2] rfl) hf

def wp_X5_received_35 (K : Int64 → ModelS → Prop) : ModelS → Int32 → Int32 → Int32 → Prop := fun (mI, mA, mL) v1 v2 k0 => ((k0 ≤ 0 → ((¬ v2 = 0 → ((¬ v2 = 1 → ((¬ v2 = 2 → (vp_in v1 4 ∧ K ((mL 16) v1.toNatClampNeg) (va_up mI 0 k0, mA, mL))) ∧ (v2 = 2 → (vp_in v1 4 ∧ K (((mA 17) v1.toNatClampNeg).toInt64) (va_up mI 0 k0, mA, mL))))) ∧ (v2 = 1 → (vp_in v1 4 ∧ (((mA 14) v1.toNatClampNeg = 0 → K 0 (va_up mI 0 k0, mA, mL)) ∧ (¬ (mA 14) v1.toNatClampNeg = 0 → K 1 (va_up mI 0 k0, mA, mL))))))) ∧ (v2 = 0 → (vp_in v1 4 ∧ K (((mA 15) v1.toNatClampNeg).toInt64) (va_up mI 0 k0, mA, mL))))) ∧ (¬ k0 ≤ 0 → K 0 (va_up mI 0 k0, mA, mL)))
def wp_X5_received_17 (K : Int64 → ModelS → Prop) : ModelS → Int32 → Int32 → Prop := fun (mI, mA, mL) v1 v2 => wp_X5_received_35 K (mI, mA, mL) v1 v2 1
def wp_X5_received : ModelS → Int32 → Int32 → (Int64 → ModelS → Prop) → Prop := fun (mI, mA, mL) p0 p1 K => wp_X5_isNode p0 (fun r1 => ((r1 = 0 → wp_X5_received_17 K (mI, mA, mL) p0 p1) ∧ (¬ r1 = 0 → ((p1 < 0 → wp_X5_received_17 K (mI, mA, mL) p0 p1) ∧ (¬ p1 < 0 → ((p1 ≤ 3 → (vp_in p0 4 ∧ ((¬ (mA 7) p0.toNatClampNeg = 0 → wp_X5_received_35 K (mI, mA, mL) p0 p1 0) ∧ ((mA 7) p0.toNatClampNeg = 0 → wp_X5_received_35 K (mI, mA, mL) p0 p1 2)))) ∧ (¬ p1 ≤ 3 → wp_X5_received_17 K (mI, mA, mL) p0 p1)))))))
set_option maxHeartbeats 4000000 in
set_option maxRecDepth 100000 in
theorem j_X5_received_35 {p : Program} {l : Launch} {e : Env} {s : State} {m : MethodId} {args : Array Value} {below : List Frame} {meth : Method} {c : Code} {dC : Nat → ClassId} {dI : Nat → Nat → Nat} {y : Nat → ClassId} {A : Nat → Prop} (C0 : Cx p s m args meth c cX5_received 3 (some .long) wsX5_received RX5 A dC dI y) (a : Nat → Nat) (K : Int64 → ModelS → Prop) : ∀ (S : ModelS) (v1 : Int32) (v2 : Int32) (k0 : Int32) (H : Heap) (locs : List Loc) (ls : Array Slot), va_P (dC, dI) vwCl (mdW y a S) H → va_D A (mdW y a S) → va_S A s.heap H locs → lv_has ls 3 [(0, .ref (a 0)), (1, .int v1), (2, .int v2)] → wp_X5_received_35 K S v1 v2 k0 → W p l e ({ frames := 1, cells := 0, slots := 0, locals := 20 } : Room) s m args below meth c H locs 0 0 (MQ below (va_Ql K (BW dC dI A (fun u => mdW y a u)) A) args s 0 0 A) (F0 m 35 ls [.int k0, .ref (a 0)]) := by
  obtain ⟨hx, hb, hr, hml, hown, hts, hlocks, hA, hK⟩ := id C0
  have w45 := hts (.fieldLink RX5 45 "SharedWireModel" "hasLong" "[Z") (List.mem_of_getElem? (i := 4) rfl)
  have w48 := hts (.fieldLink RX5 48 "SharedWireModel" "hasIdentifier" "[I") (List.mem_of_getElem? (i := 3) rfl)
  have w51 := hts (.fieldLink RX5 51 "SharedWireModel" "hasData" "[J") (List.mem_of_getElem? (i := 6) rfl)
  have w54 := hts (.fieldLink RX5 54 "SharedWireModel" "hasBytes" "[I") (List.mem_of_getElem? (i := 5) rfl)
  have w99 := hts (.fieldLink RX5 99 "SharedWireModel" "thrown" "I") (List.mem_of_getElem? (i := 2) rfl)
  have hinX5 : ∀ w ∈ wsX50, w ∈ wsX5_received := fun w h => List.mem_cons_of_mem _ (List.mem_append_right _ (h))
  intro S v1 v2 k0 H locs ls hP hD hS hl hf
  obtain ⟨mI, mA, mL⟩ := S
  unfold wp_X5_received_35 at hf
  refine mput_0 (v := k0) hx hb hts hinX5 hown hK.1 hP hD hS w99 dX5_received_35 (fun H locs hP hD hS => ?_)
  refine lv_aload_n hx hb dX5_received_38 rfl (lv_at hl 0 rfl) ?_
  refine va_get (D := (dC, dI)) (ci := 5) (v := .int k0) (C := RX5) (T := TX5) (N := 35) hx hb hts hinX5 hown hK.1 hP 0 rfl rfl 0 (by decide) w99 (fun _ h9 => h9) rfl dX5_received_39 ?_
  refine lv_if_le (tgt := 47) hx hb dX5_received_42 (by decide) (fun c3 => ?_) (fun c3 => ?_)
  · replace hf := hf.1 c3
    refine lv_iload_n hx hb dX5_received_47 rfl (lv_at hl 2 rfl) ?_
    refine lv_if_ne (tgt := 61) hx hb dX5_received_48 (by decide) (fun c4 => ?_) (fun c4 => ?_)
    · replace hf := hf.1 c4
      refine lv_iload_n hx hb dX5_received_61 rfl (lv_at hl 2 rfl) ?_
      refine lv_iconst (v := 1) hx hb dX5_received_62 (by decide) ?_
      refine lv_icmp_ne (tgt := 83) hx hb dX5_received_63 (by decide) (fun c5 => ?_) (fun c5 => ?_)
      · replace hf := hf.1 c5
        refine lv_iload_n hx hb dX5_received_83 rfl (lv_at hl 2 rfl) ?_
        refine lv_iconst (v := 2) hx hb dX5_received_84 (by decide) ?_
        refine lv_icmp_ne (tgt := 98) hx hb dX5_received_85 (by decide) (fun c6 => ?_) (fun c6 => ?_)
        · replace hf := hf.1 c6
          refine lv_aload_n hx hb dX5_received_98 rfl (lv_at hl 0 rfl) ?_
          refine va_get (D := (dC, dI)) (ci := 5) (v := .ref (a 16)) (C := RX5) (T := TX5) (N := 35) hx hb hts hinX5 hown hK.1 hP 0 rfl rfl 16 (by decide) w51 (fun _ h9 => h9) rfl dX5_received_99 ?_
          refine lv_iload_n hx hb dX5_received_102 rfl (lv_at hl 1 rfl) ?_
          have g7 := hf.1
          replace hf := hf.2
          refine ar_lld (f := (mL 16)) (j := v1.toNatClampNeg) hx hb hK.1 hP 14 1 rfl rfl rfl g7 dX5_received_103 ?_
          exact W.lret (v := (mL 16) v1.toNatClampNeg) hx hb hr (fun t ht hW => ⟨⟨(mL 16) v1.toNatClampNeg, (va_up mI 0 k0, mA, mL), rfl, hf, by rw [ht]; exact hP, hD⟩, hS.F ht⟩) hS.2.2 dX5_received_104
        · replace hf := hf.2 c6
          refine lv_aload_n hx hb dX5_received_88 rfl (lv_at hl 0 rfl) ?_
          refine va_get (D := (dC, dI)) (ci := 5) (v := .ref (a 17)) (C := RX5) (T := TX5) (N := 35) hx hb hts hinX5 hown hK.1 hP 0 rfl rfl 17 (by decide) w54 (fun _ h9 => h9) rfl dX5_received_89 ?_
          refine lv_iload_n hx hb dX5_received_92 rfl (lv_at hl 1 rfl) ?_
          have g8 := hf.1
          replace hf := hf.2
          refine ar_ild (f := (mA 17)) (j := v1.toNatClampNeg) hx hb hK.1 hP 15 0 rfl rfl rfl g8 dX5_received_93 ?_
          refine lv_i2l (v := ((mA 17) v1.toNatClampNeg).toInt64) hx hb dX5_received_94 rfl ?_
          refine lv_goto (tgt := 104) hx hb dX5_received_95 (by decide) ?_
          exact W.lret (v := ((mA 17) v1.toNatClampNeg).toInt64) hx hb hr (fun t ht hW => ⟨⟨((mA 17) v1.toNatClampNeg).toInt64, (va_up mI 0 k0, mA, mL), rfl, hf, by rw [ht]; exact hP, hD⟩, hS.F ht⟩) hS.2.2 dX5_received_104
      · replace hf := hf.2 c5
        refine lv_aload_n hx hb dX5_received_66 rfl (lv_at hl 0 rfl) ?_
        refine va_get (D := (dC, dI)) (ci := 5) (v := .ref (a 14)) (C := RX5) (T := TX5) (N := 35) hx hb hts hinX5 hown hK.1 hP 0 rfl rfl 14 (by decide) w45 (fun _ h9 => h9) rfl dX5_received_67 ?_
        refine lv_iload_n hx hb dX5_received_70 rfl (lv_at hl 1 rfl) ?_
        have g9 := hf.1
        replace hf := hf.2
        refine ar_zld (f := (mA 14)) (j := v1.toNatClampNeg) hx hb hK.1 hP 12 2 rfl rfl rfl g9 dX5_received_71 ?_
        refine lv_if_eq (tgt := 79) hx hb dX5_received_72 (by decide) (fun c10 => ?_) (fun c10 => ?_)
        · replace hf := hf.1 c10
          refine lv_lconst (v := 0) hx hb dX5_received_79 (by decide) ?_
          refine lv_goto (tgt := 104) hx hb dX5_received_80 (by decide) ?_
          exact W.lret (v := 0) hx hb hr (fun t ht hW => ⟨⟨0, (va_up mI 0 k0, mA, mL), rfl, hf, by rw [ht]; exact hP, hD⟩, hS.F ht⟩) hS.2.2 dX5_received_104
        · replace hf := hf.2 c10
          refine lv_lconst (v := 1) hx hb dX5_received_75 (by decide) ?_
          refine lv_goto (tgt := 104) hx hb dX5_received_76 (by decide) ?_
          exact W.lret (v := 1) hx hb hr (fun t ht hW => ⟨⟨1, (va_up mI 0 k0, mA, mL), rfl, hf, by rw [ht]; exact hP, hD⟩, hS.F ht⟩) hS.2.2 dX5_received_104
    · replace hf := hf.2 c4
      refine lv_aload_n hx hb dX5_received_51 rfl (lv_at hl 0 rfl) ?_
      refine va_get (D := (dC, dI)) (ci := 5) (v := .ref (a 15)) (C := RX5) (T := TX5) (N := 35) hx hb hts hinX5 hown hK.1 hP 0 rfl rfl 15 (by decide) w48 (fun _ h9 => h9) rfl dX5_received_52 ?_
      refine lv_iload_n hx hb dX5_received_55 rfl (lv_at hl 1 rfl) ?_
      have g11 := hf.1
      replace hf := hf.2
      refine ar_ild (f := (mA 15)) (j := v1.toNatClampNeg) hx hb hK.1 hP 13 0 rfl rfl rfl g11 dX5_received_56 ?_
      refine lv_i2l (v := ((mA 15) v1.toNatClampNeg).toInt64) hx hb dX5_received_57 rfl ?_
      refine lv_goto (tgt := 104) hx hb dX5_received_58 (by decide) ?_
      exact W.lret (v := ((mA 15) v1.toNatClampNeg).toInt64) hx hb hr (fun t ht hW => ⟨⟨((mA 15) v1.toNatClampNeg).toInt64, (va_up mI 0 k0, mA, mL), rfl, hf, by rw [ht]; exact hP, hD⟩, hS.F ht⟩) hS.2.2 dX5_received_104
  · replace hf := hf.2 c3
    refine lv_lconst (v := 0) hx hb dX5_received_45 (by decide) ?_
    exact W.lret (v := 0) hx hb hr (fun t ht hW => ⟨⟨0, (va_up mI 0 k0, mA, mL), rfl, hf, by rw [ht]; exact hP, hD⟩, hS.F ht⟩) hS.2.2 dX5_received_46
set_option maxHeartbeats 4000000 in
set_option maxRecDepth 100000 in
theorem j_X5_received_17 {p : Program} {l : Launch} {e : Env} {s : State} {m : MethodId} {args : Array Value} {below : List Frame} {meth : Method} {c : Code} {dC : Nat → ClassId} {dI : Nat → Nat → Nat} {y : Nat → ClassId} {A : Nat → Prop} (C0 : Cx p s m args meth c cX5_received 3 (some .long) wsX5_received RX5 A dC dI y) (a : Nat → Nat) (K : Int64 → ModelS → Prop) : ∀ (S : ModelS) (v1 : Int32) (v2 : Int32) (H : Heap) (locs : List Loc) (ls : Array Slot), va_P (dC, dI) vwCl (mdW y a S) H → va_D A (mdW y a S) → va_S A s.heap H locs → lv_has ls 3 [(0, .ref (a 0)), (1, .int v1), (2, .int v2)] → wp_X5_received_17 K S v1 v2 → W p l e ({ frames := 1, cells := 0, slots := 0, locals := 20 } : Room) s m args below meth c H locs 0 0 (MQ below (va_Ql K (BW dC dI A (fun u => mdW y a u)) A) args s 0 0 A) (F0 m 17 ls [.ref (a 0)]) := by
  obtain ⟨hx, hb, hr, hml, hown, hts, hlocks, hA, hK⟩ := id C0
  intro S v1 v2 H locs ls hP hD hS hl hf
  obtain ⟨mI, mA, mL⟩ := S
  unfold wp_X5_received_17 at hf
  refine lv_iconst (v := 1) hx hb dX5_received_17 (by decide) ?_
  refine lv_goto (tgt := 35) hx hb dX5_received_18 (by decide) ?_
  exact j_X5_received_35 C0 a K (mI, mA, mL) v1 v2 1 H locs ls hP hD hS (lv_sub hl [0, 1, 2] rfl) hf
set_option maxHeartbeats 4000000 in
set_option maxRecDepth 100000 in
theorem c_X5_received (l : Launch) (dC : Nat → ClassId) (dI : Nat → Nat → Nat) (y : Nat → ClassId) (a : Nat → Nat) (sz : Nat) (S : ModelS) (p0 : Int32) (p1 : Int32) (K : Int64 → ModelS → Prop) (hf : wp_X5_received S p0 p1 K) : ML l yX5_received wsX5_received { frames := 1, cells := 0, slots := 0, locals := 20 } dC dI y [.ref (a 0), .int p0, .int p1] (mdW y a S) sz (fun u => mdW y a u) K := by
  refine Met.ofW (cc := cX5_received) (maxL := 3) (ret := (some .long)) (by decide) rfl ?_
  intro p e s m args below meth c s₁ B hml hv
  obtain ⟨rfl, hsz, hP, hK, hD0⟩ := hv
  have hx := B.exec
  have hb := B.bytes
  have hr := B.returns
  have hts := atoms_spec (ws := wsX5_received) B.pre
  have hown : s.vm.findClass RX5 = some m.cls := findClass_of_methodNamed B.named
  have hlocks := B.notSynchronized
  subst hsz
  have hD := hD0.self (sz := s.heap.size)
  generalize hAe : va_A (mdW y a S) s.heap.size = A at hD ⊢
  have hA : ∀ q : Nat, s.heap.size ≤ q → A q := fun q h => by rw [← hAe]; exact Or.inr h
  have hS : va_S A s.heap s.heap [] := va_S.rf
  have C0 : Cx p s m [.ref (a 0), .int p0, .int p1].toArray meth c cX5_received 3 (some .long) wsX5_received RX5 A dC dI y := ⟨hx, hb, hr, hml, hown, hts, hlocks, hA, hK⟩
  have w22 := hts (.fieldLink RX5 22 "SharedWireModel" "gotten" "[I") (List.mem_of_getElem? (i := 1) rfl)
  have hinX5 : ∀ w ∈ wsX50, w ∈ wsX5_received := fun w h => List.mem_cons_of_mem _ (List.mem_append_right _ (h))
  have hl := lv_entry ([.ref (a 0), .int p0, .int p1]) (n := 3) (Nat.le_of_ble_eq_true rfl)
  rw [lg_entry_eq]
  generalize (lg_sl ([.ref (a 0), .int p0, .int p1]) ++ List.replicate (3 - (lg_sl ([.ref (a 0), .int p0, .int p1])).length) Slot.unset).toArray = ls at hl ⊢
  have hl : lv_has ls 3 [(0, .ref (a 0)), (1, .int p0), (2, .int p1)] := hl
  obtain ⟨mI, mA, mL⟩ := S
  clear hAe hD0
  generalize hL0 : ([] : List Loc) = locs at hS ⊢
  unfold wp_X5_received at hf
  refine lv_aload_n hx hb dX5_received_0 rfl (lv_at hl 0 rfl) ?_
  refine lv_iload_n hx hb dX5_received_1 rfl (lv_at hl 1 rfl) ?_
  refine kSi (As := [.int p0]) (rest := [.ref (a 0)]) ⟨hx, hb, hml, hown, hts⟩ (c_X5_isNode l dC dI y s.heap.size p0 _ hf) (va_cwS 1 hts gX5_received_X5_isNode rfl rfl rfl (by decide +kernel) ⟨Nat.le_of_ble_eq_true rfl, Nat.le_of_ble_eq_true rfl⟩) hK hP hD hS hA rfl hl.1 rfl (Nat.le_of_ble_eq_true rfl) dX5_received_2 ⟨Nat.zero_le _, Nat.zero_le _⟩ (fun r1 H locs hf hP hD hS => ?_)
  refine lv_if_eq (tgt := 17) hx hb dX5_received_5 (by decide) (fun c2 => ?_) (fun c2 => ?_)
  · replace hf := hf.1 c2
    exact j_X5_received_17 C0 a K (mI, mA, mL) p0 p1 H locs ls hP hD hS (lv_sub hl [0, 1, 2] rfl) hf
  · replace hf := hf.2 c2
    refine lv_iload_n hx hb dX5_received_8 rfl (lv_at hl 2 rfl) ?_
    refine lv_if_lt (tgt := 17) hx hb dX5_received_9 (by decide) (fun c12 => ?_) (fun c12 => ?_)
    · replace hf := hf.1 c12
      exact j_X5_received_17 C0 a K (mI, mA, mL) p0 p1 H locs ls hP hD hS (lv_sub hl [0, 1, 2] rfl) hf
    · replace hf := hf.2 c12
      refine lv_iload_n hx hb dX5_received_12 rfl (lv_at hl 2 rfl) ?_
      refine lv_iconst (v := 3) hx hb dX5_received_13 (by decide) ?_
      refine lv_icmp_le (tgt := 21) hx hb dX5_received_14 (by decide) (fun c13 => ?_) (fun c13 => ?_)
      · replace hf := hf.1 c13
        refine lv_aload_n hx hb dX5_received_21 rfl (lv_at hl 0 rfl) ?_
        refine va_get (D := (dC, dI)) (ci := 5) (v := .ref (a 7)) (C := RX5) (T := TX5) (N := 35) hx hb hts hinX5 hown hK.1 hP 0 rfl rfl 7 (by decide) w22 (fun _ h9 => h9) rfl dX5_received_22 ?_
        refine lv_iload_n hx hb dX5_received_25 rfl (lv_at hl 1 rfl) ?_
        have g14 := hf.1
        replace hf := hf.2
        refine ar_ild (f := (mA 7)) (j := p0.toNatClampNeg) hx hb hK.1 hP 5 0 rfl rfl rfl g14 dX5_received_26 ?_
        refine lv_if_ne (tgt := 34) hx hb dX5_received_27 (by decide) (fun c15 => ?_) (fun c15 => ?_)
        · replace hf := hf.1 c15
          refine lv_iconst (v := 0) hx hb dX5_received_34 (by decide) ?_
          exact j_X5_received_35 C0 a K (mI, mA, mL) p0 p1 0 H locs ls hP hD hS (lv_sub hl [0, 1, 2] rfl) hf
        · replace hf := hf.2 c15
          refine lv_iconst (v := 2) hx hb dX5_received_30 (by decide) ?_
          refine lv_goto (tgt := 35) hx hb dX5_received_31 (by decide) ?_
          exact j_X5_received_35 C0 a K (mI, mA, mL) p0 p1 2 H locs ls hP hD hS (lv_sub hl [0, 1, 2] rfl) hf
      · replace hf := hf.2 c13
        exact j_X5_received_17 C0 a K (mI, mA, mL) p0 p1 H locs ls hP hD hS (lv_sub hl [0, 1, 2] rfl) hf

def wp_X5_tape_59 (K : Int32 → ModelS → Prop) : Nat → ModelS → Int32 → Prop
  | 0, _, _ => False
  | n + 1, (mI, mA, mL), v2 => ((mI 32 ≤ v2 → K (mI 32) (mI, mA, mL)) ∧ (¬ mI 32 ≤ v2 → (vp_in (800 + v2) 1000 ∧ (vp_in v2 200 ∧ (∀ n13 : Int32, n13 = v2 + 1 → wp_X5_tape_59 K n (mI, va_up mA 31 (upd (mA 31) v2.toNatClampNeg ((mA 18) ((800 + v2).toNatClampNeg))), mL) n13)))))
def wp_X5_tape_57 (K : Int32 → ModelS → Prop) : ModelS → Prop := fun (mI, mA, mL) => wp_X5_tape_59 K 1000 (mI, mA, mL) 0
def wp_X5_tape_25 (K : Int32 → ModelS → Prop) : ModelS → Int32 → Int32 → Prop := fun (mI, mA, mL) v1 k0 => ((k0 ≤ 0 → wp_X5_offer (va_up mI 0 k0, mA, mL) v1 (fun r7 => wp_X5_make (va_up mI 0 k0, mA, mL) r7 4 (fun u9 => wp_X5_tape_57 K (va_up u9.1 32 ((u9.2.1 20) 4), u9.2.1, u9.2.2)))) ∧ (¬ k0 ≤ 0 → K 0 (va_up mI 0 k0, mA, mL)))
def wp_X5_tape : ModelS → Int32 → (Int32 → ModelS → Prop) → Prop := fun (mI, mA, mL) p0 K => wp_X5_isNode p0 (fun r1 => ((¬ r1 = 0 → wp_X5_offer (mI, mA, mL) p0 (fun r3 => ((0 ≤ r3 → wp_X5_tape_25 K (mI, mA, mL) p0 0) ∧ (¬ 0 ≤ r3 → wp_X5_tape_25 K (mI, mA, mL) p0 2)))) ∧ (r1 = 0 → wp_X5_tape_25 K (mI, mA, mL) p0 1)))
set_option maxHeartbeats 4000000 in
set_option maxRecDepth 100000 in
theorem j_X5_tape_59 {p : Program} {l : Launch} {e : Env} {s : State} {m : MethodId} {args : Array Value} {below : List Frame} {meth : Method} {c : Code} {dC : Nat → ClassId} {dI : Nat → Nat → Nat} {y : Nat → ClassId} {A : Nat → Prop} (C0 : Cx p s m args meth c cX5_tape 3 (some .int) wsX5_tape RX5 A dC dI y) (a : Nat → Nat) (K : Int32 → ModelS → Prop) : ∀ n : Nat, ∀ (S : ModelS) (v2 : Int32) (H : Heap) (locs : List Loc) (ls : Array Slot), va_P (dC, dI) vwCl (mdW y a S) H → va_D A (mdW y a S) → va_S A s.heap H locs → lv_has ls 3 [(0, .ref (a 0)), (2, .int v2)] → wp_X5_tape_59 K n S v2 → W p l e ({ frames := 3, cells := 0, slots := 0, locals := 68 } : Room) s m args below meth c H locs 0 0 (MQ below (va_Qi K (BW dC dI A (fun u => mdW y a u)) A) args s 0 0 A) (F0 m 59 ls []) := by
  obtain ⟨hx, hb, hr, hml, hown, hts, hlocks, hA, hK⟩ := id C0
  have w57 := hts (Cond.fieldLink RX5 57 "SharedWireModel" "wireBits" "[I") (List.mem_of_getElem? (i := 5) rfl)
  have w93 := hts (Cond.fieldLink RX5 93 "SharedWireModel" "tape" "[I") (List.mem_of_getElem? (i := 4) rfl)
  have w211 := hts (Cond.fieldLink RX5 211 "SharedWireModel" "size" "I") (List.mem_of_getElem? (i := 3) rfl)
  have hinX5 : ∀ w ∈ wsX50, w ∈ wsX5_tape := fun w h => List.mem_cons_of_mem _ (List.mem_append_right _ (h))
  intro n
  induction n with
  | zero =>
    intro S v2 H locs ls hP hD hS hl hf
    exact False.elim (by unfold wp_X5_tape_59 at hf; exact hf)
  | succ n ih =>
    intro S v2 H locs ls hP hD hS hl hf
    obtain ⟨mI, mA, mL⟩ := S
    unfold wp_X5_tape_59 at hf
    refine lv_iload_n hx hb dX5_tape_59 rfl (lv_at hl 1 rfl) ?_
    refine lv_aload_n hx hb dX5_tape_60 rfl (lv_at hl 0 rfl) ?_
    refine va_get (D := (dC, dI)) (ci := 5) (v := .int (mI 32)) (C := RX5) (T := TX5) (N := 35) hx hb hts hinX5 hown hK.1 hP 0 rfl rfl 32 (by decide) w211 (fun _ h9 => h9) rfl dX5_tape_61 ?_
    refine lv_icmp_ge (tgt := 89) hx hb dX5_tape_64 (by decide) (fun c10 => ?_) (fun c10 => ?_)
    · replace hf := hf.1 c10
      refine lv_aload_n hx hb dX5_tape_89 rfl (lv_at hl 0 rfl) ?_
      refine va_get (D := (dC, dI)) (ci := 5) (v := .int (mI 32)) (C := RX5) (T := TX5) (N := 35) hx hb hts hinX5 hown hK.1 hP 0 rfl rfl 32 (by decide) w211 (fun _ h9 => h9) rfl dX5_tape_90 ?_
      exact W.iret (v := mI 32) hx hb hr (fun t ht hW => ⟨⟨mI 32, (mI, mA, mL), rfl, hf, by rw [ht]; exact hP, hD⟩, hS.F ht⟩) hS.2.2 dX5_tape_93
    · replace hf := hf.2 c10
      refine lv_aload_n hx hb dX5_tape_67 rfl (lv_at hl 0 rfl) ?_
      refine va_get (D := (dC, dI)) (ci := 5) (v := .ref (a 31)) (C := RX5) (T := TX5) (N := 35) hx hb hts hinX5 hown hK.1 hP 0 rfl rfl 31 (by decide) w93 (fun _ h9 => h9) rfl dX5_tape_68 ?_
      refine lv_iload_n hx hb dX5_tape_71 rfl (lv_at hl 1 rfl) ?_
      refine lv_aload_n hx hb dX5_tape_72 rfl (lv_at hl 0 rfl) ?_
      refine va_get (D := (dC, dI)) (ci := 5) (v := .ref (a 18)) (C := RX5) (T := TX5) (N := 35) hx hb hts hinX5 hown hK.1 hP 0 rfl rfl 18 (by decide) w57 (fun _ h9 => h9) rfl dX5_tape_73 ?_
      refine lv_sipush (v := 800) hx hb dX5_tape_76 (by decide) ?_
      refine lv_iload_n hx hb dX5_tape_79 rfl (lv_at hl 1 rfl) ?_
      refine lv_iadd hx hb dX5_tape_80 ?_
      have g11 := hf.1
      replace hf := hf.2
      refine ar_ild (f := (mA 18)) (j := (800 + v2).toNatClampNeg) hx hb hK.1 hP 16 0 rfl rfl rfl g11 dX5_tape_81 ?_
      have g12 := hf.1
      replace hf := hf.2
      refine mst_31 (f := (mA 31)) (x := (mA 18) ((800 + v2).toNatClampNeg)) (j := v2.toNatClampNeg) hx hb hK.1 hP hD hS rfl rfl g12 dX5_tape_82 (fun H locs hP hD hS => ?_)
      obtain ⟨n13, en13⟩ : ∃ z : Int32, z = v2 + 1 := ⟨_, rfl⟩
      replace hf := hf n13 en13
      refine lv_iinc (v := n13) (lv' := [(2, .int n13), (0, .ref (a 0))]) hx hb dX5_tape_83 hl (k := 1) rfl (by rw [en13]; rfl) (by decide) rfl (fun ls hl => ?_)
      refine lv_goto (tgt := 59) hx hb dX5_tape_86 (by decide) ?_
      exact ih (mI, va_up mA 31 (upd (mA 31) v2.toNatClampNeg ((mA 18) ((800 + v2).toNatClampNeg))), mL) n13 H locs ls hP hD hS (lv_sub hl [1, 0] rfl) hf
set_option maxHeartbeats 4000000 in
set_option maxRecDepth 100000 in
theorem j_X5_tape_57 {p : Program} {l : Launch} {e : Env} {s : State} {m : MethodId} {args : Array Value} {below : List Frame} {meth : Method} {c : Code} {dC : Nat → ClassId} {dI : Nat → Nat → Nat} {y : Nat → ClassId} {A : Nat → Prop} (C0 : Cx p s m args meth c cX5_tape 3 (some .int) wsX5_tape RX5 A dC dI y) (a : Nat → Nat) (K : Int32 → ModelS → Prop) : ∀ (S : ModelS) (H : Heap) (locs : List Loc) (ls : Array Slot), va_P (dC, dI) vwCl (mdW y a S) H → va_D A (mdW y a S) → va_S A s.heap H locs → lv_has ls 3 [(0, .ref (a 0))] → wp_X5_tape_57 K S → W p l e ({ frames := 3, cells := 0, slots := 0, locals := 68 } : Room) s m args below meth c H locs 0 0 (MQ below (va_Qi K (BW dC dI A (fun u => mdW y a u)) A) args s 0 0 A) (F0 m 57 ls []) := by
  obtain ⟨hx, hb, hr, hml, hown, hts, hlocks, hA, hK⟩ := id C0
  intro S H locs ls hP hD hS hl hf
  obtain ⟨mI, mA, mL⟩ := S
  unfold wp_X5_tape_57 at hf
  refine lv_iconst (v := 0) hx hb dX5_tape_57 (by decide) ?_
  refine lv_istore_n (lv' := [(2, .int 0), (0, .ref (a 0))]) hx hb dX5_tape_58 rfl hl (by decide) rfl (fun ls hl => ?_)
  exact j_X5_tape_59 C0 a K 1000 (mI, mA, mL) 0 H locs ls hP hD hS (lv_sub hl [1, 0] rfl) hf
set_option maxHeartbeats 4000000 in
set_option maxRecDepth 100000 in
theorem j_X5_tape_25 {p : Program} {l : Launch} {e : Env} {s : State} {m : MethodId} {args : Array Value} {below : List Frame} {meth : Method} {c : Code} {dC : Nat → ClassId} {dI : Nat → Nat → Nat} {y : Nat → ClassId} {A : Nat → Prop} (C0 : Cx p s m args meth c cX5_tape 3 (some .int) wsX5_tape RX5 A dC dI y) (a : Nat → Nat) (K : Int32 → ModelS → Prop) : ∀ (S : ModelS) (v1 : Int32) (k0 : Int32) (H : Heap) (locs : List Loc) (ls : Array Slot), va_P (dC, dI) vwCl (mdW y a S) H → va_D A (mdW y a S) → va_S A s.heap H locs → lv_has ls 3 [(0, .ref (a 0)), (1, .int v1)] → wp_X5_tape_25 K S v1 k0 → W p l e ({ frames := 3, cells := 0, slots := 0, locals := 68 } : Room) s m args below meth c H locs 0 0 (MQ below (va_Qi K (BW dC dI A (fun u => mdW y a u)) A) args s 0 0 A) (F0 m 25 ls [.int k0, .ref (a 0)]) := by
  obtain ⟨hx, hb, hr, hml, hown, hts, hlocks, hA, hK⟩ := id C0
  have w63 := hts (Cond.fieldLink RX5 63 "SharedWireModel" "wireSize" "[I") (List.mem_of_getElem? (i := 2) rfl)
  have w99 := hts (Cond.fieldLink RX5 99 "SharedWireModel" "thrown" "I") (List.mem_of_getElem? (i := 1) rfl)
  have w211 := hts (Cond.fieldLink RX5 211 "SharedWireModel" "size" "I") (List.mem_of_getElem? (i := 3) rfl)
  have hinX5 : ∀ w ∈ wsX50, w ∈ wsX5_tape := fun w h => List.mem_cons_of_mem _ (List.mem_append_right _ (h))
  intro S v1 k0 H locs ls hP hD hS hl hf
  obtain ⟨mI, mA, mL⟩ := S
  unfold wp_X5_tape_25 at hf
  refine mput_0 (v := k0) hx hb hts hinX5 hown hK.1 hP hD hS w99 dX5_tape_25 (fun H locs hP hD hS => ?_)
  refine lv_aload_n hx hb dX5_tape_28 rfl (lv_at hl 0 rfl) ?_
  refine va_get (D := (dC, dI)) (ci := 5) (v := .int k0) (C := RX5) (T := TX5) (N := 35) hx hb hts hinX5 hown hK.1 hP 0 rfl rfl 0 (by decide) w99 (fun _ h9 => h9) rfl dX5_tape_29 ?_
  refine lv_if_le (tgt := 37) hx hb dX5_tape_32 (by decide) (fun c6 => ?_) (fun c6 => ?_)
  · replace hf := hf.1 c6
    refine lv_aload_n hx hb dX5_tape_37 rfl (lv_at hl 0 rfl) ?_
    refine lv_aload_n hx hb dX5_tape_38 rfl (lv_at hl 0 rfl) ?_
    refine lv_iload_n hx hb dX5_tape_39 rfl (lv_at hl 1 rfl) ?_
    refine k0i (As := [.int v1]) (rest := [.ref (a 0)]) ⟨hx, hb, hml, hown, hts⟩ (c_X5_offer l dC dI y a H.size (va_up mI 0 k0, mA, mL) v1 _ hf) (cwV 1 hts gX5_tape_X5_offer rfl rfl rfl (by decide +kernel) ⟨Nat.le_of_ble_eq_true rfl, Nat.le_of_ble_eq_true rfl⟩) hK hP hD (va_recv hK.1 hP (ci := 5) (q0 := 0) rfl rfl) hS hA rfl hl.1 rfl (Nat.le_of_ble_eq_true rfl) dX5_tape_40 ⟨Nat.zero_le _, Nat.zero_le _⟩ (fun r7 u8 H locs hf hP hD hS => ?_)
    obtain ⟨hf, e9⟩ := hf
    have e9 := e9.symm
    subst e9
    have hP : va_P (dC, dI) vwCl (mdW y a (va_up mI 0 k0, mA, mL)) H := hP
    have hD : va_D A (mdW y a (va_up mI 0 k0, mA, mL)) := hD
    refine lv_iconst (v := 4) hx hb dX5_tape_43 (by decide) ?_
    refine k0v (As := [.int r7, .int 4]) (rest := []) ⟨hx, hb, hml, hown, hts⟩ (c_X5_make l dC dI y a H.size (va_up mI 0 k0, mA, mL) r7 4 _ hf) (cwV 2 hts gX5_tape_X5_make rfl rfl rfl (by decide +kernel) ⟨Nat.le_of_ble_eq_true rfl, Nat.le_of_ble_eq_true rfl⟩) hK hP hD (va_recv hK.1 hP (ci := 5) (q0 := 0) rfl rfl) hS hA rfl hl.1 rfl (Nat.le_of_ble_eq_true rfl) dX5_tape_44 ⟨Nat.zero_le _, Nat.zero_le _⟩ (fun u9 H locs hf hP hD hS => ?_)
    have hP : va_P (dC, dI) vwCl (mdW y a (u9.1, u9.2.1, u9.2.2)) H := hP
    have hD : va_D A (mdW y a (u9.1, u9.2.1, u9.2.2)) := hD
    refine lv_aload_n hx hb dX5_tape_47 rfl (lv_at hl 0 rfl) ?_
    refine lv_aload_n hx hb dX5_tape_48 rfl (lv_at hl 0 rfl) ?_
    refine va_get (D := (dC, dI)) (ci := 5) (v := .ref (a 20)) (C := RX5) (T := TX5) (N := 35) hx hb hts hinX5 hown hK.1 hP 0 rfl rfl 20 (by decide) w63 (fun _ h9 => h9) rfl dX5_tape_49 ?_
    refine lv_iconst (v := 4) hx hb dX5_tape_52 (by decide) ?_
    refine ar_ild (f := (u9.2.1 20)) (j := 4) hx hb hK.1 hP 18 0 rfl rfl (clamp_lit 4 rfl) (vin_lit 4 5 rfl rfl) dX5_tape_53 ?_
    refine mput_32 (v := (u9.2.1 20) 4) hx hb hts hinX5 hown hK.1 hP hD hS w211 dX5_tape_54 (fun H locs hP hD hS => ?_)
    exact j_X5_tape_57 C0 a K (va_up u9.1 32 ((u9.2.1 20) 4), u9.2.1, u9.2.2) H locs ls hP hD hS (lv_sub hl [0] rfl) hf
  · replace hf := hf.2 c6
    refine lv_iconst (v := 0) hx hb dX5_tape_35 (by decide) ?_
    exact W.iret (v := 0) hx hb hr (fun t ht hW => ⟨⟨0, (va_up mI 0 k0, mA, mL), rfl, hf, by rw [ht]; exact hP, hD⟩, hS.F ht⟩) hS.2.2 dX5_tape_36
set_option maxHeartbeats 4000000 in
set_option maxRecDepth 100000 in
theorem c_X5_tape (l : Launch) (dC : Nat → ClassId) (dI : Nat → Nat → Nat) (y : Nat → ClassId) (a : Nat → Nat) (sz : Nat) (S : ModelS) (p0 : Int32) (K : Int32 → ModelS → Prop) (hf : wp_X5_tape S p0 K) : MI l yX5_tape wsX5_tape { frames := 3, cells := 0, slots := 0, locals := 68 } dC dI y [.ref (a 0), .int p0] (mdW y a S) sz (fun u => mdW y a u) K := by
  refine Met.ofW (cc := cX5_tape) (maxL := 3) (ret := (some .int)) (by decide) rfl ?_
  intro p e s m args below meth c s₁ B hml hv
  obtain ⟨rfl, hsz, hP, hK, hD0⟩ := hv
  have hx := B.exec
  have hb := B.bytes
  have hr := B.returns
  have hts := atoms_spec (ws := wsX5_tape) B.pre
  have hown : s.vm.findClass RX5 = some m.cls := findClass_of_methodNamed B.named
  have hlocks := B.notSynchronized
  subst hsz
  have hD := hD0.self (sz := s.heap.size)
  generalize hAe : va_A (mdW y a S) s.heap.size = A at hD ⊢
  have hA : ∀ q : Nat, s.heap.size ≤ q → A q := fun q h => by rw [← hAe]; exact Or.inr h
  have hS : va_S A s.heap s.heap [] := va_S.rf
  have C0 : Cx p s m [.ref (a 0), .int p0].toArray meth c cX5_tape 3 (some .int) wsX5_tape RX5 A dC dI y := ⟨hx, hb, hr, hml, hown, hts, hlocks, hA, hK⟩
  have hl := lv_entry ([.ref (a 0), .int p0]) (n := 3) (Nat.le_of_ble_eq_true rfl)
  rw [lg_entry_eq]
  generalize (lg_sl ([.ref (a 0), .int p0]) ++ List.replicate (3 - (lg_sl ([.ref (a 0), .int p0])).length) Slot.unset).toArray = ls at hl ⊢
  have hl : lv_has ls 3 [(0, .ref (a 0)), (1, .int p0)] := hl
  obtain ⟨mI, mA, mL⟩ := S
  clear hAe hD0
  generalize hL0 : ([] : List Loc) = locs at hS ⊢
  unfold wp_X5_tape at hf
  refine lv_aload_n hx hb dX5_tape_0 rfl (lv_at hl 0 rfl) ?_
  refine lv_iload_n hx hb dX5_tape_1 rfl (lv_at hl 1 rfl) ?_
  refine kSi (As := [.int p0]) (rest := [.ref (a 0)]) ⟨hx, hb, hml, hown, hts⟩ (c_X5_isNode l dC dI y s.heap.size p0 _ hf) (va_cwS 1 hts gX5_tape_X5_isNode rfl rfl rfl (by decide +kernel) ⟨Nat.le_of_ble_eq_true rfl, Nat.le_of_ble_eq_true rfl⟩) hK hP hD hS hA rfl hl.1 rfl (Nat.le_of_ble_eq_true rfl) dX5_tape_2 ⟨Nat.zero_le _, Nat.zero_le _⟩ (fun r1 H locs hf hP hD hS => ?_)
  refine lv_if_ne (tgt := 12) hx hb dX5_tape_5 (by decide) (fun c2 => ?_) (fun c2 => ?_)
  · replace hf := hf.1 c2
    refine lv_aload_n hx hb dX5_tape_12 rfl (lv_at hl 0 rfl) ?_
    refine lv_iload_n hx hb dX5_tape_13 rfl (lv_at hl 1 rfl) ?_
    refine k0i (As := [.int p0]) (rest := [.ref (a 0)]) ⟨hx, hb, hml, hown, hts⟩ (c_X5_offer l dC dI y a H.size (mI, mA, mL) p0 _ hf) (cwV 1 hts gX5_tape_X5_offer rfl rfl rfl (by decide +kernel) ⟨Nat.le_of_ble_eq_true rfl, Nat.le_of_ble_eq_true rfl⟩) hK hP hD (va_recv hK.1 hP (ci := 5) (q0 := 0) rfl rfl) hS hA rfl hl.1 rfl (Nat.le_of_ble_eq_true rfl) dX5_tape_14 ⟨Nat.zero_le _, Nat.zero_le _⟩ (fun r3 u4 H locs hf hP hD hS => ?_)
    obtain ⟨hf, e9⟩ := hf
    have e9 := e9.symm
    subst e9
    have hP : va_P (dC, dI) vwCl (mdW y a (mI, mA, mL)) H := hP
    have hD : va_D A (mdW y a (mI, mA, mL)) := hD
    refine lv_if_ge (tgt := 24) hx hb dX5_tape_17 (by decide) (fun c5 => ?_) (fun c5 => ?_)
    · replace hf := hf.1 c5
      refine lv_iconst (v := 0) hx hb dX5_tape_24 (by decide) ?_
      exact j_X5_tape_25 C0 a K (mI, mA, mL) p0 0 H locs ls hP hD hS (lv_sub hl [0, 1] rfl) hf
    · replace hf := hf.2 c5
      refine lv_iconst (v := 2) hx hb dX5_tape_20 (by decide) ?_
      refine lv_goto (tgt := 25) hx hb dX5_tape_21 (by decide) ?_
      exact j_X5_tape_25 C0 a K (mI, mA, mL) p0 2 H locs ls hP hD hS (lv_sub hl [0, 1] rfl) hf
  · replace hf := hf.2 c2
    refine lv_iconst (v := 1) hx hb dX5_tape_8 (by decide) ?_
    refine lv_goto (tgt := 25) hx hb dX5_tape_9 (by decide) ?_
    exact j_X5_tape_25 C0 a K (mI, mA, mL) p0 1 H locs ls hP hD hS (lv_sub hl [0, 1] rfl) hf

def wp_X5_put_28 (K : Int32 → ModelS → Prop) : ModelS → Prop := fun (mI, mA, mL) => K 0 (mI, mA, mL)
def wp_X5_put_33 (K : Int32 → ModelS → Prop) : Nat → ModelS → Int64 → Int32 → Int32 → Prop
  | 0, _, _, _, _ => False
  | n + 1, (mI, mA, mL), v1, v3, v4 => ((v3 ≤ v4 → K 1 (mI, mA, mL)) ∧ (¬ v3 ≤ v4 → (vp_in (mI 32) 200 ∧ (∀ n6 : Int32, n6 = v4 + 1 → wp_X5_put_33 K n (va_up mI 32 ((mI 32) + 1), va_up mA 31 (upd (mA 31) ((mI 32).toNatClampNeg) (((v1 >>> (v4.toInt64 &&& 63)) &&& 1).toInt32)), mL) v1 v3 n6))))
def wp_X5_put : ModelS → Int64 → Int32 → (Int32 → ModelS → Prop) → Prop := fun (mI, mA, mL) p0 p1 K => ((p1 < 1 → wp_X5_put_28 K (va_up mI 0 0, mA, mL)) ∧ (¬ p1 < 1 → ((64 < p1 → wp_X5_put_28 K (va_up mI 0 0, mA, mL)) ∧ (¬ 64 < p1 → (((mI 32) + p1 ≤ 200 → wp_X5_put_33 K 1000 (va_up mI 0 0, mA, mL) p0 p1 0) ∧ (¬ (mI 32) + p1 ≤ 200 → wp_X5_put_28 K (va_up mI 0 0, mA, mL)))))))
set_option maxHeartbeats 4000000 in
set_option maxRecDepth 100000 in
theorem j_X5_put_28 {p : Program} {l : Launch} {e : Env} {s : State} {m : MethodId} {args : Array Value} {below : List Frame} {meth : Method} {c : Code} {dC : Nat → ClassId} {dI : Nat → Nat → Nat} {y : Nat → ClassId} {A : Nat → Prop} (C0 : Cx p s m args meth c cX5_put 5 (some .boolean) wsX5_put RX5 A dC dI y) (a : Nat → Nat) (K : Int32 → ModelS → Prop) : ∀ (S : ModelS) (H : Heap) (locs : List Loc) (ls : Array Slot), va_P (dC, dI) vwCl (mdW y a S) H → va_D A (mdW y a S) → va_S A s.heap H locs → lv_has ls 5 [] → wp_X5_put_28 K S → W p l e ({ frames := 0, cells := 0, slots := 0, locals := 0 } : Room) s m args below meth c H locs 0 0 (MQ below (va_Qi K (BW dC dI A (fun u => mdW y a u)) A) args s 0 0 A) (F0 m 28 ls []) := by
  obtain ⟨hx, hb, hr, hml, hown, hts, hlocks, hA, hK⟩ := id C0
  intro S H locs ls hP hD hS hl hf
  obtain ⟨mI, mA, mL⟩ := S
  unfold wp_X5_put_28 at hf
  refine lv_iconst (v := 0) hx hb dX5_put_28 (by decide) ?_
  exact W.zret (v := 0) (ty := .boolean) hx hb hr rfl (fun t ht hW => ⟨⟨0, (mI, mA, mL), rfl, hf, by rw [ht]; exact hP, hD⟩, hS.F ht⟩) hS.2.2 dX5_put_29
set_option maxHeartbeats 4000000 in
set_option maxRecDepth 100000 in
theorem j_X5_put_33 {p : Program} {l : Launch} {e : Env} {s : State} {m : MethodId} {args : Array Value} {below : List Frame} {meth : Method} {c : Code} {dC : Nat → ClassId} {dI : Nat → Nat → Nat} {y : Nat → ClassId} {A : Nat → Prop} (C0 : Cx p s m args meth c cX5_put 5 (some .boolean) wsX5_put RX5 A dC dI y) (a : Nat → Nat) (K : Int32 → ModelS → Prop) : ∀ n : Nat, ∀ (S : ModelS) (v1 : Int64) (v3 : Int32) (v4 : Int32) (H : Heap) (locs : List Loc) (ls : Array Slot), va_P (dC, dI) vwCl (mdW y a S) H → va_D A (mdW y a S) → va_S A s.heap H locs → lv_has ls 5 [(0, .ref (a 0)), (1, .long v1), (3, .int v3), (4, .int v4)] → wp_X5_put_33 K n S v1 v3 v4 → W p l e ({ frames := 0, cells := 0, slots := 0, locals := 0 } : Room) s m args below meth c H locs 0 0 (MQ below (va_Qi K (BW dC dI A (fun u => mdW y a u)) A) args s 0 0 A) (F0 m 33 ls []) := by
  obtain ⟨hx, hb, hr, hml, hown, hts, hlocks, hA, hK⟩ := id C0
  have w93 := hts (.fieldLink RX5 93 "SharedWireModel" "tape" "[I") (List.mem_of_getElem? (i := 3) rfl)
  have w211 := hts (.fieldLink RX5 211 "SharedWireModel" "size" "I") (List.mem_of_getElem? (i := 2) rfl)
  have hinX5 : ∀ w ∈ wsX50, w ∈ wsX5_put := fun w h => List.mem_cons_of_mem _ (List.mem_append_right _ (h))
  intro n
  induction n with
  | zero =>
    intro S v1 v3 v4 H locs ls hP hD hS hl hf
    exact False.elim (by unfold wp_X5_put_33 at hf; exact hf)
  | succ n ih =>
    intro S v1 v3 v4 H locs ls hP hD hS hl hf
    obtain ⟨mI, mA, mL⟩ := S
    unfold wp_X5_put_33 at hf
    refine lv_iload hx hb dX5_put_33 (lv_at hl 3 rfl) ?_
    refine lv_iload_n hx hb dX5_put_35 rfl (lv_at hl 2 rfl) ?_
    refine lv_icmp_ge (tgt := 71) hx hb dX5_put_36 (by decide) (fun c4 => ?_) (fun c4 => ?_)
    · replace hf := hf.1 c4
      refine lv_iconst (v := 1) hx hb dX5_put_71 (by decide) ?_
      exact W.zret (v := 1) (ty := .boolean) hx hb hr rfl (fun t ht hW => ⟨⟨1, (mI, mA, mL), rfl, hf, by rw [ht]; exact hP, hD⟩, hS.F ht⟩) hS.2.2 dX5_put_72
    · replace hf := hf.2 c4
      refine lv_aload_n hx hb dX5_put_39 rfl (lv_at hl 0 rfl) ?_
      refine va_get (D := (dC, dI)) (ci := 5) (v := .ref (a 31)) (C := RX5) (T := TX5) (N := 35) hx hb hts hinX5 hown hK.1 hP 0 rfl rfl 31 (by decide) w93 (fun _ h9 => h9) rfl dX5_put_40 ?_
      refine lv_aload_n hx hb dX5_put_43 rfl (lv_at hl 0 rfl) ?_
      refine va_get (D := (dC, dI)) (ci := 5) (v := .int (mI 32)) (C := RX5) (T := TX5) (N := 35) hx hb hts hinX5 hown hK.1 hP 0 rfl rfl 32 (by decide) w211 (fun _ h9 => h9) rfl dX5_put_44 ?_
      refine lv_lload_n hx hb dX5_put_47 rfl (lv_at hl 1 rfl) ?_
      refine lv_iload hx hb dX5_put_48 (lv_at hl 3 rfl) ?_
      refine lv_lshr (v := v1 >>> (v4.toInt64 &&& 63)) hx hb dX5_put_50 rfl ?_
      refine lv_lconst (v := 1) hx hb dX5_put_51 (by decide) ?_
      refine lv_land hx hb dX5_put_52 ?_
      refine lv_l2i (v := ((v1 >>> (v4.toInt64 &&& 63)) &&& 1).toInt32) hx hb dX5_put_53 rfl ?_
      have g5 := hf.1
      replace hf := hf.2
      refine mst_31 (f := (mA 31)) (x := ((v1 >>> (v4.toInt64 &&& 63)) &&& 1).toInt32) (j := (mI 32).toNatClampNeg) hx hb hK.1 hP hD hS rfl rfl g5 dX5_put_54 (fun H locs hP hD hS => ?_)
      refine lv_aload_n hx hb dX5_put_55 rfl (lv_at hl 0 rfl) ?_
      refine lv_dup hx hb dX5_put_56 rfl ?_
      refine va_get (D := (dC, dI)) (ci := 5) (v := .int (mI 32)) (C := RX5) (T := TX5) (N := 35) hx hb hts hinX5 hown hK.1 hP 0 rfl rfl 32 (by decide) w211 (fun _ h9 => h9) rfl dX5_put_57 ?_
      refine lv_iconst (v := 1) hx hb dX5_put_60 (by decide) ?_
      refine lv_iadd hx hb dX5_put_61 ?_
      refine mput_32 (v := (mI 32) + 1) hx hb hts hinX5 hown hK.1 hP hD hS w211 dX5_put_62 (fun H locs hP hD hS => ?_)
      obtain ⟨n6, en6⟩ : ∃ z : Int32, z = v4 + 1 := ⟨_, rfl⟩
      replace hf := hf n6 en6
      refine lv_iinc (v := n6) (lv' := [(4, .int n6), (0, .ref (a 0)), (1, .long v1), (3, .int v3)]) hx hb dX5_put_65 hl (k := 3) rfl (by rw [en6]; rfl) (by decide) rfl (fun ls hl => ?_)
      refine lv_goto (tgt := 33) hx hb dX5_put_68 (by decide) ?_
      exact ih (va_up mI 32 ((mI 32) + 1), va_up mA 31 (upd (mA 31) ((mI 32).toNatClampNeg) (((v1 >>> (v4.toInt64 &&& 63)) &&& 1).toInt32)), mL) v1 v3 n6 H locs ls hP hD hS (lv_sub hl [1, 2, 3, 0] rfl) hf
set_option maxHeartbeats 4000000 in
set_option maxRecDepth 100000 in
theorem c_X5_put (l : Launch) (dC : Nat → ClassId) (dI : Nat → Nat → Nat) (y : Nat → ClassId) (a : Nat → Nat) (sz : Nat) (S : ModelS) (p0 : Int64) (p1 : Int32) (K : Int32 → ModelS → Prop) (hf : wp_X5_put S p0 p1 K) : MI l yX5_put wsX5_put { frames := 0, cells := 0, slots := 0, locals := 0 } dC dI y [.ref (a 0), .long p0, .int p1] (mdW y a S) sz (fun u => mdW y a u) K := by
  refine Met.ofW (cc := cX5_put) (maxL := 5) (ret := (some .boolean)) (by decide) rfl ?_
  intro p e s m args below meth c s₁ B hml hv
  obtain ⟨rfl, hsz, hP, hK, hD0⟩ := hv
  have hx := B.exec
  have hb := B.bytes
  have hr := B.returns
  have hts := atoms_spec (ws := wsX5_put) B.pre
  have hown : s.vm.findClass RX5 = some m.cls := findClass_of_methodNamed B.named
  have hlocks := B.notSynchronized
  subst hsz
  have hD := hD0.self (sz := s.heap.size)
  generalize hAe : va_A (mdW y a S) s.heap.size = A at hD ⊢
  have hA : ∀ q : Nat, s.heap.size ≤ q → A q := fun q h => by rw [← hAe]; exact Or.inr h
  have hS : va_S A s.heap s.heap [] := va_S.rf
  have C0 : Cx p s m [.ref (a 0), .long p0, .int p1].toArray meth c cX5_put 5 (some .boolean) wsX5_put RX5 A dC dI y := ⟨hx, hb, hr, hml, hown, hts, hlocks, hA, hK⟩
  have w99 := hts (.fieldLink RX5 99 "SharedWireModel" "thrown" "I") (List.mem_of_getElem? (i := 1) rfl)
  have w211 := hts (.fieldLink RX5 211 "SharedWireModel" "size" "I") (List.mem_of_getElem? (i := 2) rfl)
  have hinX5 : ∀ w ∈ wsX50, w ∈ wsX5_put := fun w h => List.mem_cons_of_mem _ (List.mem_append_right _ (h))
  have hl := lv_entry ([.ref (a 0), .long p0, .int p1]) (n := 5) (Nat.le_of_ble_eq_true rfl)
  rw [lg_entry_eq]
  generalize (lg_sl ([.ref (a 0), .long p0, .int p1]) ++ List.replicate (5 - (lg_sl ([.ref (a 0), .long p0, .int p1])).length) Slot.unset).toArray = ls at hl ⊢
  have hl : lv_has ls 5 [(0, .ref (a 0)), (1, .long p0), (3, .int p1)] := hl
  obtain ⟨mI, mA, mL⟩ := S
  clear hAe hD0
  generalize hL0 : ([] : List Loc) = locs at hS ⊢
  unfold wp_X5_put at hf
  refine lv_aload_n hx hb dX5_put_0 rfl (lv_at hl 0 rfl) ?_
  refine lv_iconst (v := 0) hx hb dX5_put_1 (by decide) ?_
  refine mput_0 (v := 0) hx hb hts hinX5 hown hK.1 hP hD hS w99 dX5_put_2 (fun H locs hP hD hS => ?_)
  refine lv_iload_n hx hb dX5_put_5 rfl (lv_at hl 2 rfl) ?_
  refine lv_iconst (v := 1) hx hb dX5_put_6 (by decide) ?_
  refine lv_icmp_lt (tgt := 28) hx hb dX5_put_7 (by decide) (fun c1 => ?_) (fun c1 => ?_)
  · replace hf := hf.1 c1
    exact j_X5_put_28 C0 a K (va_up mI 0 0, mA, mL) H locs ls hP hD hS (lv_sub hl [] rfl) hf
  · replace hf := hf.2 c1
    refine lv_iload_n hx hb dX5_put_10 rfl (lv_at hl 2 rfl) ?_
    refine lv_bipush (v := 64) hx hb dX5_put_11 (by decide) ?_
    refine lv_icmp_gt (tgt := 28) hx hb dX5_put_13 (by decide) (fun c2 => ?_) (fun c2 => ?_)
    · replace hf := hf.1 c2
      exact j_X5_put_28 C0 a K (va_up mI 0 0, mA, mL) H locs ls hP hD hS (lv_sub hl [] rfl) hf
    · replace hf := hf.2 c2
      refine lv_aload_n hx hb dX5_put_16 rfl (lv_at hl 0 rfl) ?_
      refine va_get (D := (dC, dI)) (ci := 5) (v := .int (mI 32)) (C := RX5) (T := TX5) (N := 35) hx hb hts hinX5 hown hK.1 hP 0 rfl rfl 32 (by decide) w211 (fun _ h9 => h9) rfl dX5_put_17 ?_
      refine lv_iload_n hx hb dX5_put_20 rfl (lv_at hl 2 rfl) ?_
      refine lv_iadd hx hb dX5_put_21 ?_
      refine lv_sipush (v := 200) hx hb dX5_put_22 (by decide) ?_
      refine lv_icmp_le (tgt := 30) hx hb dX5_put_25 (by decide) (fun c3 => ?_) (fun c3 => ?_)
      · replace hf := hf.1 c3
        refine lv_iconst (v := 0) hx hb dX5_put_30 (by decide) ?_
        refine lv_istore (lv' := [(4, .int 0), (0, .ref (a 0)), (1, .long p0), (3, .int p1)]) hx hb dX5_put_31 hl (by decide) rfl (fun ls hl => ?_)
        exact j_X5_put_33 C0 a K 1000 (va_up mI 0 0, mA, mL) p0 p1 0 H locs ls hP hD hS (lv_sub hl [1, 2, 3, 0] rfl) hf
      · replace hf := hf.2 c3
        exact j_X5_put_28 C0 a K (va_up mI 0 0, mA, mL) H locs ls hP hD hS (lv_sub hl [] rfl) hf

def wp_X5_bit_18 (K : Int32 → ModelS → Prop) : ModelS → Int32 → Int32 → Prop := fun (mI, mA, mL) v1 k0 => ((k0 ≤ 0 → (vp_in v1 200 ∧ K ((mA 31) v1.toNatClampNeg) (va_up mI 0 k0, mA, mL))) ∧ (¬ k0 ≤ 0 → K 0 (va_up mI 0 k0, mA, mL)))
def wp_X5_bit_13 (K : Int32 → ModelS → Prop) : ModelS → Int32 → Prop := fun (mI, mA, mL) v1 => wp_X5_bit_18 K (mI, mA, mL) v1 1
def wp_X5_bit : ModelS → Int32 → (Int32 → ModelS → Prop) → Prop := fun (mI, mA, mL) p0 K => ((p0 < 0 → wp_X5_bit_13 K (mI, mA, mL) p0) ∧ (¬ p0 < 0 → ((p0 < mI 32 → wp_X5_bit_18 K (mI, mA, mL) p0 0) ∧ (¬ p0 < mI 32 → wp_X5_bit_13 K (mI, mA, mL) p0))))
set_option maxHeartbeats 4000000 in
set_option maxRecDepth 100000 in
theorem j_X5_bit_18 {p : Program} {l : Launch} {e : Env} {s : State} {m : MethodId} {args : Array Value} {below : List Frame} {meth : Method} {c : Code} {dC : Nat → ClassId} {dI : Nat → Nat → Nat} {y : Nat → ClassId} {A : Nat → Prop} (C0 : Cx p s m args meth c cX5_bit 2 (some .int) wsX5_bit RX5 A dC dI y) (a : Nat → Nat) (K : Int32 → ModelS → Prop) : ∀ (S : ModelS) (v1 : Int32) (k0 : Int32) (H : Heap) (locs : List Loc) (ls : Array Slot), va_P (dC, dI) vwCl (mdW y a S) H → va_D A (mdW y a S) → va_S A s.heap H locs → lv_has ls 2 [(0, .ref (a 0)), (1, .int v1)] → wp_X5_bit_18 K S v1 k0 → W p l e ({ frames := 0, cells := 0, slots := 0, locals := 0 } : Room) s m args below meth c H locs 0 0 (MQ below (va_Qi K (BW dC dI A (fun u => mdW y a u)) A) args s 0 0 A) (F0 m 18 ls [.int k0, .ref (a 0)]) := by
  obtain ⟨hx, hb, hr, hml, hown, hts, hlocks, hA, hK⟩ := id C0
  have w93 := hts (.fieldLink RX5 93 "SharedWireModel" "tape" "[I") (List.mem_of_getElem? (i := 3) rfl)
  have w99 := hts (.fieldLink RX5 99 "SharedWireModel" "thrown" "I") (List.mem_of_getElem? (i := 2) rfl)
  have hinX5 : ∀ w ∈ wsX50, w ∈ wsX5_bit := fun w h => List.mem_cons_of_mem _ (List.mem_append_right _ (h))
  intro S v1 k0 H locs ls hP hD hS hl hf
  obtain ⟨mI, mA, mL⟩ := S
  unfold wp_X5_bit_18 at hf
  refine mput_0 (v := k0) hx hb hts hinX5 hown hK.1 hP hD hS w99 dX5_bit_18 (fun H locs hP hD hS => ?_)
  refine lv_aload_n hx hb dX5_bit_21 rfl (lv_at hl 0 rfl) ?_
  refine va_get (D := (dC, dI)) (ci := 5) (v := .int k0) (C := RX5) (T := TX5) (N := 35) hx hb hts hinX5 hown hK.1 hP 0 rfl rfl 0 (by decide) w99 (fun _ h9 => h9) rfl dX5_bit_22 ?_
  refine lv_if_le (tgt := 32) hx hb dX5_bit_25 (by decide) (fun c2 => ?_) (fun c2 => ?_)
  · replace hf := hf.1 c2
    refine lv_aload_n hx hb dX5_bit_32 rfl (lv_at hl 0 rfl) ?_
    refine va_get (D := (dC, dI)) (ci := 5) (v := .ref (a 31)) (C := RX5) (T := TX5) (N := 35) hx hb hts hinX5 hown hK.1 hP 0 rfl rfl 31 (by decide) w93 (fun _ h9 => h9) rfl dX5_bit_33 ?_
    refine lv_iload_n hx hb dX5_bit_36 rfl (lv_at hl 1 rfl) ?_
    have g3 := hf.1
    replace hf := hf.2
    refine ar_ild (f := (mA 31)) (j := v1.toNatClampNeg) hx hb hK.1 hP 28 0 rfl rfl rfl g3 dX5_bit_37 ?_
    exact W.iret (v := (mA 31) v1.toNatClampNeg) hx hb hr (fun t ht hW => ⟨⟨(mA 31) v1.toNatClampNeg, (va_up mI 0 k0, mA, mL), rfl, hf, by rw [ht]; exact hP, hD⟩, hS.F ht⟩) hS.2.2 dX5_bit_38
  · replace hf := hf.2 c2
    refine lv_iconst (v := 0) hx hb dX5_bit_28 (by decide) ?_
    refine lv_goto (tgt := 38) hx hb dX5_bit_29 (by decide) ?_
    exact W.iret (v := 0) hx hb hr (fun t ht hW => ⟨⟨0, (va_up mI 0 k0, mA, mL), rfl, hf, by rw [ht]; exact hP, hD⟩, hS.F ht⟩) hS.2.2 dX5_bit_38
set_option maxHeartbeats 4000000 in
set_option maxRecDepth 100000 in
theorem j_X5_bit_13 {p : Program} {l : Launch} {e : Env} {s : State} {m : MethodId} {args : Array Value} {below : List Frame} {meth : Method} {c : Code} {dC : Nat → ClassId} {dI : Nat → Nat → Nat} {y : Nat → ClassId} {A : Nat → Prop} (C0 : Cx p s m args meth c cX5_bit 2 (some .int) wsX5_bit RX5 A dC dI y) (a : Nat → Nat) (K : Int32 → ModelS → Prop) : ∀ (S : ModelS) (v1 : Int32) (H : Heap) (locs : List Loc) (ls : Array Slot), va_P (dC, dI) vwCl (mdW y a S) H → va_D A (mdW y a S) → va_S A s.heap H locs → lv_has ls 2 [(0, .ref (a 0)), (1, .int v1)] → wp_X5_bit_13 K S v1 → W p l e ({ frames := 0, cells := 0, slots := 0, locals := 0 } : Room) s m args below meth c H locs 0 0 (MQ below (va_Qi K (BW dC dI A (fun u => mdW y a u)) A) args s 0 0 A) (F0 m 13 ls [.ref (a 0)]) := by
  obtain ⟨hx, hb, hr, hml, hown, hts, hlocks, hA, hK⟩ := id C0
  intro S v1 H locs ls hP hD hS hl hf
  obtain ⟨mI, mA, mL⟩ := S
  unfold wp_X5_bit_13 at hf
  refine lv_iconst (v := 1) hx hb dX5_bit_13 (by decide) ?_
  refine lv_goto (tgt := 18) hx hb dX5_bit_14 (by decide) ?_
  exact j_X5_bit_18 C0 a K (mI, mA, mL) v1 1 H locs ls hP hD hS (lv_sub hl [0, 1] rfl) hf
set_option maxHeartbeats 4000000 in
set_option maxRecDepth 100000 in
theorem c_X5_bit (l : Launch) (dC : Nat → ClassId) (dI : Nat → Nat → Nat) (y : Nat → ClassId) (a : Nat → Nat) (sz : Nat) (S : ModelS) (p0 : Int32) (K : Int32 → ModelS → Prop) (hf : wp_X5_bit S p0 K) : MI l yX5_bit wsX5_bit { frames := 0, cells := 0, slots := 0, locals := 0 } dC dI y [.ref (a 0), .int p0] (mdW y a S) sz (fun u => mdW y a u) K := by
  refine Met.ofW (cc := cX5_bit) (maxL := 2) (ret := (some .int)) (by decide) rfl ?_
  intro p e s m args below meth c s₁ B hml hv
  obtain ⟨rfl, hsz, hP, hK, hD0⟩ := hv
  have hx := B.exec
  have hb := B.bytes
  have hr := B.returns
  have hts := atoms_spec (ws := wsX5_bit) B.pre
  have hown : s.vm.findClass RX5 = some m.cls := findClass_of_methodNamed B.named
  have hlocks := B.notSynchronized
  subst hsz
  have hD := hD0.self (sz := s.heap.size)
  generalize hAe : va_A (mdW y a S) s.heap.size = A at hD ⊢
  have hA : ∀ q : Nat, s.heap.size ≤ q → A q := fun q h => by rw [← hAe]; exact Or.inr h
  have hS : va_S A s.heap s.heap [] := va_S.rf
  have C0 : Cx p s m [.ref (a 0), .int p0].toArray meth c cX5_bit 2 (some .int) wsX5_bit RX5 A dC dI y := ⟨hx, hb, hr, hml, hown, hts, hlocks, hA, hK⟩
  have w211 := hts (.fieldLink RX5 211 "SharedWireModel" "size" "I") (List.mem_of_getElem? (i := 1) rfl)
  have hinX5 : ∀ w ∈ wsX50, w ∈ wsX5_bit := fun w h => List.mem_cons_of_mem _ (List.mem_append_right _ (h))
  have hl := lv_entry ([.ref (a 0), .int p0]) (n := 2) (Nat.le_of_ble_eq_true rfl)
  rw [lg_entry_eq]
  generalize (lg_sl ([.ref (a 0), .int p0]) ++ List.replicate (2 - (lg_sl ([.ref (a 0), .int p0])).length) Slot.unset).toArray = ls at hl ⊢
  have hl : lv_has ls 2 [(0, .ref (a 0)), (1, .int p0)] := hl
  obtain ⟨mI, mA, mL⟩ := S
  clear hAe hD0
  generalize hL0 : ([] : List Loc) = locs at hS ⊢
  unfold wp_X5_bit at hf
  refine lv_aload_n hx hb dX5_bit_0 rfl (lv_at hl 0 rfl) ?_
  refine lv_iload_n hx hb dX5_bit_1 rfl (lv_at hl 1 rfl) ?_
  refine lv_if_lt (tgt := 13) hx hb dX5_bit_2 (by decide) (fun c1 => ?_) (fun c1 => ?_)
  · replace hf := hf.1 c1
    exact j_X5_bit_13 C0 a K (mI, mA, mL) p0 s.heap locs ls hP hD hS (lv_sub hl [0, 1] rfl) hf
  · replace hf := hf.2 c1
    refine lv_iload_n hx hb dX5_bit_5 rfl (lv_at hl 1 rfl) ?_
    refine lv_aload_n hx hb dX5_bit_6 rfl (lv_at hl 0 rfl) ?_
    refine va_get (D := (dC, dI)) (ci := 5) (v := .int (mI 32)) (C := RX5) (T := TX5) (N := 35) hx hb hts hinX5 hown hK.1 hP 0 rfl rfl 32 (by decide) w211 (fun _ h9 => h9) rfl dX5_bit_7 ?_
    refine lv_icmp_lt (tgt := 17) hx hb dX5_bit_10 (by decide) (fun c4 => ?_) (fun c4 => ?_)
    · replace hf := hf.1 c4
      refine lv_iconst (v := 0) hx hb dX5_bit_17 (by decide) ?_
      exact j_X5_bit_18 C0 a K (mI, mA, mL) p0 0 s.heap locs ls hP hD hS (lv_sub hl [0, 1] rfl) hf
    · replace hf := hf.2 c4
      exact j_X5_bit_13 C0 a K (mI, mA, mL) p0 s.heap locs ls hP hD hS (lv_sub hl [0, 1] rfl) hf

def wp_X5_flip_18 (K : ModelS → Prop) : ModelS → Int32 → Int32 → Prop := fun (mI, mA, mL) v1 k0 => ((¬ k0 = 0 → K (va_up mI 0 k0, mA, mL)) ∧ (k0 = 0 → (vp_in v1 200 ∧ (vp_in v1 200 ∧ K (va_up mI 0 k0, va_up mA 31 (upd (mA 31) v1.toNatClampNeg (1 - ((mA 31) v1.toNatClampNeg))), mL)))))
def wp_X5_flip_13 (K : ModelS → Prop) : ModelS → Int32 → Prop := fun (mI, mA, mL) v1 => wp_X5_flip_18 K (mI, mA, mL) v1 1
def wp_X5_flip : ModelS → Int32 → (ModelS → Prop) → Prop := fun (mI, mA, mL) p0 K => ((p0 < 0 → wp_X5_flip_13 K (mI, mA, mL) p0) ∧ (¬ p0 < 0 → ((p0 < mI 32 → wp_X5_flip_18 K (mI, mA, mL) p0 0) ∧ (¬ p0 < mI 32 → wp_X5_flip_13 K (mI, mA, mL) p0))))
set_option maxHeartbeats 4000000 in
set_option maxRecDepth 100000 in
theorem j_X5_flip_18 {p : Program} {l : Launch} {e : Env} {s : State} {m : MethodId} {args : Array Value} {below : List Frame} {meth : Method} {c : Code} {dC : Nat → ClassId} {dI : Nat → Nat → Nat} {y : Nat → ClassId} {A : Nat → Prop} (C0 : Cx p s m args meth c cX5_flip 2 none wsX5_flip RX5 A dC dI y) (a : Nat → Nat) (K : ModelS → Prop) : ∀ (S : ModelS) (v1 : Int32) (k0 : Int32) (H : Heap) (locs : List Loc) (ls : Array Slot), va_P (dC, dI) vwCl (mdW y a S) H → va_D A (mdW y a S) → va_S A s.heap H locs → lv_has ls 2 [(0, .ref (a 0)), (1, .int v1)] → wp_X5_flip_18 K S v1 k0 → W p l e ({ frames := 0, cells := 0, slots := 0, locals := 0 } : Room) s m args below meth c H locs 0 0 (MQ below (va_Qv K (BW dC dI A (fun u => mdW y a u)) A) args s 0 0 A) (F0 m 18 ls [.int k0, .ref (a 0)]) := by
  obtain ⟨hx, hb, hr, hml, hown, hts, hlocks, hA, hK⟩ := id C0
  have w93 := hts (.fieldLink RX5 93 "SharedWireModel" "tape" "[I") (List.mem_of_getElem? (i := 3) rfl)
  have w99 := hts (.fieldLink RX5 99 "SharedWireModel" "thrown" "I") (List.mem_of_getElem? (i := 2) rfl)
  have hinX5 : ∀ w ∈ wsX50, w ∈ wsX5_flip := fun w h => List.mem_cons_of_mem _ (List.mem_append_right _ (h))
  intro S v1 k0 H locs ls hP hD hS hl hf
  obtain ⟨mI, mA, mL⟩ := S
  unfold wp_X5_flip_18 at hf
  refine mput_0 (v := k0) hx hb hts hinX5 hown hK.1 hP hD hS w99 dX5_flip_18 (fun H locs hP hD hS => ?_)
  refine lv_aload_n hx hb dX5_flip_21 rfl (lv_at hl 0 rfl) ?_
  refine va_get (D := (dC, dI)) (ci := 5) (v := .int k0) (C := RX5) (T := TX5) (N := 35) hx hb hts hinX5 hown hK.1 hP 0 rfl rfl 0 (by decide) w99 (fun _ h9 => h9) rfl dX5_flip_22 ?_
  refine lv_if_ne (tgt := 42) hx hb dX5_flip_25 (by decide) (fun c2 => ?_) (fun c2 => ?_)
  · replace hf := hf.1 c2
    exact W.vret hx hb hr (fun t ht hW => ⟨⟨(va_up mI 0 k0, mA, mL), rfl, hf, by rw [ht]; exact hP, hD⟩, hS.F ht⟩) hS.2.2 dX5_flip_42
  · replace hf := hf.2 c2
    refine lv_aload_n hx hb dX5_flip_28 rfl (lv_at hl 0 rfl) ?_
    refine va_get (D := (dC, dI)) (ci := 5) (v := .ref (a 31)) (C := RX5) (T := TX5) (N := 35) hx hb hts hinX5 hown hK.1 hP 0 rfl rfl 31 (by decide) w93 (fun _ h9 => h9) rfl dX5_flip_29 ?_
    refine lv_iload_n hx hb dX5_flip_32 rfl (lv_at hl 1 rfl) ?_
    refine lv_iconst (v := 1) hx hb dX5_flip_33 (by decide) ?_
    refine lv_aload_n hx hb dX5_flip_34 rfl (lv_at hl 0 rfl) ?_
    refine va_get (D := (dC, dI)) (ci := 5) (v := .ref (a 31)) (C := RX5) (T := TX5) (N := 35) hx hb hts hinX5 hown hK.1 hP 0 rfl rfl 31 (by decide) w93 (fun _ h9 => h9) rfl dX5_flip_35 ?_
    refine lv_iload_n hx hb dX5_flip_38 rfl (lv_at hl 1 rfl) ?_
    have g3 := hf.1
    replace hf := hf.2
    refine ar_ild (f := (mA 31)) (j := v1.toNatClampNeg) hx hb hK.1 hP 28 0 rfl rfl rfl g3 dX5_flip_39 ?_
    refine lv_isub hx hb dX5_flip_40 ?_
    have g4 := hf.1
    replace hf := hf.2
    refine mst_31 (f := (mA 31)) (x := 1 - ((mA 31) v1.toNatClampNeg)) (j := v1.toNatClampNeg) hx hb hK.1 hP hD hS rfl rfl g4 dX5_flip_41 (fun H locs hP hD hS => ?_)
    exact W.vret hx hb hr (fun t ht hW => ⟨⟨(va_up mI 0 k0, va_up mA 31 (upd (mA 31) v1.toNatClampNeg (1 - ((mA 31) v1.toNatClampNeg))), mL), rfl, hf, by rw [ht]; exact hP, hD⟩, hS.F ht⟩) hS.2.2 dX5_flip_42
set_option maxHeartbeats 4000000 in
set_option maxRecDepth 100000 in
theorem j_X5_flip_13 {p : Program} {l : Launch} {e : Env} {s : State} {m : MethodId} {args : Array Value} {below : List Frame} {meth : Method} {c : Code} {dC : Nat → ClassId} {dI : Nat → Nat → Nat} {y : Nat → ClassId} {A : Nat → Prop} (C0 : Cx p s m args meth c cX5_flip 2 none wsX5_flip RX5 A dC dI y) (a : Nat → Nat) (K : ModelS → Prop) : ∀ (S : ModelS) (v1 : Int32) (H : Heap) (locs : List Loc) (ls : Array Slot), va_P (dC, dI) vwCl (mdW y a S) H → va_D A (mdW y a S) → va_S A s.heap H locs → lv_has ls 2 [(0, .ref (a 0)), (1, .int v1)] → wp_X5_flip_13 K S v1 → W p l e ({ frames := 0, cells := 0, slots := 0, locals := 0 } : Room) s m args below meth c H locs 0 0 (MQ below (va_Qv K (BW dC dI A (fun u => mdW y a u)) A) args s 0 0 A) (F0 m 13 ls [.ref (a 0)]) := by
  obtain ⟨hx, hb, hr, hml, hown, hts, hlocks, hA, hK⟩ := id C0
  intro S v1 H locs ls hP hD hS hl hf
  obtain ⟨mI, mA, mL⟩ := S
  unfold wp_X5_flip_13 at hf
  refine lv_iconst (v := 1) hx hb dX5_flip_13 (by decide) ?_
  refine lv_goto (tgt := 18) hx hb dX5_flip_14 (by decide) ?_
  exact j_X5_flip_18 C0 a K (mI, mA, mL) v1 1 H locs ls hP hD hS (lv_sub hl [0, 1] rfl) hf
set_option maxHeartbeats 4000000 in
set_option maxRecDepth 100000 in
theorem c_X5_flip (l : Launch) (dC : Nat → ClassId) (dI : Nat → Nat → Nat) (y : Nat → ClassId) (a : Nat → Nat) (sz : Nat) (S : ModelS) (p0 : Int32) (K : ModelS → Prop) (hf : wp_X5_flip S p0 K) : MV l yX5_flip wsX5_flip { frames := 0, cells := 0, slots := 0, locals := 0 } dC dI y [.ref (a 0), .int p0] (mdW y a S) sz (fun u => mdW y a u) K := by
  refine Met.ofW (cc := cX5_flip) (maxL := 2) (ret := none) (by decide) rfl ?_
  intro p e s m args below meth c s₁ B hml hv
  obtain ⟨rfl, hsz, hP, hK, hD0⟩ := hv
  have hx := B.exec
  have hb := B.bytes
  have hr := B.returns
  have hts := atoms_spec (ws := wsX5_flip) B.pre
  have hown : s.vm.findClass RX5 = some m.cls := findClass_of_methodNamed B.named
  have hlocks := B.notSynchronized
  subst hsz
  have hD := hD0.self (sz := s.heap.size)
  generalize hAe : va_A (mdW y a S) s.heap.size = A at hD ⊢
  have hA : ∀ q : Nat, s.heap.size ≤ q → A q := fun q h => by rw [← hAe]; exact Or.inr h
  have hS : va_S A s.heap s.heap [] := va_S.rf
  have C0 : Cx p s m [.ref (a 0), .int p0].toArray meth c cX5_flip 2 none wsX5_flip RX5 A dC dI y := ⟨hx, hb, hr, hml, hown, hts, hlocks, hA, hK⟩
  have w211 := hts (.fieldLink RX5 211 "SharedWireModel" "size" "I") (List.mem_of_getElem? (i := 1) rfl)
  have hinX5 : ∀ w ∈ wsX50, w ∈ wsX5_flip := fun w h => List.mem_cons_of_mem _ (List.mem_append_right _ (h))
  have hl := lv_entry ([.ref (a 0), .int p0]) (n := 2) (Nat.le_of_ble_eq_true rfl)
  rw [lg_entry_eq]
  generalize (lg_sl ([.ref (a 0), .int p0]) ++ List.replicate (2 - (lg_sl ([.ref (a 0), .int p0])).length) Slot.unset).toArray = ls at hl ⊢
  have hl : lv_has ls 2 [(0, .ref (a 0)), (1, .int p0)] := hl
  obtain ⟨mI, mA, mL⟩ := S
  clear hAe hD0
  generalize hL0 : ([] : List Loc) = locs at hS ⊢
  unfold wp_X5_flip at hf
  refine lv_aload_n hx hb dX5_flip_0 rfl (lv_at hl 0 rfl) ?_
  refine lv_iload_n hx hb dX5_flip_1 rfl (lv_at hl 1 rfl) ?_
  refine lv_if_lt (tgt := 13) hx hb dX5_flip_2 (by decide) (fun c1 => ?_) (fun c1 => ?_)
  · replace hf := hf.1 c1
    exact j_X5_flip_13 C0 a K (mI, mA, mL) p0 s.heap locs ls hP hD hS (lv_sub hl [0, 1] rfl) hf
  · replace hf := hf.2 c1
    refine lv_iload_n hx hb dX5_flip_5 rfl (lv_at hl 1 rfl) ?_
    refine lv_aload_n hx hb dX5_flip_6 rfl (lv_at hl 0 rfl) ?_
    refine va_get (D := (dC, dI)) (ci := 5) (v := .int (mI 32)) (C := RX5) (T := TX5) (N := 35) hx hb hts hinX5 hown hK.1 hP 0 rfl rfl 32 (by decide) w211 (fun _ h9 => h9) rfl dX5_flip_7 ?_
    refine lv_icmp_lt (tgt := 17) hx hb dX5_flip_10 (by decide) (fun c5 => ?_) (fun c5 => ?_)
    · replace hf := hf.1 c5
      refine lv_iconst (v := 0) hx hb dX5_flip_17 (by decide) ?_
      exact j_X5_flip_18 C0 a K (mI, mA, mL) p0 0 s.heap locs ls hP hD hS (lv_sub hl [0, 1] rfl) hf
    · replace hf := hf.2 c5
      exact j_X5_flip_13 C0 a K (mI, mA, mL) p0 s.heap locs ls hP hD hS (lv_sub hl [0, 1] rfl) hf

def wp_X5_wipe : ModelS → (Int32 → ModelS → Prop) → Prop := fun (mI, mA, mL) K => (∀ n1 : Int32, n1 = mI 32 → K n1 (va_up (va_up mI 0 0) 32 0, mA, mL))
set_option maxHeartbeats 4000000 in
set_option maxRecDepth 100000 in
theorem c_X5_wipe (l : Launch) (dC : Nat → ClassId) (dI : Nat → Nat → Nat) (y : Nat → ClassId) (a : Nat → Nat) (sz : Nat) (S : ModelS) (K : Int32 → ModelS → Prop) (hf : wp_X5_wipe S K) : MI l yX5_wipe wsX5_wipe { frames := 0, cells := 0, slots := 0, locals := 0 } dC dI y [.ref (a 0)] (mdW y a S) sz (fun u => mdW y a u) K := by
  refine Met.ofW (cc := cX5_wipe) (maxL := 2) (ret := (some .int)) (by decide) rfl ?_
  intro p e s m args below meth c s₁ B hml hv
  obtain ⟨rfl, hsz, hP, hK, hD0⟩ := hv
  have hx := B.exec
  have hb := B.bytes
  have hr := B.returns
  have hts := atoms_spec (ws := wsX5_wipe) B.pre
  have hown : s.vm.findClass RX5 = some m.cls := findClass_of_methodNamed B.named
  have hlocks := B.notSynchronized
  subst hsz
  have hD := hD0.self (sz := s.heap.size)
  generalize hAe : va_A (mdW y a S) s.heap.size = A at hD ⊢
  have hA : ∀ q : Nat, s.heap.size ≤ q → A q := fun q h => by rw [← hAe]; exact Or.inr h
  have hS : va_S A s.heap s.heap [] := va_S.rf
  have C0 : Cx p s m [.ref (a 0)].toArray meth c cX5_wipe 2 (some .int) wsX5_wipe RX5 A dC dI y := ⟨hx, hb, hr, hml, hown, hts, hlocks, hA, hK⟩
  have w99 := hts (.fieldLink RX5 99 "SharedWireModel" "thrown" "I") (List.mem_of_getElem? (i := 1) rfl)
  have w211 := hts (.fieldLink RX5 211 "SharedWireModel" "size" "I") (List.mem_of_getElem? (i := 2) rfl)
  have hinX5 : ∀ w ∈ wsX50, w ∈ wsX5_wipe := fun w h => List.mem_cons_of_mem _ (List.mem_append_right _ (h))
  have hl := lv_entry ([.ref (a 0)]) (n := 2) (Nat.le_of_ble_eq_true rfl)
  rw [lg_entry_eq]
  generalize (lg_sl ([.ref (a 0)]) ++ List.replicate (2 - (lg_sl ([.ref (a 0)])).length) Slot.unset).toArray = ls at hl ⊢
  have hl : lv_has ls 2 [(0, .ref (a 0))] := hl
  obtain ⟨mI, mA, mL⟩ := S
  clear hAe hD0
  generalize hL0 : ([] : List Loc) = locs at hS ⊢
  unfold wp_X5_wipe at hf
  refine lv_aload_n hx hb dX5_wipe_0 rfl (lv_at hl 0 rfl) ?_
  refine lv_iconst (v := 0) hx hb dX5_wipe_1 (by decide) ?_
  refine mput_0 (v := 0) hx hb hts hinX5 hown hK.1 hP hD hS w99 dX5_wipe_2 (fun H locs hP hD hS => ?_)
  refine lv_aload_n hx hb dX5_wipe_5 rfl (lv_at hl 0 rfl) ?_
  refine va_get (D := (dC, dI)) (ci := 5) (v := .int (mI 32)) (C := RX5) (T := TX5) (N := 35) hx hb hts hinX5 hown hK.1 hP 0 rfl rfl 32 (by decide) w211 (fun _ h9 => h9) rfl dX5_wipe_6 ?_
  refine lv_topi (fun n1 en1 => ?_)
  replace hf := hf n1 en1
  refine lv_istore_n (lv' := [(1, .int n1), (0, .ref (a 0))]) hx hb dX5_wipe_9 rfl hl (by decide) rfl (fun ls hl => ?_)
  refine lv_aload_n hx hb dX5_wipe_10 rfl (lv_at hl 1 rfl) ?_
  refine lv_iconst (v := 0) hx hb dX5_wipe_11 (by decide) ?_
  refine mput_32 (v := 0) hx hb hts hinX5 hown hK.1 hP hD hS w211 dX5_wipe_12 (fun H locs hP hD hS => ?_)
  refine lv_iload_n hx hb dX5_wipe_15 rfl (lv_at hl 0 rfl) ?_
  exact W.iret (v := n1) hx hb hr (fun t ht hW => ⟨⟨n1, (va_up (va_up mI 0 0) 32 0, mA, mL), rfl, hf, by rw [ht]; exact hP, hD⟩, hS.F ht⟩) hS.2.2 dX5_wipe_16

def wp_X5_read_12 (K : Int32 → ModelS → Prop) : Nat → ModelS → Int32 → Prop
  | 0, _, _ => False
  | n + 1, (mI, mA, mL), v1 => ((mI 32 ≤ v1 → K (4000 + (mI 32)) (mI, mA, mL)) ∧ (¬ mI 32 ≤ v1 → (vp_in v1 200 ∧ wp_X5_take (mI, mA, mL) 4 ((mA 31) v1.toNatClampNeg) (fun r4 u5 => ((¬ r4 = 9 → ((r4 ≤ 0 → (∀ n8 : Int32, n8 = v1 + 1 → wp_X5_read_12 K n (u5.1, u5.2.1, u5.2.2) n8)) ∧ (¬ r4 ≤ 0 → K ((1000 * r4) + v1) (u5.1, u5.2.1, u5.2.2)))) ∧ (r4 = 9 → ((¬ v1 + 1 = u5.1 32 → K (5001 + v1) (u5.1, u5.2.1, u5.2.2)) ∧ (v1 + 1 = u5.1 32 → K 0 (u5.1, u5.2.1, u5.2.2)))))))))
def wp_X5_read : ModelS → (Int32 → ModelS → Prop) → Prop := fun (mI, mA, mL) K => wp_X5_begin (va_up mI 0 0, mA, mL) 4 (fun u1 => wp_X5_read_12 K 1000 (u1.1, u1.2.1, u1.2.2) 0)
set_option maxHeartbeats 4000000 in
set_option maxRecDepth 100000 in
theorem j_X5_read_12 {p : Program} {l : Launch} {e : Env} {s : State} {m : MethodId} {args : Array Value} {below : List Frame} {meth : Method} {c : Code} {dC : Nat → ClassId} {dI : Nat → Nat → Nat} {y : Nat → ClassId} {A : Nat → Prop} (C0 : Cx p s m args meth c cX5_read 3 (some .int) wsX5_read RX5 A dC dI y) (a : Nat → Nat) (K : Int32 → ModelS → Prop) : ∀ n : Nat, ∀ (S : ModelS) (v1 : Int32) (H : Heap) (locs : List Loc) (ls : Array Slot), va_P (dC, dI) vwCl (mdW y a S) H → va_D A (mdW y a S) → va_S A s.heap H locs → lv_has ls 3 [(0, .ref (a 0)), (1, .int v1)] → wp_X5_read_12 K n S v1 → W p l e ({ frames := 4, cells := 0, slots := 0, locals := 93 } : Room) s m args below meth c H locs 0 0 (MQ below (va_Qi K (BW dC dI A (fun u => mdW y a u)) A) args s 0 0 A) (F0 m 12 ls []) := by
  obtain ⟨hx, hb, hr, hml, hown, hts, hlocks, hA, hK⟩ := id C0
  have w93 := hts (Cond.fieldLink RX5 93 "SharedWireModel" "tape" "[I") (List.mem_of_getElem? (i := 3) rfl)
  have w211 := hts (Cond.fieldLink RX5 211 "SharedWireModel" "size" "I") (List.mem_of_getElem? (i := 2) rfl)
  have hinX5 : ∀ w ∈ wsX50, w ∈ wsX5_read := fun w h => List.mem_cons_of_mem _ (List.mem_append_right _ (h))
  intro n
  induction n with
  | zero =>
    intro S v1 H locs ls hP hD hS hl hf
    exact False.elim (by unfold wp_X5_read_12 at hf; exact hf)
  | succ n ih =>
    intro S v1 H locs ls hP hD hS hl hf
    obtain ⟨mI, mA, mL⟩ := S
    unfold wp_X5_read_12 at hf
    refine lv_iload_n hx hb dX5_read_12 rfl (lv_at hl 1 rfl) ?_
    refine lv_aload_n hx hb dX5_read_13 rfl (lv_at hl 0 rfl) ?_
    refine va_get (D := (dC, dI)) (ci := 5) (v := .int (mI 32)) (C := RX5) (T := TX5) (N := 35) hx hb hts hinX5 hown hK.1 hP 0 rfl rfl 32 (by decide) w211 (fun _ h9 => h9) rfl dX5_read_14 ?_
    refine lv_icmp_ge (tgt := 76) hx hb dX5_read_17 (by decide) (fun c2 => ?_) (fun c2 => ?_)
    · replace hf := hf.1 c2
      refine lv_sipush (v := 4000) hx hb dX5_read_76 (by decide) ?_
      refine lv_aload_n hx hb dX5_read_79 rfl (lv_at hl 0 rfl) ?_
      refine va_get (D := (dC, dI)) (ci := 5) (v := .int (mI 32)) (C := RX5) (T := TX5) (N := 35) hx hb hts hinX5 hown hK.1 hP 0 rfl rfl 32 (by decide) w211 (fun _ h9 => h9) rfl dX5_read_80 ?_
      refine lv_iadd hx hb dX5_read_83 ?_
      exact W.iret (v := 4000 + (mI 32)) hx hb hr (fun t ht hW => ⟨⟨4000 + (mI 32), (mI, mA, mL), rfl, hf, by rw [ht]; exact hP, hD⟩, hS.F ht⟩) hS.2.2 dX5_read_84
    · replace hf := hf.2 c2
      refine lv_aload_n hx hb dX5_read_20 rfl (lv_at hl 0 rfl) ?_
      refine lv_iconst (v := 4) hx hb dX5_read_21 (by decide) ?_
      refine lv_aload_n hx hb dX5_read_22 rfl (lv_at hl 0 rfl) ?_
      refine va_get (D := (dC, dI)) (ci := 5) (v := .ref (a 31)) (C := RX5) (T := TX5) (N := 35) hx hb hts hinX5 hown hK.1 hP 0 rfl rfl 31 (by decide) w93 (fun _ h9 => h9) rfl dX5_read_23 ?_
      refine lv_iload_n hx hb dX5_read_26 rfl (lv_at hl 1 rfl) ?_
      have g3 := hf.1
      replace hf := hf.2
      refine ar_ild (f := (mA 31)) (j := v1.toNatClampNeg) hx hb hK.1 hP 28 0 rfl rfl rfl g3 dX5_read_27 ?_
      refine k0i (As := [.int 4, .int ((mA 31) v1.toNatClampNeg)]) (rest := []) ⟨hx, hb, hml, hown, hts⟩ (c_X5_take l dC dI y a H.size (mI, mA, mL) 4 ((mA 31) v1.toNatClampNeg) _ hf) (cwV 2 hts gX5_read_X5_take rfl rfl rfl (by decide +kernel) ⟨Nat.le_of_ble_eq_true rfl, Nat.le_of_ble_eq_true rfl⟩) hK hP hD (va_recv hK.1 hP (ci := 5) (q0 := 0) rfl rfl) hS hA rfl hl.1 rfl (Nat.le_of_ble_eq_true rfl) dX5_read_28 ⟨Nat.zero_le _, Nat.zero_le _⟩ (fun r4 u5 H locs hf hP hD hS => ?_)
      have hP : va_P (dC, dI) vwCl (mdW y a (u5.1, u5.2.1, u5.2.2)) H := hP
      have hD : va_D A (mdW y a (u5.1, u5.2.1, u5.2.2)) := hD
      refine lv_istore_n (lv' := [(2, .int r4), (0, .ref (a 0)), (1, .int v1)]) hx hb dX5_read_31 rfl hl (by decide) rfl (fun ls hl => ?_)
      refine lv_iload_n hx hb dX5_read_32 rfl (lv_at hl 0 rfl) ?_
      refine lv_bipush (v := 9) hx hb dX5_read_33 (by decide) ?_
      refine lv_icmp_ne (tgt := 58) hx hb dX5_read_35 (by decide) (fun c6 => ?_) (fun c6 => ?_)
      · replace hf := hf.1 c6
        refine lv_iload_n hx hb dX5_read_58 rfl (lv_at hl 0 rfl) ?_
        refine lv_if_le (tgt := 70) hx hb dX5_read_59 (by decide) (fun c7 => ?_) (fun c7 => ?_)
        · replace hf := hf.1 c7
          obtain ⟨n8, en8⟩ : ∃ z : Int32, z = v1 + 1 := ⟨_, rfl⟩
          replace hf := hf n8 en8
          refine lv_iinc (v := n8) (lv' := [(1, .int n8), (2, .int r4), (0, .ref (a 0))]) hx hb dX5_read_70 hl (k := 2) rfl (by rw [en8]; rfl) (by decide) rfl (fun ls hl => ?_)
          refine lv_goto (tgt := 12) hx hb dX5_read_73 (by decide) ?_
          exact ih (u5.1, u5.2.1, u5.2.2) n8 H locs ls hP hD hS (lv_sub hl [2, 0] rfl) hf
        · replace hf := hf.2 c7
          refine lv_sipush (v := 1000) hx hb dX5_read_62 (by decide) ?_
          refine lv_iload_n hx hb dX5_read_65 rfl (lv_at hl 0 rfl) ?_
          refine lv_imul hx hb dX5_read_66 ?_
          refine lv_iload_n hx hb dX5_read_67 rfl (lv_at hl 2 rfl) ?_
          refine lv_iadd hx hb dX5_read_68 ?_
          exact W.iret (v := (1000 * r4) + v1) hx hb hr (fun t ht hW => ⟨⟨(1000 * r4) + v1, (u5.1, u5.2.1, u5.2.2), rfl, hf, by rw [ht]; exact hP, hD⟩, hS.F ht⟩) hS.2.2 dX5_read_69
      · replace hf := hf.2 c6
        refine lv_iload_n hx hb dX5_read_38 rfl (lv_at hl 2 rfl) ?_
        refine lv_iconst (v := 1) hx hb dX5_read_39 (by decide) ?_
        refine lv_iadd hx hb dX5_read_40 ?_
        refine lv_aload_n hx hb dX5_read_41 rfl (lv_at hl 1 rfl) ?_
        refine va_get (D := (dC, dI)) (ci := 5) (v := .int (u5.1 32)) (C := RX5) (T := TX5) (N := 35) hx hb hts hinX5 hown hK.1 hP 0 rfl rfl 32 (by decide) w211 (fun _ h9 => h9) rfl dX5_read_42 ?_
        refine lv_icmp_ne (tgt := 52) hx hb dX5_read_45 (by decide) (fun c9 => ?_) (fun c9 => ?_)
        · replace hf := hf.1 c9
          refine lv_sipush (v := 5001) hx hb dX5_read_52 (by decide) ?_
          refine lv_iload_n hx hb dX5_read_55 rfl (lv_at hl 2 rfl) ?_
          refine lv_iadd hx hb dX5_read_56 ?_
          exact W.iret (v := 5001 + v1) hx hb hr (fun t ht hW => ⟨⟨5001 + v1, (u5.1, u5.2.1, u5.2.2), rfl, hf, by rw [ht]; exact hP, hD⟩, hS.F ht⟩) hS.2.2 dX5_read_57
        · replace hf := hf.2 c9
          refine lv_iconst (v := 0) hx hb dX5_read_48 (by decide) ?_
          refine lv_goto (tgt := 57) hx hb dX5_read_49 (by decide) ?_
          exact W.iret (v := 0) hx hb hr (fun t ht hW => ⟨⟨0, (u5.1, u5.2.1, u5.2.2), rfl, hf, by rw [ht]; exact hP, hD⟩, hS.F ht⟩) hS.2.2 dX5_read_57
set_option maxHeartbeats 4000000 in
set_option maxRecDepth 100000 in
theorem c_X5_read (l : Launch) (dC : Nat → ClassId) (dI : Nat → Nat → Nat) (y : Nat → ClassId) (a : Nat → Nat) (sz : Nat) (S : ModelS) (K : Int32 → ModelS → Prop) (hf : wp_X5_read S K) : MI l yX5_read wsX5_read { frames := 4, cells := 0, slots := 0, locals := 93 } dC dI y [.ref (a 0)] (mdW y a S) sz (fun u => mdW y a u) K := by
  refine Met.ofW (cc := cX5_read) (maxL := 3) (ret := (some .int)) (by decide) rfl ?_
  intro p e s m args below meth c s₁ B hml hv
  obtain ⟨rfl, hsz, hP, hK, hD0⟩ := hv
  have hx := B.exec
  have hb := B.bytes
  have hr := B.returns
  have hts := atoms_spec (ws := wsX5_read) B.pre
  have hown : s.vm.findClass RX5 = some m.cls := findClass_of_methodNamed B.named
  have hlocks := B.notSynchronized
  subst hsz
  have hD := hD0.self (sz := s.heap.size)
  generalize hAe : va_A (mdW y a S) s.heap.size = A at hD ⊢
  have hA : ∀ q : Nat, s.heap.size ≤ q → A q := fun q h => by rw [← hAe]; exact Or.inr h
  have hS : va_S A s.heap s.heap [] := va_S.rf
  have C0 : Cx p s m [.ref (a 0)].toArray meth c cX5_read 3 (some .int) wsX5_read RX5 A dC dI y := ⟨hx, hb, hr, hml, hown, hts, hlocks, hA, hK⟩
  have w99 := hts (Cond.fieldLink RX5 99 "SharedWireModel" "thrown" "I") (List.mem_of_getElem? (i := 1) rfl)
  have hinX5 : ∀ w ∈ wsX50, w ∈ wsX5_read := fun w h => List.mem_cons_of_mem _ (List.mem_append_right _ (h))
  have hl := lv_entry ([.ref (a 0)]) (n := 3) (Nat.le_of_ble_eq_true rfl)
  rw [lg_entry_eq]
  generalize (lg_sl ([.ref (a 0)]) ++ List.replicate (3 - (lg_sl ([.ref (a 0)])).length) Slot.unset).toArray = ls at hl ⊢
  have hl : lv_has ls 3 [(0, .ref (a 0))] := hl
  obtain ⟨mI, mA, mL⟩ := S
  clear hAe hD0
  generalize hL0 : ([] : List Loc) = locs at hS ⊢
  unfold wp_X5_read at hf
  refine lv_aload_n hx hb dX5_read_0 rfl (lv_at hl 0 rfl) ?_
  refine lv_iconst (v := 0) hx hb dX5_read_1 (by decide) ?_
  refine mput_0 (v := 0) hx hb hts hinX5 hown hK.1 hP hD hS w99 dX5_read_2 (fun H locs hP hD hS => ?_)
  refine lv_aload_n hx hb dX5_read_5 rfl (lv_at hl 0 rfl) ?_
  refine lv_iconst (v := 4) hx hb dX5_read_6 (by decide) ?_
  refine k0v (As := [.int 4]) (rest := []) ⟨hx, hb, hml, hown, hts⟩ (c_X5_begin l dC dI y a H.size (va_up mI 0 0, mA, mL) 4 _ hf) (cwV 1 hts gX5_read_X5_begin rfl rfl rfl (by decide +kernel) ⟨Nat.le_of_ble_eq_true rfl, Nat.le_of_ble_eq_true rfl⟩) hK hP hD (va_recv hK.1 hP (ci := 5) (q0 := 0) rfl rfl) hS hA rfl hl.1 rfl (Nat.le_of_ble_eq_true rfl) dX5_read_7 ⟨Nat.zero_le _, Nat.zero_le _⟩ (fun u1 H locs hf hP hD hS => ?_)
  have hP : va_P (dC, dI) vwCl (mdW y a (u1.1, u1.2.1, u1.2.2)) H := hP
  have hD : va_D A (mdW y a (u1.1, u1.2.1, u1.2.2)) := hD
  refine lv_iconst (v := 0) hx hb dX5_read_10 (by decide) ?_
  refine lv_istore_n (lv' := [(1, .int 0), (0, .ref (a 0))]) hx hb dX5_read_11 rfl hl (by decide) rfl (fun ls hl => ?_)
  exact j_X5_read_12 C0 a K 1000 (u1.1, u1.2.1, u1.2.2) 0 H locs ls hP hD hS (lv_sub hl [1, 0] rfl) hf
