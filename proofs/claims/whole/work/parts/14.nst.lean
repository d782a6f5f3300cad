/-! a store into a node's row of wanted frames -/
section NS
variable {p : Program} {l : Launch} {e : Env} {R : Room} {s : State} {m : MethodId} {args : Array Value} {below : List Frame} {meth : Method} {c : Code} {H : Heap} {locs : List Loc} {cells slots : Nat} {Q : State → Prop}
variable {cc : ByteArray} {pc : Nat} {ls : Array Slot} {rest : List Value} {dC : Nat → ClassId} {dI : Nat → Nat → Nat} {y : Nat → ClassId} {a : NodeA} {B : Nat → Prop} {H0 : Heap} {g : Nat → Nat} {N : NodeS}
theorem nst (hexec : p.tables.exec = Jvm.exec) (hb : c.code = cc) (hK : va_K (dC, dI) vwCl (ty5 y) s) (hP : va_P (dC, dI) vwCl (ndX y a g N) H) (hD : va_D B (ndX y a g N)) (hS : va_S B H0 H locs) {i : Int32} {j k : Nat} (hk : (ndX y a g N)[2 + k]? = some (a.2.2.1 k, frE (N.2.2.2.2.2.2.2.2.2.2.2.1 k))) (hj : i.toNatClampNeg = j) (hin : vp_in i 4) (hdg : decode cc pc = .ok (.aastore, 1))
    (kk : ∀ (H1 : Heap) (locs1 : List Loc), va_P (dC, dI) vwCl (ndX y a (va_up g j (a.2.2.1 k)) N) H1 → va_D B (ndX y a (va_up g j (a.2.2.1 k)) N) → va_S B H0 H1 locs1 → W p l e R s m args below meth c H1 locs1 cells slots Q (F0 m (pc + 1) ls rest)) : W p l e R s m args below meth c H locs cells slots Q (F0 m pc ls (.ref (a.2.2.1 k) :: .int i :: .ref a.2.1 :: rest)) := by
  subst hj
  refine va_astq hexec hb hK hP hD hS 1 3 (2 + k) 0 rfl rfl hk rfl hin hdg (fun H1 locs1 h1 h2 h3 => ?_)
  rw [up_some] at h1 h2
  exact kk H1 locs1 h1 h2 h3
end NS
