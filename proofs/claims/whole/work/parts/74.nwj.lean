/-! the long's array -/
section NwJ
variable {p : Program} {l : Launch} {e : Env} {R : Room} {s : State} {m : MethodId} {args : Array Value} {below : List Frame} {meth : Method} {c : Code} {H H0 : Heap} {locs : List Loc} {cells slots : Nat} {Q : State → Prop} {A0 : Nat → Prop} {pc : Nat} {ls : Array Slot} {cc : ByteArray} {G : va_G} {cI cJ : ClassId} {wA : va_W} {rest : List Value}
theorem nwJ (hexec : p.tables.exec = Jvm.exec) (hb : c.code = cc) (harr : (Cond.arrayClass .long).before args s = true) (hK : gK2 G cI cJ s) (hP : va_P G vwCl wA H) (hD : va_D A0 wA) (hS : va_S A0 H0 H locs) (hA : ∀ q, H0.size ≤ q → A0 q) {n : Int32} {N : Nat} (hn : ¬ n < 0) (hN : n.toNatClampNeg = N) (hbytes : N * componentBytes .long ≤ 536870912) (hcells : cells + 1 ≤ R.cells) (hslots : slots + N ≤ R.slots) (hdg : decode cc pc = .ok (.newarray .long, 2))
    (kk : ∀ (q : Nat) (H1 : Heap), va_P G vwCl (wA ++ [(q, .inl (cJ, N, .inr (.inl (fun _ => 0))))]) H1 → va_D A0 (wA ++ [(q, .inl (cJ, N, .inr (.inl (fun _ => 0))))]) → va_S A0 H0 H1 locs → W p l e R s m args below meth c H1 locs (cells + 1) (slots + N) Q (F0 m (pc + 2) ls (.ref q :: rest))) : W p l e R s m args below meth c H locs cells slots Q (F0 m pc ls (.int n :: rest)) := by
  refine va_newa (atype := .long) (ty := .long) hexec hb harr rfl hK.1 hP hD hS hA (a0 := (N, .inr (.inl (fun _ => 0)))) (fun cA => rfl) hn hN hbytes hcells hslots hdg (fun q cA H1 hK1 hP1 hD1 hS1 => ?_)
  have h0 := (hK1.2 1 (cJ, .long) rfl).2
  have h1 := (hK1.2 2 (cA, .long) rfl).2
  have h0' : s.vm.findClass ("[" ++ FieldType.long.toString) = some cJ := h0
  have h1' : s.vm.findClass ("[" ++ FieldType.long.toString) = some cA := h1
  have he : cA = cJ := Option.some.inj (h1'.symm.trans h0')
  subst he
  exact kk q H1 hP1 hD1 hS1
end NwJ
