/-! throwing: the premises of a throw, its contract, the step itself -/
def thD (X : String) : MethodName := ⟨X, "<init>", "(Ljava/lang/String;)V"⟩
def gC (U : State) : Prop := va_Nw (.castable "java/lang/IllegalArgumentException" "java/lang/IllegalArgumentException") U ∧ va_Nw (.declares (thD "java/lang/RuntimeException")) U ∧ va_Nw (.declares (thD "java/lang/Exception")) U ∧ va_Nw (.declares (thD "java/lang/Throwable")) U
theorem gC.moved {s U : State} (hW : s.WarmedH U.vm) (h : gC s) : gC U := ⟨va_Nw.warmC hW h.1, va_Nw.warmD hW h.2.1, va_Nw.warmD hW h.2.2.1, va_Nw.warmD hW h.2.2.2⟩
theorem gC.same {s U : State} (hv : s.vm = U.vm) (h : gC s) : gC U := ⟨va_Nw.same rfl hv h.1, va_Nw.same rfl hv h.2.1, va_Nw.same rfl hv h.2.2.1, va_Nw.same rfl hv h.2.2.2⟩
def gTh (is : Nat) (tx : String) (U : State) : Prop := (∃ sa : Nat, vk_R RX3 is tx sa U) ∧ gC U
def gZ (A : Nat → Prop) (U : State) (H : Heap) : Prop := vx_Zq Bundle.tN "UNASSIGNED_STACK" Bundle.steD A U H ∧ vx_Zq Bundle.tN "SUPPRESSED_SENTINEL" Bundle.listD A U H
theorem gTh.moved {is : Nat} {tx : String} {s U : State} (hW : s.WarmedH U.vm) (h : gTh is tx s) : gTh is tx U := ⟨h.1.elim (fun sa h1 => ⟨sa, vk_R.warm hW h1⟩), gC.moved hW h.2⟩
theorem gTh.calling {is : Nat} {tx : String} {U : State} {g : JFrame} {mk : MethodId} {a : Array Value} (h : gTh is tx U) : gTh is tx (U.calling g mk a) := ⟨h.1.elim (fun sa h1 => ⟨sa, vk_R.same (u := U) (U := U.calling g mk a) rfl h1⟩), gC.same (show U.vm = (U.calling g mk a).vm from rfl) h.2⟩
theorem gZ.calling {A : Nat → Prop} {U : State} {g : JFrame} {mk : MethodId} {a : Array Value} {H : Heap} (h : gZ A U H) : gZ A (U.calling g mk a) H := ⟨vx_Zq.moved (u := U) (U := U.calling g mk a) (Vm.Alike.refl U.vm) h.1, vx_Zq.moved (u := U) (U := U.calling g mk a) (Vm.Alike.refl U.vm) h.2⟩
theorem gZ.moved {A : Nat → Prop} {s U : State} {H : Heap} (hvm : s.vm.Alike U.vm) (h : gZ A s H) : gZ A U H := ⟨vx_Zq.moved hvm h.1, vx_Zq.moved hvm h.2⟩
theorem gZ.kept {A : Nat → Prop} {U : State} {H H1 : Heap} (h : gZ A U H) (hq : ∀ a : Nat, a < H.size → ¬ A a → H1[a]? = H[a]?) : gZ A U H1 := ⟨h.1.kept hq, h.2.kept hq⟩
theorem gZ.narrow {A B : Nat → Prop} {U : State} {H : Heap} (h : gZ A U H) (hAB : ∀ q, B q → A q) : gZ B U H := ⟨h.1.narrow hAB, h.2.narrow hAB⟩
/-- the premises of a throw, at a later heap -/
theorem gZ.at {A : Nat → Prop} {s U : State} {H : Heap} {locs : List Loc} (hW : s.WarmedH U.vm) (hU : U.heap = H) (hS : va_S A s.heap H locs) (hA : ∀ q, s.heap.size ≤ q → A q) (h : gZ A s s.heap) : gZ (va_A [] H.size) U U.heap := by
  rw [hU]
  exact ((h.kept hS.2.1).moved hW.alike).narrow (fun q hq => hA q (Nat.le_trans hS.1 (nA hq)))
def gT (G : va_G) (cI : ClassId) (is : Nat) (tx : String) (ws : va_W) (sz : Nat) (U : State) : Prop := U.heap.size = sz ∧ va_P G vwCl ws U.heap ∧ gK G cI U ∧ gTh is tx U ∧ gZ (va_A [] sz) U U.heap
theorem gT.blind {G : va_G} {cI : ClassId} {is : Nat} {tx : String} {ws : va_W} {sz : Nat} {av : List Value} : FrameBlind (va_Pc av (gT G cI is tx ws sz)) := fun _ _ _ _ q => ⟨q.1, q.2.1, q.2.2.1, q.2.2.2.1.calling, q.2.2.2.2.1.calling, q.2.2.2.2.2.calling⟩
abbrev mTX (sz : Nat) : String → State → State → Prop := vx_X (fun (_ : Unit) => True) (fun (E : String) _ _ => E = "java/lang/IllegalArgumentException") (va_A [] sz)
abbrev mTv (l : Launch) (y : MethodName) (ws : List Cond) (rm : Room) (av : List Value) (G : va_G) (cI : ClassId) (is : Nat) (tx : String) (wc : va_W) (sz : Nat) : Prop := vx_Met l y ws rm (va_Pc av (gT G cI is tx wc sz)) (va_Qv (fun (_ : Unit) => False) (fun _ _ => True) (va_A [] sz)) (mTX sz) 1 6 (va_A [] sz)
abbrev mTi (l : Launch) (y : MethodName) (ws : List Cond) (rm : Room) (av : List Value) (G : va_G) (cI : ClassId) (is : Nat) (tx : String) (wc : va_W) (sz : Nat) : Prop := vx_Met l y ws rm (va_Pc av (gT G cI is tx wc sz)) (va_Qi (fun (_ : Int32) (_ : Unit) => False) (fun _ _ => True) (va_A [] sz)) (mTX sz) 1 6 (va_A [] sz)
theorem th_fit : ∀ n ∈ ["java/lang/RuntimeException", "java/lang/Exception"], Bundle.fit n = true := by decide +kernel
theorem th_fit0 : Bundle.fit "java/lang/IllegalArgumentException" = true := by decide +kernel
theorem th_bad : ∀ w ∈ (vx_atS RX3 36 "java/lang/IllegalArgumentException" ["java/lang/RuntimeException", "java/lang/Exception"]).filter (fun w => !goodWord w), w ∈ [Cond.castable "java/lang/IllegalArgumentException" "java/lang/IllegalArgumentException", Cond.declares (thD "java/lang/RuntimeException"), Cond.declares (thD "java/lang/Exception"), Cond.declares (thD "java/lang/Throwable")] := by decide +kernel
theorem th_ot : ∀ w ∈ Cond.classLink RX3 32 "java/lang/IllegalArgumentException" :: Cond.initialized "java/lang/IllegalArgumentException" :: vx_atS RX3 36 "java/lang/IllegalArgumentException" ["java/lang/RuntimeException", "java/lang/Exception"], vx_ot w = true := by decide +kernel
section Thr
variable {p : Program} {l : Launch} {e : Env} {R : Room} {s : State} {m : MethodId} {args : Array Value} {below : List Frame} {meth : Method} {c : Code} {H : Heap} {locs : List Loc} {cells slots : Nat} {free : Addr → Prop} {ls : Array Slot} {Qc : Array Value → State → Outcome → State → Prop} {XC : String → State → State → Prop}
theorem thX3 {cc : ByteArray} {pc is sa mc ms : Nat} {tx : String} {A : Nat → Prop} (hx : p.tables.exec = Jvm.exec) (hb : c.code = cc) (hl : l.stackTraces = false) (hown : s.vm.findClass RX3 = some m.cls)
    (hk : (Cond.classLink RX3 32 "java/lang/IllegalArgumentException").before args s = true) (hini : (Cond.initialized "java/lang/IllegalArgumentException").before args s = true) (hstr : vk_R RX3 is tx sa s) (hcs : gC s)
    (hat : ∀ w ∈ (vx_atS RX3 36 "java/lang/IllegalArgumentException" ["java/lang/RuntimeException", "java/lang/Exception"]).filter goodWord, w.before args s = true)
    (hZ : gZ A s s.heap) (hS : va_S A s.heap H locs) (hsize : ls.size = c.maxLocals)
    (d0 : decode cc pc = .ok (.new 32, 3)) (d3 : decode cc (pc + 3) = .ok (.dup, 1)) (d4 : decode cc (pc + 4) = .ok (.ldc is, 2)) (d6 : decode cc (pc + 6) = .ok (.invokespecial 36, 3)) (d9 : decode cc (pc + 9) = .ok (.athrow, 1))
    (hout : ∀ x ∈ c.exceptionTable.toList, covers x (pc + 9) = false)
    (hRframes : 6 ≤ R.frames) (hRlocals : 82 ≤ R.locals) (hRcells : cells + 1 ≤ R.cells) (hRslots : slots + 6 ≤ R.slots) (hlocks : meth.locks = false)
    (hX : ∀ t : State, s.vm.Alike t.vm → H.size ≤ t.heap.size → (∀ q : Nat, q < H.size → t.heap[q]? = H[q]?) → XC "java/lang/IllegalArgumentException" s t)
    (hf : ∀ z ∈ locs, free z.base) (hc : cells + 1 ≤ mc) (hs : slots + 6 ≤ ms) :
    W p l e R s m args below meth c H locs cells slots (vx_MQ below Qc XC args s mc ms free) (F0 m pc ls []) :=
  vx_throwS (names := ["java/lang/RuntimeException", "java/lang/Exception"]) hx hb hl hown th_fit0 th_fit hk hini hstr (vx_hat hat th_bad (vx_c (va_Nw.use rfl hcs.1) (vx_c (va_Nw.use rfl hcs.2.1) (vx_c (va_Nw.use rfl hcs.2.2.1) (vx_c (va_Nw.use rfl hcs.2.2.2) vx_n))))) th_ot hZ.1 hZ.2 hS hsize d0 d3 d4 d6 d9 hout hRframes hRlocals hRcells hRslots hlocks hX hf hc hs
end Thr
