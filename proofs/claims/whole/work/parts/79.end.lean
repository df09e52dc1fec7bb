/-! THE CLAIM OUT OF ONE WALK OF THE LAW'S BODY. Your part is whole_start (and what it stands on); all else here is the same for every law, but numbers. -/
def R_law : String := "SternDeskLaw"
def lw_P (b : Addr) (xs : List Int32) (args : Array Value) (s : State) : Prop := args = #[.ref b] ∧ s.IntsAt b xs ∧ xs.length ≤ 2560 ∧ (Jvm.Cond.and given_1 narrow_1).before args s = true
def lw_Q (_ : Array Value) (s : State) (o : Outcome) (t : State) : Prop := o = .returned (some (.int 1)) ∧ Framed s o t [] 601024 7293034
def lw_Z (below : List Frame) (a : Array Value) (s : State) : State → Prop := fun t => ∃ o, t.status = .running ∧ Ended t below o ∧ lw_Q a s o t
/-- the law's own end, with 1 on the stack, nothing written that was there before, its room as the claim has it -/
theorem lw_ret {p : Program} {l : Launch} {e : Env} {s : State} {m : MethodId} {below : List Frame} {meth : Method} {c : Code} {b : Nat} (hx : p.tables.exec = Jvm.exec) (hb : c.code = code) (hr : meth.sig.returnType = ret) (hlocks : meth.locks = false) {pc : Nat} {H : Heap} {ls : Array Slot} (hdg : decode code pc = .ok (.ireturn, 1)) : W p l e room_1 s m #[Value.ref b] below meth c H [] 601024 7293034 (lw_Z below #[Value.ref b] s) (F0 m pc ls [.int 1]) := by
  intro T hT X
  obtain ⟨fs, hret, hrun, hended, hW, hframe⟩ := X.leave (v := some (.int 1)) (hlocks := hlocks) (fun h => by rw [hr] at h; cases h)
  have hmeth' : T.vm.method? m = some meth := X.method'
  refine ⟨T.setFrames fs, ?_, .returned (some (.int 1)), hrun, hended, rfl, ⟨_, rfl⟩, hW, hframe⟩
  jvm_step X.here [X.here.top, hx, hb, hdg, hmeth', hr, ret, narrow_b1]
  (try refine ⟨rfl, ?_⟩); (try refine ⟨rfl, ?_⟩)
  first | (intro acts; rw [hret _ acts rfl rfl rfl]) | rw [hret _ _ rfl rfl rfl]
  exact Steps.refl _
/-- what holds at the law's entry: the machine, the code, the tables' words (any of lw_tbl by 'hts w (by decide +kernel)'), the script of L ints xs at the cell b, what the Statement gives of the start (any of its parts by flat_of_before) -/
def lw_At (p : Program) (s : State) (m : MethodId) (meth : Method) (c : Code) (b L : Nat) (xs : Nat → Int32) : Prop :=
  p.tables.exec = Jvm.exec ∧ c.code = code ∧ meth.sig.returnType = ret ∧ c.maxLocals = 7 ∧ s.vm.findClass R_law = some m.cls ∧ (∀ w ∈ lw_tbl, w.before #[Value.ref b] s = true) ∧ va_X b L xs s s.heap ∧ b < s.heap.size ∧ meth.locks = false ∧ (Jvm.Cond.and given_1 narrow_1).before #[Value.ref b] s = true
-- ===== YOUR PART BEGINS =====
set_option maxHeartbeats 4000000 in
set_option maxRecDepth 100000 in
/-- YOUR PART: from the entry, for every script of at most 2560 ints, the law comes to its end with true -/
theorem whole_start {p : Program} {e : Env} {s : State} {m : MethodId} {below : List Frame} {meth : Method} {c : Code} (l : Launch) (hl0 : l.stackTraces = false) {b L : Nat} {xs : Nat → Int32} (hL : L ≤ 2560) (C0 : lw_At p s m meth c b L xs) : W p l e room_1 s m #[Value.ref b] below meth c s.heap [] 0 0 (lw_Z below #[Value.ref b] s) (entryFrame m ([Value.ref b] : List Value).toArray 7) := by
  obtain ⟨hx, hb, hr, hml, hown, hts0, hX, hbl, hlocks, hgv⟩ := C0
  have hb : c.code = cL_law := hb
  have hown : s.vm.findClass RL = some m.cls := hown
  have hts : ∀ w ∈ wsL_law, w.before #[Value.ref b] s = true := fun w h => hts0 w (wsL_law_in w h)
  have hfl := flat_of_before _ hgv
  obtain ⟨A, hAd⟩ : ∃ A : Nat → Prop, A = fun q => s.heap.size ≤ q := ⟨_, rfl⟩
  have hA : ∀ q : Nat, s.heap.size ≤ q → A q := fun q h => by rw [hAd]; exact h
  have hAs : ∀ q : Nat, A q → s.heap.size ≤ q := fun q h => by rw [hAd] at h; exact h
  have hAn : ∀ q : Nat, q < s.heap.size → ¬ A q := fun q h h2 => absurd (hAs q h2) (Nat.not_le.mpr h)
  have hbA : ¬ A b := hAn b hbl
  obtain ⟨d0, iS0, hKn0⟩ := u_known (C := RX0) (T := TX0) (N := 4) (n := 4) hts inlX0 (hts (.instantiable RX0 4) (by decide +kernel))
  obtain ⟨d1, iS1, hKn1⟩ := u_known (C := RX1) (T := TX1) (N := 2) (n := 2) hts inlX1 (hts (.instantiable RX1 2) (by decide +kernel))
  obtain ⟨d2, iS2, hKn2⟩ := u_known (C := RX2) (T := TX2) (N := 1) (n := 1) hts inlX2 (hts (.instantiable RX2 1) (by decide +kernel))
  obtain ⟨d3, iS3, hKn3⟩ := u_known (C := RX3) (T := TX3) (N := 2) (n := 2) hts inlX3 (hts (.instantiable RX3 2) (by decide +kernel))
  obtain ⟨d4, iS4, hKn4⟩ := u_known (C := RX4) (T := TX4) (N := 11) (n := 11) hts inlX4 (hts (.instantiable RX4 11) (by decide +kernel))
  obtain ⟨G, hKc⟩ : ∃ G : va_G, ∀ (k : Nat) (q : vw_C), vwCl[k]? = some q → u_Kn s q.1 q.2.1 q.2.2 (G.1 k) (G.2 k) := by
    refine ⟨(fun k => if k = 0 then d0 else if k = 1 then d1 else if k = 2 then d2 else if k = 3 then d3 else d4, fun k => if k = 0 then iS0 else if k = 1 then iS1 else if k = 2 then iS2 else if k = 3 then iS3 else iS4), ?_⟩
    intro k q hq
    match k, hq with
    | 0, hq => cases hq; exact hKn0
    | 1, hq => cases hq; exact hKn1
    | 2, hq => cases hq; exact hKn2
    | 3, hq => cases hq; exact hKn3
    | 4, hq => cases hq; exact hKn4
    | k + 5, hq => simp [vwCl] at hq
  obtain ⟨cI, kI, oI, i1, i2, i3⟩ := Cond.arrayClass_spec (hts (.arrayClass .int) (by decide +kernel))
  obtain ⟨cJ, kJ, oJ, j1, j2, j3⟩ := Cond.arrayClass_spec (hts (.arrayClass .long) (by decide +kernel))
  have hK2 : gK2 G cI cJ s := by
    refine ⟨⟨hKc, fun k q hq => ?_⟩, va_Nw.of rfl (hts0 (.methodLinkNest RX2 23 yX3_sumOfFloors "SternDesk") (by decide +kernel)), va_Nw.of rfl (hts0 (.methodLinkNest RX3 9 yX0_init "SternDesk") (by decide +kernel))⟩
    match k, hq with
    | 0, hq => cases hq; exact ⟨fun n z => ⟨fun k h => (by cases h), kI, i2, oI, i3⟩, i1⟩
    | 1, hq => cases hq; exact ⟨fun n z => ⟨fun k h => (by cases h), kJ, j2, oJ, j3⟩, j1⟩
    | k + 2, hq => simp at hq
  have hK := hK2.K
  have hC : gC s := ⟨va_Nw.of rfl (hts0 (.castable "java/lang/IllegalArgumentException" "java/lang/IllegalArgumentException") (by decide +kernel)), va_Nw.of rfl (hts0 (.declares (thD "java/lang/RuntimeException")) (by decide +kernel)), va_Nw.of rfl (hts0 (.declares (thD "java/lang/Exception")) (by decide +kernel)), va_Nw.of rfl (hts0 (.declares (thD "java/lang/Throwable")) (by decide +kernel))⟩
  have hT1 : gTh 34 "top must be 0 .. 100000, bottom 1 .. 100000" s := by
    obtain ⟨sa, _, _, _, q1, _⟩ := Cond.exactly_spec (hfl (.exactly (.string "SternDesk" 34) "java/lang/String") (by decide +kernel))
    exact ⟨⟨sa, vk_R.of (A := #[Value.ref b]) (hts0 (.stringRef RX3 34 "top must be 0 .. 100000, bottom 1 .. 100000") (by decide +kernel)) q1⟩, hC⟩
  have hT2 : gTh 96 "n must be 1 .. 1000, way 0 .. 2, what 0 or 1" s := by
    obtain ⟨sa, _, _, _, q1, _⟩ := Cond.exactly_spec (hfl (.exactly (.string "SternDesk" 96) "java/lang/String") (by decide +kernel))
    exact ⟨⟨sa, vk_R.of (A := #[Value.ref b]) (hts0 (.stringRef RX3 96 "n must be 1 .. 1000, way 0 .. 2, what 0 or 1") (by decide +kernel)) q1⟩, hC⟩
  have hT3 : gTh 105 "tops must be 0 .. 5000, bottoms 1 .. 5000" s := by
    obtain ⟨sa, _, _, _, q1, _⟩ := Cond.exactly_spec (hfl (.exactly (.string "SternDesk" 105) "java/lang/String") (by decide +kernel))
    exact ⟨⟨sa, vk_R.of (A := #[Value.ref b]) (hts0 (.stringRef RX3 105 "tops must be 0 .. 5000, bottoms 1 .. 5000") (by decide +kernel)) q1⟩, hC⟩
  have hZ : gZ A s s.heap := ⟨vx_Zqof (hts0 (.laysStatic Bundle.tN "UNASSIGNED_STACK" Bundle.steD) (by decide +kernel)) (hts0 (.initialized Bundle.tN) (by decide +kernel)) (hfl (.isRef (.static Bundle.tN "UNASSIGNED_STACK" Bundle.steD)) (by decide +kernel)) hAn, vx_Zqof (hts0 (.laysStatic Bundle.tN "SUPPRESSED_SENTINEL" Bundle.listD) (by decide +kernel)) (hts0 (.initialized Bundle.tN) (by decide +kernel)) (hfl (.isRef (.static Bundle.tN "SUPPRESSED_SENTINEL" Bundle.listD)) (by decide +kernel)) hAn⟩
  have C : LC l p s m c b L xs A G cI cJ := ⟨hx, hb, hml, hown, hts, hX, hbl, hbA, hA, hK2, hl0, hT1, hT2, hT3, hZ⟩
  have hS : va_S A s.heap s.heap [] := va_S.rf
  have hP : va_P G vwCl [] s.heap := fun k q h => by simp at h
  have hD : va_D A [] := ⟨fun i j p q h => by simp at h, fun k q h => by simp at h⟩
  have hl := lv_entry ([.ref b]) (n := 7) (Nat.le_of_ble_eq_true rfl)
  rw [lg_entry_eq]
  generalize (lg_sl ([.ref b]) ++ List.replicate (7 - (lg_sl ([.ref b])).length) Slot.unset).toArray = ls at hl ⊢
  have hl : lv_has ls 7 [(0, .ref b)] := hl
  obtain ⟨qs, ts, bs, cn, mo, hf3, hSO, hR⟩ := init3
  obtain ⟨mte, mru, hf4⟩ := init4
  refine va_new (ci := 3) (fs := [.null, .null]) (C := RX3) (T := TX3) (N := 2) hx hb hts inlX3 tyX3 tyX3_ok hown (hts (.classLink RL 8 RX3) (by decide +kernel)) (hts (.instantiable RX3 2) (by decide +kernel)) (hts (.initialized RX3) (by decide +kernel)) hK.1 hP hD hS hA rfl (fun j hj => by rcases (show j = 0 ∨ j = 1 by omega) with rfl | rfl <;> rfl) (Nat.le_of_ble_eq_true rfl) (Nat.le_of_ble_eq_true rfl) dL_law_0 (fun h H hP hD hS => ?_)
  have hP : va_P G vwCl [(h, .inr (3, [.null, .null]))] H := hP
  have hD : va_D A [(h, .inr (3, [.null, .null]))] := hD
  refine lv_dup hx hb dL_law_3 rfl ?_
  refine jcIv (As := []) (rest := [.ref h]) (wr := []) (wc := [(h, .inr (3, [.null, .null]))]) ⟨hx, hb, hml, hown, hts⟩ (zX3_init l G cI _ h hf3) (cwI 0 hts gL_law_X3_init rfl rfl rfl (hts (.initialized RX3) (by decide +kernel)) (hts (.methodLink RL 23 yX3_init) (by decide +kernel)) (hts (.instanceMethod yX3_init) (by decide +kernel)) rfl (by decide +kernel) ⟨Nat.le_of_ble_eq_true rfl, Nat.le_of_ble_eq_true rfl⟩) hK hP hD [0] [] rfl rfl rfl (by decide) (by decide) (by decide) rfl hl.1 rfl (Nat.le_of_ble_eq_true rfl) dL_law_4 ⟨Nat.le_of_ble_eq_true rfl, Nat.le_of_ble_eq_true rfl⟩ hS hA (fun u H locs hP hD hz hS => ?_)
  obtain ⟨e0, a1, a2, a3, r0, a4⟩ := u
  have hP : va_P G vwCl [(h, .inr (3, [.ref e0, .ref r0])), (e0, .inr (0, [.ref a1, .ref a2, .ref a3, .int cn])), (a1, .inl (cI, 32, .inl qs)), (a2, .inl (cI, 33, .inl ts)), (a3, .inl (cI, 33, .inl bs)), (r0, .inr (2, [.ref a4])), (a4, .inl (cI, 201, .inl mo))] H := hP
  have hD : va_D A [(h, .inr (3, [.ref e0, .ref r0])), (e0, .inr (0, [.ref a1, .ref a2, .ref a3, .int cn])), (a1, .inl (cI, 32, .inl qs)), (a2, .inl (cI, 33, .inl ts)), (a3, .inl (cI, 33, .inl bs)), (r0, .inr (2, [.ref a4])), (a4, .inl (cI, 201, .inl mo))] := hD
  refine lv_astore_n (lv' := [(1, .ref h), (0, .ref b)]) hx hb dL_law_7 rfl hl (by decide) rfl (fun ls hl => ?_)
  refine va_new (ci := 4) (fs := [.int 0, .int 0, .int 0, .int 0, .null, .int 0, .null, .long 0, .long 0, .long 0, .long 0]) (C := RX4) (T := TX4) (N := 11) hx hb hts inlX4 tyX4 tyX4_ok hown (hts (.classLink RL 24 RX4) (by decide +kernel)) (hts (.instantiable RX4 11) (by decide +kernel)) (hts (.initialized RX4) (by decide +kernel)) hK.1 hP hD hS hA rfl (fun j hj => by rcases (show j = 0 ∨ j = 1 ∨ j = 2 ∨ j = 3 ∨ j = 4 ∨ j = 5 ∨ j = 6 ∨ j = 7 ∨ j = 8 ∨ j = 9 ∨ j = 10 by omega) with rfl | rfl | rfl | rfl | rfl | rfl | rfl | rfl | rfl | rfl | rfl <;> rfl) (Nat.le_of_ble_eq_true rfl) (Nat.le_of_ble_eq_true rfl) dL_law_8 (fun g4 H hP hD hS => ?_)
  have hP : va_P G vwCl [(h, .inr (3, [.ref e0, .ref r0])), (e0, .inr (0, [.ref a1, .ref a2, .ref a3, .int cn])), (a1, .inl (cI, 32, .inl qs)), (a2, .inl (cI, 33, .inl ts)), (a3, .inl (cI, 33, .inl bs)), (r0, .inr (2, [.ref a4])), (a4, .inl (cI, 201, .inl mo)), (g4, .inr (4, [.int 0, .int 0, .int 0, .int 0, .null, .int 0, .null, .long 0, .long 0, .long 0, .long 0]))] H := hP
  have hD : va_D A [(h, .inr (3, [.ref e0, .ref r0])), (e0, .inr (0, [.ref a1, .ref a2, .ref a3, .int cn])), (a1, .inl (cI, 32, .inl qs)), (a2, .inl (cI, 33, .inl ts)), (a3, .inl (cI, 33, .inl bs)), (r0, .inr (2, [.ref a4])), (a4, .inl (cI, 201, .inl mo)), (g4, .inr (4, [.int 0, .int 0, .int 0, .int 0, .null, .int 0, .null, .long 0, .long 0, .long 0, .long 0]))] := hD
  refine lv_dup hx hb dL_law_11 rfl ?_
  refine jcIv (As := []) (rest := [.ref g4]) (wr := [(h, .inr (3, [.ref e0, .ref r0])), (e0, .inr (0, [.ref a1, .ref a2, .ref a3, .int cn])), (a1, .inl (cI, 32, .inl qs)), (a2, .inl (cI, 33, .inl ts)), (a3, .inl (cI, 33, .inl bs)), (r0, .inr (2, [.ref a4])), (a4, .inl (cI, 201, .inl mo))]) (wc := [(g4, .inr (4, [.int 0, .int 0, .int 0, .int 0, .null, .int 0, .null, .long 0, .long 0, .long 0, .long 0]))]) ⟨hx, hb, hml, hown, hts⟩ (zX4_init l G cI _ g4 hf4) (cwI 0 hts gL_law_X4_init rfl rfl rfl (hts (.initialized RX4) (by decide +kernel)) (hts (.methodLink RL 26 yX4_init) (by decide +kernel)) (hts (.instanceMethod yX4_init) (by decide +kernel)) rfl (by decide +kernel) ⟨Nat.le_of_ble_eq_true rfl, Nat.le_of_ble_eq_true rfl⟩) hK hP hD [7] [0, 1, 2, 3, 4, 5, 6] rfl rfl rfl (by decide) (by decide) (by decide) rfl hl.1 rfl (Nat.le_of_ble_eq_true rfl) dL_law_12 ⟨Nat.le_of_ble_eq_true rfl, Nat.le_of_ble_eq_true rfl⟩ hS hA (fun u H locs hP hD hz hS => ?_)
  obtain ⟨a5, a6⟩ := u
  have hP : va_P G vwCl [(h, .inr (3, [.ref e0, .ref r0])), (e0, .inr (0, [.ref a1, .ref a2, .ref a3, .int cn])), (a1, .inl (cI, 32, .inl qs)), (a2, .inl (cI, 33, .inl ts)), (a3, .inl (cI, 33, .inl bs)), (r0, .inr (2, [.ref a4])), (a4, .inl (cI, 201, .inl mo)), (g4, .inr (4, [.int 0, .int (nI 1), .int (nI 1), .int 0, .ref a5, .int 0, .ref a6, .long 0, .long 0, .long 0, .long 0])), (a5, .inl (cI, 64, .inl mte)), (a6, .inl (cI, 64, .inl mru))] H := hP
  have hD : va_D A [(h, .inr (3, [.ref e0, .ref r0])), (e0, .inr (0, [.ref a1, .ref a2, .ref a3, .int cn])), (a1, .inl (cI, 32, .inl qs)), (a2, .inl (cI, 33, .inl ts)), (a3, .inl (cI, 33, .inl bs)), (r0, .inr (2, [.ref a4])), (a4, .inl (cI, 201, .inl mo)), (g4, .inr (4, [.int 0, .int (nI 1), .int (nI 1), .int 0, .ref a5, .int 0, .ref a6, .long 0, .long 0, .long 0, .long 0])), (a5, .inl (cI, 64, .inl mte)), (a6, .inl (cI, 64, .inl mru))] := hD
  refine lv_astore_n (lv' := [(2, .ref g4), (1, .ref h), (0, .ref b)]) hx hb dL_law_15 rfl hl (by decide) rfl (fun ls hl => ?_)
  refine lv_iconst (v := 1) hx hb dL_law_16 (by decide) ?_
  refine nwJ hx hb (hts (.arrayClass .long) (by decide +kernel)) hK2 hP hD hS hA (n := 1) (N := 1) (by decide) (by decide) (by decide) (Nat.le_of_ble_eq_true rfl) (Nat.le_of_ble_eq_true rfl) dL_law_17 (fun ao H hP hD hS => ?_)
  refine lv_astore_n (lv' := [(3, .ref ao), (2, .ref g4), (1, .ref h), (0, .ref b)]) hx hb dL_law_19 rfl hl (by decide) rfl (fun ls hl => ?_)
  refine lv_iconst (v := 0) hx hb dL_law_20 (by decide) ?_
  refine lv_istore (lv' := [(4, .int 0), (3, .ref ao), (2, .ref g4), (1, .ref h), (0, .ref b)]) hx hb dL_law_21 hl (by decide) rfl (fun ls hl => ?_)
  refine W.widen (k := 20 + 2 * 0) (n := 500 + 6 * 0) (by omega) (by omega) ?_
  have kE : ∀ (H : Heap) (ls : Array Slot), W p l e room_1 s m #[Value.ref b] below meth c H [] 601024 7293034 (lw_Z below #[Value.ref b] s) (F0 m 687 ls [.int 1]) := fun H ls => lw_ret hx hb hr hlocks dL_law_687
  have hl : lv_has ls 7 [(0, .ref b), (1, .ref h), (2, .ref g4), (3, .ref ao), (4, .int (nI 0))] := lv_sub hl [4, 3, 2, 1, 0] rfl
  exact law_loop C hAs hL hR kE L 0 (by omega) (by omega) 1 1 qs ts bs cn 0 0 mte 0 mru 0 0 0 0 (fun _ => 0) _ _ _ hSO hP hD hS hl
-- ===== YOUR PART ENDS =====
set_option maxHeartbeats 4000000 in
theorem lw_walk (l : Launch) (hl0 : l.stackTraces = false) (b : Addr) (xs : List Int32) : MetFree l x (headSpec (Jvm.Cond.code x code maxLocals ret :: tables_1) room_1) (lw_P b xs) (fun _ _ _ _ _ => True) lw_Q := by
  refine MetFree.of_bodyS (code := code) (maxLocals := maxLocals) (ret := ret) (by decide) ?_ ?_
  · intro args s m h hn
    obtain ⟨meth, c, h1, h2, h3, h4, h5, h6, -, -⟩ := Cond.code_spec hn (atoms_spec (ws := Jvm.Cond.code x code maxLocals ret :: tables_1) h _ List.mem_cons_self)
    exact ⟨meth, c, h1, h2, h3, h4, h5, h6⟩
  · intro p e s m args below meth c s₁ B hml0 hP _
    obtain ⟨rfl, hx, hbd, hgv⟩ := hP
    obtain ⟨scr, harrAt, hlist, hof, hsmall⟩ := hx
    obtain ⟨hcb, hkn, -, -⟩ := State.arrayAt?_spec harrAt
    have hown : s.vm.findClass R_law = some m.cls := findClass_of_methodNamed B.named
    have hts0 : ∀ c ∈ (Jvm.Cond.code x code maxLocals ret :: tables_1), c.before #[Value.ref b] s = true := atoms_spec (ws := Jvm.Cond.code x code maxLocals ret :: tables_1) B.pre
    have hts : ∀ w ∈ lw_tbl, w.before #[Value.ref b] s = true := k2_hts_sels lw_privs (fun w hw => hts0 w (List.mem_cons_of_mem _ hw)) lw_privs_ok
    have hml : c.maxLocals = 7 := B.maxLocals_eq (hts0 _ List.mem_cons_self)
    have X₀ : Stand p l e room_1 s m #[Value.ref b] below meth c s₁ [] 0 0 := Stand.of_body B
    have hh0 : s₁.heap = s.heap := by rw [B.state]; rfl
    have hsz : scr.slots.size = xs.length := by rw [← Array.length_toList, hlist, List.length_map]
    have hval : ∀ j : Nat, j < xs.length → scr.slots[j]? = some (.int (xs.getD j 0)) := fun j hj => by
      rw [← Array.getElem?_toList, hlist]
      simp [hj]
    have hbl : b < s.heap.size := (Array.getElem?_eq_some_iff.mp hcb).1
    have hX : va_X b xs.length (fun j => xs.getD j 0) s s.heap := ⟨scr, hcb, hof, hkn, hsz, hval⟩
    have K : W p l e room_1 s m #[Value.ref b] below meth c s₁.heap [] 0 0 (lw_Z below #[Value.ref b] s) (entryFrame m ([Value.ref b] : List Value).toArray 7) := by
      rw [hh0]
      exact whole_start l hl0 hbd ⟨B.exec, B.bytes, B.returns, hml, hown, hts, hX, hbl, B.notSynchronized, hgv⟩
    obtain ⟨t, a1, o, b1, b2, b3⟩ := K s₁ rfl X₀
    exact ⟨t, o, a1, b1, b2, b3⟩
theorem lw_pre_spec {args : Array Value} {s : State} (h : (Jvm.Cond.and given_1 narrow_1).before args s = true) (hr : rest_1_c.before args s = true) : ∃ (b : Addr) (xs : List Int32), lw_P b xs args s := by
  have hs := flat_of_before _ h
  have hq := flat_of_before _ hr
  have hc : (Cond.count 1).before args s = true := hs _ (by decide +kernel)
  have harr : (Cond.arrayOf (.arg 0) .int).before args s = true := hs _ (by decide +kernel)
  have hle : (Cond.le (.length (.arg 0)) (.int 2560)).before args s = true := hs _ (by decide +kernel)
  have hlen : (Cond.isInt (.length (.arg 0))).before args s = true := hq _ (by decide +kernel)
  have hall : (Cond.all (.arg 0) (.isInt (.elem (.arg 0) (.index 0)))).before args s = true := hq _ (by decide +kernel)
  obtain ⟨b, xs, hb, hx⟩ := State.ints_of_pre rfl harr hlen hall
  have hsm : xs.length < 2 ^ 31 := hx.choose_spec.2.2.2
  have hev : (Term.length (.arg 0)).eval args s none [] s = some (.int xs.length.toInt32) := hx.length_eval hb
  have hv := Cond.le_ints hev (show (Term.int 2560).eval args s none [] s = some (.int 2560) from rfl)
  have hd : xs.length.toInt32 ≤ 2560 := by
    simpa [Cond.before, Cond.holds, hv] using hle
  have hN : xs.length ≤ 2560 := (Int32.ofNat_le_ofNat hsm (by decide)).mp (show Int32.ofNat xs.length ≤ Int32.ofNat 2560 from hd)
  exact ⟨b, xs, Cond.one_arg hc (show args[0]? = some (.ref b) from hb), hx, hN, h⟩
theorem lw_comes (l : Launch) (hl0 : l.stackTraces = false) : Comes l x (Jvm.Cond.code x code maxLocals ret :: tables_1) room_1 (fun tb e args s => Calls_1 tb e args s ∧ rest_1 tb e args s ∧ Pre_1 tb e args s)
    (fun _ _ args s o t => lw_Q args s o t) := by
  intro p e ha hc hk s m args below hf hfit hheap happ hpre
  obtain ⟨b, xs, hP⟩ := lw_pre_spec hpre.2.2 hpre.2.1
  obtain ⟨k, o, h1, h2, h3, hQ⟩ := lw_walk l hl0 b xs p e ha hc hk s m args below hf ((Spec.applies_iff_loose hf).mp happ).1 hP trivial
  exact ⟨k, o, h1, h2, h3, hQ⟩
theorem lw_frame {s t : State} {o : Outcome} {args : Array Value} (h : Framed s o t [] 601024 7293034) :
    Framed s o t (fieldLocs frame_1_writes args s ++ arrayLocs frame_1_arrays args s ++ staticLocs frame_1_statics s) 601024 7293034 := h
theorem lw_limb (L : Cond) (hL : ∀ (args : Array Value) (s t : State), L.after args s (.returned (some (.int 1))) t = true) :
    ArmFor flags0 classFile x code maxLocals ret World_1 tables_1 room_1 Calls_1 rest_1 Pre_1
      (fun tb e a s o t => postC L tb e a s o t ∧ Framed s o t (fieldLocs frame_1_writes a s ++ arrayLocs frame_1_arrays a s ++ staticLocs frame_1_statics s) 601024 7293034) := by
  intro l hfg _ _ p e ha hc hk s m args below hf hfit hheap happ hpre
  have hl0 : l.stackTraces = false := by
    unfold Launch.stackTraces
    rw [hfg]
    decide +kernel
  obtain ⟨k, o, h1, h2, h3, rfl, hF⟩ := lw_comes l hl0 p e ha hc hk s m args below hf hfit hheap happ hpre
  exact ⟨k, _, h1, h2, h3, hL args s _, lw_frame hF⟩
theorem i_vc : Claimed_1_1 ∧ Claimed_1_2 := ⟨lw_limb limb_1_1 (fun args s t => by simp [limb_1_1, Cond.after, Cond.holds, Cond.value]), lw_limb limb_1_2 (fun args s t => Cond.after_iff.mpr (by
  first | (rw [show limb_1_2 = Cond.eq .result (.int 1) from rfl, Cond.eq_ints (x := 1) (y := 1) rfl rfl]; simp; done) | (simp [limb_1_2, Cond.value, Term.eval]; done)))⟩
