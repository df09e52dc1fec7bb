/-! what Expansion holds: the terms l -/
def EOk (l : List Nat) (qs ts bs : Nat → Int32) (cn : Int32) : Prop :=
  cn = nI l.length ∧ l.length ≤ 32 ∧ (∀ i, i < l.length → qs i = nI (l.getD i 0)) ∧ (∀ i, i ≤ l.length → ts i = nI (cH (l.take i)) ∧ bs i = nI (cK (l.take i)))
theorem nI32 : (32 : Int32) = nI 32 := by decide
theorem nI1 : (1 : Int32) = nI 1 := by decide
theorem nI2 : (2 : Int32) = nI 2 := by decide
theorem ck_in {α : Type} {n N : Nat} {k : Option α} (h : n < N) (hN : N < 2 ^ 31) : ckI (nI n) N k = k := by
  unfold ckI
  rw [if_neg]
  exact vp_in_nI h hN
theorem ckZ_n {α : Type} {n : Nat} {k : Option α} (h : 0 < n) (hN : n < 2 ^ 31) : ckZ (nI n) k = k := by
  unfold ckZ; rw [if_neg (nI_ne0 h hN)]
theorem nm_x {α β : Type} (e : α) (k : α → β) : nm e k = k e := rfl
theorem bd1_e {A R : Type} {a : A} {x : Option A} {k : A → Option R} (h : x = some a) : bd1 x k = k a := by rw [h]; rfl
theorem EOk.top {l : List Nat} {qs ts bs : Nat → Int32} {cn : Int32} (h : EOk l qs ts bs cn) : fX0_top ts cn = some (nI (cH l)) := by
  obtain ⟨rfl, h1, h2, h3⟩ := h
  unfold fX0_top
  rw [ck_in (by omega) (by decide), nI_clamp (by omega), (h3 l.length (Nat.le_refl _)).1, List.take_length]
theorem EOk.bottom {l : List Nat} {qs ts bs : Nat → Int32} {cn : Int32} (h : EOk l qs ts bs cn) : fX0_bottom bs cn = some (nI (cK l)) := by
  obtain ⟨rfl, h1, h2, h3⟩ := h
  unfold fX0_bottom
  rw [ck_in (by omega) (by decide), nI_clamp (by omega), (h3 l.length (Nat.le_refl _)).2, List.take_length]
theorem snoc_c (l : List Nat) : l = [] ∨ ∃ l' a, l = l' ++ [a] := by
  rcases List.eq_nil_or_concat l with h | ⟨l', a, h⟩
  · exact Or.inl h
  · exact Or.inr ⟨l', a, by rw [h, List.concat_eq_append]⟩
theorem take_pred {l : List Nat} {a : Nat} : (l ++ [a]).take ((l ++ [a]).length - 1) = l := by simp
theorem EOk.topBefore {l : List Nat} {qs ts bs : Nat → Int32} {cn : Int32} (h : EOk l qs ts bs cn) : fX0_topBefore ts cn = some (nI (cP l)) := by
  obtain ⟨rfl, h1, h2, h3⟩ := h
  unfold fX0_topBefore
  rcases snoc_c l with rfl | ⟨l', a, rfl⟩
  · rw [if_pos (by decide)]; rfl
  · have hl : (l' ++ [a]).length = l'.length + 1 := by simp
    rw [if_neg (by rw [hl]; exact nI_nle (by omega) (by omega)), hl, nI_pred, ck_in (by omega) (by decide), nI_clamp (by omega), (h3 l'.length (by omega)).1, cP_snoc]
    simp
theorem EOk.bottomBefore {l : List Nat} {qs ts bs : Nat → Int32} {cn : Int32} (h : EOk l qs ts bs cn) : fX0_bottomBefore bs cn = some (nI (cQ l)) := by
  obtain ⟨rfl, h1, h2, h3⟩ := h
  unfold fX0_bottomBefore
  rcases snoc_c l with rfl | ⟨l', a, rfl⟩
  · rw [if_pos (by decide)]; rfl
  · have hl : (l' ++ [a]).length = l'.length + 1 := by simp
    rw [if_neg (by rw [hl]; exact nI_nle (by omega) (by omega)), hl, nI_pred, ck_in (by omega) (by decide), nI_clamp (by omega), (h3 l'.length (by omega)).2, cQ_snoc]
    simp
theorem fX0_startAnew_ok (qs ts bs : Nat → Int32) (cn : Int32) : ∃ ts' bs', fX0_startAnew ts bs cn = some (ts', bs', 0) ∧ EOk [] qs ts' bs' 0 := by
  refine ⟨upd ts 0 1, upd bs 0 0, ?_, rfl, by decide, fun i h => by simp at h, fun i h => ?_⟩
  · unfold fX0_startAnew
    show ckI (nI 0) 33 _ = _
    rw [ck_in (by decide) (by decide), nm_x]
    show ckI (nI 0) 33 _ = _
    rw [ck_in (by decide) (by decide), nm_x]
    rfl
  · have : i = 0 := by simpa using h
    subst this
    exact ⟨rfl, rfl⟩
theorem EOk.addTerm {l : List Nat} {qs ts bs : Nat → Int32} {cn : Int32} (h : EOk l qs ts bs cn) (hl : l.length < 32) (a : Nat) : ∃ qs' ts' bs' cn', fX0_addTerm qs ts bs cn (nI a) = some (qs', ts', bs', cn') ∧ EOk (l ++ [a]) qs' ts' bs' cn' := by
  refine ⟨upd qs l.length (nI a), upd ts (l.length + 1) (nI (cH (l ++ [a]))), upd bs (l.length + 1) (nI (cK (l ++ [a]))), nI (l.length + 1), ?_, ?_⟩
  · unfold fX0_addTerm
    rw [if_pos (by rw [h.1, nI32]; exact nI_lt hl (by decide)), bd1_e h.top, bd1_e h.topBefore, nm_x, bd1_e h.bottom, bd1_e h.bottomBefore, nm_x, h.1, ck_in hl (by decide), nm_x, nm_x, nI_1, ck_in (by omega) (by decide), nm_x, ck_in (by omega) (by decide), nm_x, nI_clamp (by omega), nI_clamp (by omega), pk_mul, pk_mul, nI_add, nI_add, ← cH_snoc, ← cK_snoc]
  · obtain ⟨h0, h1, h2, h3⟩ := h
    have hlen : (l ++ [a]).length = l.length + 1 := by simp
    refine ⟨by rw [hlen], by omega, fun i hi => ?_, fun i hi => ?_⟩
    · by_cases he : i = l.length
      · subst he; rw [pk_us]; simp
      · rw [pk_un he, h2 i (by omega)]
        rw [List.getD_eq_getElem?_getD, List.getD_eq_getElem?_getD, List.getElem?_append_left (by omega)]
    · by_cases he : i = l.length + 1
      · subst he; rw [pk_us, pk_us, ← hlen, List.take_length]; exact ⟨rfl, rfl⟩
      · rw [pk_un he, pk_un he, List.take_append_of_le_length (by omega)]
        exact h3 i (by omega)
theorem FU_pos : FU = 999999999 + 1 := rfl
theorem expand_loop : ∀ (u : Nat) (fu : Nat) (over i : Nat) (l : List Nat) (qs ts bs : Nat → Int32) (cn : Int32), EOk l qs ts bs cn → u ≤ 100000 → over < 2 ^ 31 → i = l.length → l.length + (cf over u).length ≤ 32 → (cf over u).length < fu → ∃ qs' ts' bs' cn', fX0_expand_L12 fu qs ts bs cn (nI over) (nI u) (nI i) = some (qs', ts', bs', cn') ∧ EOk (l ++ cf over u) qs' ts' bs' cn' := by
  intro u
  induction u using Nat.strongRecOn with
  | ind u ih =>
    intro fu over i l qs ts bs cn h hu ho hi hlen hfu
    cases fu with
    | zero => omega
    | succ fu =>
      show ∃ qs' ts' bs' cn', fX0_expand_B12 (fX0_expand_L12 fu) qs ts bs cn (nI over) (nI u) (nI i) = some (qs', ts', bs', cn') ∧ _
      unfold fX0_expand_B12
      by_cases hu0 : u = 0
      · subst hu0
        rw [cf_zero, List.append_nil]
        refine ⟨qs, ts, bs, cn, ?_, h⟩
        by_cases hc : (32 : Int32) ≤ nI i
        · rw [if_pos hc]
        · rw [if_neg hc, if_pos (by decide)]
      · have hu0 : 0 < u := Nat.pos_of_ne_zero hu0
        have e := cf_pos over hu0
        rw [e, List.length_cons] at hlen hfu
        rw [nI32, if_neg (by rw [nI_leI (by decide) (by omega)]; omega), if_neg (nI_nle hu0 (by omega)), ckZ_n hu0 (by omega), nm_x, nm_x]
        have hd : nI over / nI u = nI (over / u) := pk_div ho hu0 (by omega)
        have hm : nI over - nI over / nI u * nI u = nI (over % u) := pk_rem ho hu0 (by omega)
        rw [hm, hd]
        obtain ⟨qs1, ts1, bs1, cn1, e1, h1⟩ := h.addTerm (by omega) (over / u)
        rw [e1]
        show ∃ qs' ts' bs' cn', nm (nI i + 1) (fun v52 => fX0_expand_L12 fu qs1 ts1 bs1 cn1 (nI u) (nI (over % u)) v52) = some (qs', ts', bs', cn') ∧ _
        rw [nm_x, nI_1, e]
        have hml := Nat.mod_lt over hu0
        obtain ⟨qs2, ts2, bs2, cn2, e2, h2⟩ := ih (over % u) hml fu u (i + 1) (l ++ [over / u]) qs1 ts1 bs1 cn1 h1 (by omega) (by omega) (by simp [hi]) (by simp; omega) (by omega)
        refine ⟨qs2, ts2, bs2, cn2, e2, ?_⟩
        rw [List.append_assoc] at h2
        exact h2
/-- expand holds Euclid's terms -/
theorem expand_ok {p q : Nat} (qs ts bs : Nat → Int32) (cn : Int32) (hp : p < 2 ^ 31) (hq : q ≤ 100000) : ∃ qs' ts' bs' cn', fX0_expand qs ts bs cn (nI p) (nI q) = some (qs', ts', bs', cn') ∧ EOk (cf p q) qs' ts' bs' cn' := by
  obtain ⟨ts1, bs1, e1, h1⟩ := fX0_startAnew_ok qs ts bs cn
  unfold fX0_expand
  rw [e1]
  have hl := len_lt (cf_len p q) hq
  obtain ⟨a, b, c, d, e, h⟩ := expand_loop q FU p 0 [] qs ts1 bs1 0 h1 hq hp rfl (by simp; omega) (by rw [FU_pos]; omega)
  exact ⟨a, b, c, d, e, h⟩
