/-! the reference's small methods: common, in, become, take, part, findTerms, terms, term -/
def Inv (P Q : Nat) : Prop := Nat.gcd P Q = 1 ∧ P ≤ 100000 ∧ 0 < Q ∧ Q ≤ 100000
theorem bd2_e {A B R : Type} {a : A} {b : B} {x : Option (A × B)} {k : A → B → Option R} (h : x = some (a, b)) : bd2 x k = k a b := by rw [h]; rfl
theorem bd4_e {A B C D R : Type} {a : A} {b : B} {c : C} {d : D} {x : Option (A × B × C × D)} {k : A → B → C → D → Option R} (h : x = some (a, b, c, d)) : bd4 x k = k a b c d := by rw [h]; rfl
theorem bd6_e {A B C D E F R : Type} {a : A} {b : B} {c : C} {d : D} {e : E} {f : F} {x : Option (A × B × C × D × E × F)} {k : A → B → C → D → E → F → Option R} (h : x = some (a, b, c, d, e, f)) : bd6 x k = k a b c d e f := by rw [h]; rfl
theorem common_loop : ∀ (y fu x : Nat), y < fu → x < 4611686018427387904 → y < 4611686018427387904 → fX4_common_L6 fu (lI x) (lI y) = some (lI (Nat.gcd x y)) := by
  intro y
  induction y using Nat.strongRecOn with
  | ind y ih =>
    intro fu x hf hx hy
    cases fu with
    | zero => omega
    | succ fu =>
      show fX4_common_B6 (fX4_common_L6 fu) (lI x) (lI y) = _
      unfold fX4_common_B6
      by_cases h0 : y = 0
      · subst h0
        rw [if_pos (by rw [lI0]; exact (lc_eq (a := ((0 : Nat) : Int)) (b := 0) ⟨by omega, by omega⟩ ⟨by omega, by omega⟩).mpr rfl), Nat.gcd_zero_right]
      · have hp : 0 < y := Nat.pos_of_ne_zero h0
        have hm := Nat.mod_lt x hp
        rw [lI0, if_neg (fun h => h0 (by have := (lc_eq ⟨by omega, by omega⟩ ⟨by omega, by omega⟩).mp h; omega)), ckL_n (by omega) ⟨by omega, by omega⟩, nm_x, lI_rem (by omega) (by omega) (by omega) (by omega), ← Int.natCast_emod, ih (x % y) hm fu y (by omega) hy (by omega), Nat.gcd_comm x y, Nat.gcd_rec y x, Nat.gcd_comm]
theorem common_ok {x y : Nat} (hx : x < 4611686018427387904) (hy : y < 999999999) : fX4_common (lI x) (lI y) = some (lI (Nat.gcd x y)) := common_loop y FU x (by rw [FU_pos]; omega) hx (by omega)
theorem in_ok {v a b : Int} (hv : big v) (ha : big a) (hb : big b) : fX4_in (lI v) (lI a) (lI b) = some (if a ≤ v ∧ v ≤ b then 1 else 0) := by
  unfold fX4_in
  by_cases h1 : v < a
  · rw [if_pos ((lc_lt hv ha).mpr h1), if_neg (by omega)]
  · rw [if_neg (fun h => h1 ((lc_lt hv ha).mp h))]
    by_cases h2 : b < v
    · rw [if_pos ((lc_gt hv hb).mpr h2), if_neg (by omega)]
    · rw [if_neg (fun h => h2 ((lc_gt hv hb).mp h)), if_pos (by omega)]
theorem within_ok {v a b : Int} (hv : mid v) (ha : mid a) (hb : mid b) : fX3_isWithin (iI v) (iI a) (iI b) = some (if a ≤ v ∧ v ≤ b then 1 else 0) := by
  unfold fX3_isWithin
  by_cases h1 : v < a
  · rw [if_pos ((ic_lt hv ha).mpr h1), if_neg (by omega)]
  · rw [if_neg (fun h => h1 ((ic_lt hv ha).mp h))]
    by_cases h2 : b < v
    · rw [if_pos ((ic_lt hb hv).mpr h2), if_neg (by omega)]
    · rw [if_neg (fun h => h2 ((ic_lt hb hv).mp h)), if_pos (by omega)]
theorem in_y {v a b : Int} (hv : big v) (ha : big a) (hb : big b) (h : a ≤ v ∧ v ≤ b) : fX4_in (lI v) (lI a) (lI b) = some 1 := by rw [in_ok hv ha hb, if_pos h]
theorem in_n {v a b : Int} (hv : big v) (ha : big a) (hb : big b) (h : ¬ (a ≤ v ∧ v ≤ b)) : fX4_in (lI v) (lI a) (lI b) = some 0 := by rw [in_ok hv ha hb, if_neg h]
theorem wi_y {v a b : Int} (hv : mid v) (ha : mid a) (hb : mid b) (h : a ≤ v ∧ v ≤ b) : fX3_isWithin (iI v) (iI a) (iI b) = some 1 := by rw [within_ok hv ha hb, if_pos h]
theorem wi_n {v a b : Int} (hv : mid v) (ha : mid a) (hb : mid b) (h : ¬ (a ≤ v ∧ v ≤ b)) : fX3_isWithin (iI v) (iI a) (iI b) = some 0 := by rw [within_ok hv ha hb, if_neg h]
theorem mid_big {z : Int} (h : mid z) : big z := ⟨by have := h.1; omega, by have := h.2; omega⟩
/-- any int is a whole number -/
theorem iI_of (x : Int32) : ∃ z : Int, mid z ∧ x = iI z := ⟨x.toInt, ⟨by have := Int32.le_toInt x; simpa using this, by have := Int32.toInt_lt x; simpa using this⟩, by unfold iI; rw [Int32.ofInt_toInt]⟩
theorem iI_nat {z : Int} (h : 0 ≤ z) : ∃ n : Nat, z = n ∧ iI z = nI n := ⟨z.toNat, by omega, by rw [nI_iI]; congr 1; omega⟩
theorem become_ok {p q : Nat} (mtp mbt : Int32) (hp : p ≤ 100000) (hq : q ≤ 100000) (h0 : 0 < q) : fX4_become mtp mbt (lI p) (lI q) = some (nI (p / Nat.gcd p q), nI (q / Nat.gcd p q)) := by
  unfold fX4_become
  have hg : 0 < Nat.gcd p q := Nat.gcd_pos_of_pos_right _ h0
  have hgl : Nat.gcd p q ≤ q := Nat.gcd_le_right _ h0
  rw [bd1_e (common_ok (by omega) (by omega)), ckL_n (by omega) ⟨by omega, by omega⟩, nm_x, ckL_n (by omega) ⟨by omega, by omega⟩, nm_x, lI_div (by omega) (by omega) (by omega) (by omega), lI_div (by omega) (by omega) (by omega) (by omega), lI_i, lI_i, nI_iI, nI_iI, Int.natCast_ediv, Int.natCast_ediv]
theorem least_inv {p q : Nat} (hp : p ≤ 100000) (hq : q ≤ 100000) (h0 : 0 < q) : Inv (p / Nat.gcd p q) (q / Nat.gcd p q) ∧ cf (p / Nat.gcd p q) (q / Nat.gcd p q) = cf p q := by
  have hg : 0 < Nat.gcd p q := Nat.gcd_pos_of_pos_right _ h0
  have e1 : Nat.gcd p q * (p / Nat.gcd p q) = p := Nat.mul_div_cancel' (Nat.gcd_dvd_left _ _)
  have e2 : Nat.gcd p q * (q / Nat.gcd p q) = q := Nat.mul_div_cancel' (Nat.gcd_dvd_right _ _)
  have e3 : Nat.gcd (p / Nat.gcd p q) (q / Nat.gcd p q) = 1 := by
    have h := Nat.gcd_mul_left (Nat.gcd p q) (p / Nat.gcd p q) (q / Nat.gcd p q)
    rw [e1, e2] at h
    exact Nat.eq_of_mul_eq_mul_left hg (by rw [Nat.mul_one]; exact h.symm)
  refine ⟨⟨e3, Nat.le_trans (Nat.div_le_self _ _) hp, Nat.div_pos (Nat.gcd_le_right _ h0) hg, Nat.le_trans (Nat.div_le_self _ _) hq⟩, ?_⟩
  have := cf_scale hg (p / Nat.gcd p q) (q / Nat.gcd p q)
  rw [e1, e2] at this
  exact this.symm
/-- what the reference's terms hold -/
def TOk (l : List Nat) (mmn : Int32) (mte : Nat → Int32) : Prop := mmn = nI l.length ∧ ∀ i, i < l.length → mte i = nI (l.getD i 0)
theorem findTerms_loop (mtp mbt : Int32) : ∀ (y fu x : Nat) (l : List Nat) (mmn : Int32) (mte : Nat → Int32), TOk l mmn mte → (cf x y).length < fu → x < 2 ^ 31 → y < 2 ^ 31 → l.length + (cf x y).length ≤ 64 → ∃ mmn' mte', fX4_findTerms_L15 mtp mbt fu mmn mte (nI x) (nI y) = some (mmn', mte') ∧ TOk (l ++ cf x y) mmn' mte' := by
  intro y
  induction y using Nat.strongRecOn with
  | ind y ih =>
    intro fu x l mmn mte h hf hx hy hl
    cases fu with
    | zero => omega
    | succ fu =>
      show ∃ mmn' mte', fX4_findTerms_B15 (fX4_findTerms_L15 mtp mbt fu) mtp mbt mmn mte (nI x) (nI y) = some (mmn', mte') ∧ _
      unfold fX4_findTerms_B15
      by_cases h0 : y = 0
      · subst h0
        rw [if_pos (by decide), cf_zero, List.append_nil]
        exact ⟨mmn, mte, rfl, h⟩
      · have hp : 0 < y := Nat.pos_of_ne_zero h0
        have hm := Nat.mod_lt x hp
        have e := cf_pos x hp
        rw [e, List.length_cons] at hf hl
        rw [if_neg (nI_ne0 hp hy), ckZ_n hp hy, nm_x, h.1, ck_in (by omega) (by decide), nm_x, nm_x, ckZ_n hp hy, nm_x, pk_rem hx hp hy, pk_div hx hp hy, nI_1, nI_clamp (by omega)]
        obtain ⟨a, b, e1, h1⟩ := ih (x % y) hm fu y (l ++ [x / y]) (nI (l.length + 1)) (upd mte l.length (nI (x / y))) ⟨by simp, fun i hi => by
          by_cases he : i = l.length
          · subst he; rw [pk_us]; simp
          · rw [pk_un he]
            have hi2 : i < l.length := by simp at hi; omega
            rw [h.2 i hi2, List.getD_eq_getElem?_getD, List.getD_eq_getElem?_getD, List.getElem?_append_left hi2]⟩ (by omega) hy (by omega) (by simp; omega)
        refine ⟨a, b, e1, ?_⟩
        rw [List.append_assoc] at h1
        rw [e]
        exact h1
theorem findTerms_ok {P Q : Nat} (h : Inv P Q) (mmn : Int32) (mte : Nat → Int32) : ∃ mte', fX4_findTerms (nI P) (nI Q) mmn mte = some (nI (cf P Q).length, mte') ∧ ∀ i, i < (cf P Q).length → mte' i = nI ((cf P Q).getD i 0) := by
  have hl := len_lt (cf_len P Q) h.2.2.2
  have hh := h.2
  obtain ⟨a, b, e, h1⟩ := findTerms_loop (nI P) (nI Q) Q FU P [] 0 mte ⟨rfl, fun i hi => by simp at hi⟩ (by rw [FU_pos]; omega) (by omega) (by omega) (by simp; omega)
  obtain ⟨rfl, h2⟩ := h1
  exact ⟨b, e, h2⟩
