/-! go, up -/
def tT (l : List Nat) (s : Nat) : Nat := if s = 0 then feT l else geT l
def tB (l : List Nat) (s : Nat) : Nat := if s = 0 then feB l else geB l
theorem init_ok (a b : Int32) : fX1_init 0 0 a b = some (a, b) := rfl
theorem SOk.near2 {P Q : Nat} {qs ts bs : Nat → Int32} {cn : Int32} (h : SOk P Q qs ts bs cn) (h0 : 0 < P) {s : Nat} (hs : s = 0 ∨ s = 1) : fX0_neighbourAt ts bs cn (nI s) = some (nI (tT (cf P Q) s), nI (tB (cf P Q) s)) := by
  have hlen := h.len
  obtain ⟨g1, g2⟩ := cPQ_le h.1 h0
  unfold fX0_neighbourAt
  rw [ckZ2]
  have e1 : cn - cn / 2 * 2 = nI ((cf P Q).length % 2) := by rw [h.2.1]; exact rem2 (by omega)
  rw [e1, bd1_e h.2.topBefore, bd1_e h.2.bottomBefore, bd1_e h.2.top, bd1_e h.2.topBefore, bd1_e h.2.bottom, bd1_e h.2.bottomBefore, bd2_e (init_ok _ _), bd2_e (init_ok _ _), pk_sub g1, pk_sub g2]
  unfold tT tB feT feB geT geB
  rcases Nat.mod_two_eq_zero_or_one (cf P Q).length with hp | hp <;> rcases hs with rfl | rfl
  · rw [hp, if_pos rfl]; simp
  · rw [hp, if_neg (by decide)]; simp
  · rw [hp, if_neg (by decide)]; simp
  · rw [hp, if_pos rfl]; simp
theorem near2_le {P Q : Nat} (h : Inv P Q) (h0 : 0 < P) (s : Nat) : tT (cf P Q) s ≤ P ∧ tB (cf P Q) s ≤ Q ∧ ∀ n : Nat, Nat.gcd (P + n * tT (cf P Q) s) (Q + n * tB (cf P Q) s) = 1 := by
  obtain ⟨g1, g2⟩ := cPQ_le h h0
  obtain ⟨a1, a2, a3, a4⟩ := fe_ok g1 g2
  rw [cf_cH h.1] at a1 a3 a4
  rw [cf_cK h.1] at a2 a3 a4
  unfold tT tB
  by_cases hs : s = 0
  · simp only [hs, if_true]
    refine ⟨by omega, by omega, fun n => gcd1_of (x := feB (cf P Q)) (y := feT (cf P Q)) ?_⟩
    push_cast
    rw [← a3]; grind
  · simp only [hs, if_false]
    refine ⟨by omega, by omega, fun n => ?_⟩
    rw [Nat.gcd_comm]
    refine gcd1_of (x := geT (cf P Q)) (y := geB (cf P Q)) ?_
    push_cast
    rw [← a4]; grind
theorem mul_le_1e10 {a b : Nat} (ha : a ≤ 100000) (hb : b ≤ 100000) : a * b ≤ 10000000000 := by
  have := Nat.mul_le_mul ha hb
  omega
theorem op_go {P Q : Nat} {qs ts bs : Nat → Int32} {cn : Int32} (h : SOk P Q qs ts bs cn) (mth mrs side n : Int32) (mru : Nat → Int32) (a b c d : Int64) : ∃ r P' Q' qs' ts' bs' cn' mrs' mru' a' b' c' d', fX3_go qs ts bs cn side n = some (r, qs', ts', bs', cn') ∧ SOk P' Q' qs' ts' bs' cn' ∧ fX4_go mth (nI P) (nI Q) mrs mru a b c d side n = some (r, 0, nI P', nI Q', mrs', mru', a', b', c', d') := by
  have hl := h.1.2
  have hlen := h.len
  have m0 : mid 0 := ⟨by omega, by omega⟩
  have m1 : mid 1 := ⟨by omega, by omega⟩
  have mM : mid 100000 := ⟨by omega, by omega⟩
  have iM : (100000 : Int32) = iI 100000 := by decide
  have n1 : ¬ (1 : Int32) = 0 := by decide
  obtain ⟨z, hz, rfl⟩ := iI_of side
  obtain ⟨y, hy, rfl⟩ := iI_of n
  unfold fX3_go fX4_go
  rw [iM]
  by_cases hs : 0 ≤ z ∧ z ≤ 1
  · have w1 : fX3_isWithin (iI z) 0 1 = some 1 := by rw [iI0, iI1]; exact wi_y hz m0 m1 hs
    rw [bd1_e w1, if_neg n1]
    obtain ⟨s, hs2, hsz⟩ : ∃ s : Nat, (s = 0 ∨ s = 1) ∧ iI z = nI s := by
      refine ⟨z.toNat, by omega, ?_⟩
      rw [nI_iI]; congr 1; omega
    rw [hsz]
    have hJ : fX4_go mth (nI P) (nI Q) mrs mru a b c d (nI s) (iI y) = fX4_go_J14 0 (nI P) (nI Q) mrs mru a b c d (nI s) (iI y) := by
      unfold fX4_go
      rcases hs2 with rfl | rfl
      · rw [if_pos (by decide)]
      · rw [if_neg (by decide), if_pos (by decide)]
    have hJ' : (if nI s = 0 then fX4_go_J14 0 (nI P) (nI Q) mrs mru a b c d (nI s) (iI y) else if nI s = 1 then fX4_go_J14 0 (nI P) (nI Q) mrs mru a b c d (nI s) (iI y) else some (0, 0, nI P, nI Q, mrs, mru, a, b, c, d)) = fX4_go_J14 0 (nI P) (nI Q) mrs mru a b c d (nI s) (iI y) := hJ
    rw [hJ']
    unfold fX4_go_J14
    by_cases hn : 0 ≤ y ∧ y ≤ 100000
    · have w2 : fX3_isWithin (iI y) 0 (iI 100000) = some 1 := by rw [iI0]; exact wi_y hy m0 mM hn
      have w3 : fX4_in (iI y).toInt64 0 100000 = some 1 := by rw [iI_l hy, lI0, lI100000]; exact in_y (mid_big hy) (mid_big m0) (mid_big mM) hn
      rw [bd1_e w2, if_neg n1, bd1_e w3, if_neg n1, bd1_e h.top]
      by_cases h0 : P = 0
      · subst h0
        rw [if_pos (by decide), if_pos (by decide)]
        exact ⟨_, 0, Q, _, _, _, _, _, _, _, _, _, _, rfl, h, rfl⟩
      · have h0 : 0 < P := by omega
        obtain ⟨mru', e, hm⟩ := walk_ok h.1 h0 mrs mru a b c d
        obtain ⟨k, hk, hky⟩ := iI_nat hn.1
        obtain ⟨b1, b2, b3⟩ := near2_le h.1 h0 s
        have hkl : k ≤ 100000 := by omega
        have p1 := mul_le_1e10 hkl (Nat.le_trans b1 hl.1)
        have p2 := mul_le_1e10 hkl (Nat.le_trans b2 hl.2.2)
        rw [if_neg (nI_ne0 h0 (by omega)), if_neg (nI_ne0 h0 (by omega)), bd2_e (h.near2 h0 hs2), bd1_e h.top, nm_x, bd1_e h.bottom, nm_x, bd6_e e, hky, nI_L (by omega), nI_L (by omega), nI_L (by omega), nI_L (by omega), nI_L (by omega), lI_mul, lI_add, lI_mul, lI_add]
        have c1 : (P : Int) + (k : Int) * (tT (cf P Q) s : Int) = ((P + k * tT (cf P Q) s : Nat) : Int) := by push_cast; rfl
        have c2 : (Q : Int) + (k : Int) * (tB (cf P Q) s : Int) = ((Q + k * tB (cf P Q) s : Nat) : Int) := by push_cast; rfl
        have hmodel : (if nI s = 0 then fX4_go_J61 0 (nI P) (nI Q) (nI (nR P Q)) mru' (lI (feT (cf P Q))) (lI (feB (cf P Q))) (lI (geT (cf P Q))) (lI (geB (cf P Q))) (nI s) (nI k) (lI P) (lI k) (lI (feT (cf P Q))) else fX4_go_J61 0 (nI P) (nI Q) (nI (nR P Q)) mru' (lI (feT (cf P Q))) (lI (feB (cf P Q))) (lI (geT (cf P Q))) (lI (geB (cf P Q))) (nI s) (nI k) (lI P) (lI k) (lI (geT (cf P Q)))) = fX4_go_J86 0 (nI P) (nI Q) (nI (nR P Q)) mru' (lI (feT (cf P Q))) (lI (feB (cf P Q))) (lI (geT (cf P Q))) (lI (geB (cf P Q))) (lI (P + k * tT (cf P Q) s : Nat)) (lI Q) (lI k) (lI (tB (cf P Q) s)) := by
          unfold fX4_go_J61 tT tB
          rw [nm_x, nm_x, nI_L (by omega), nI_L (by omega)]
          rcases hs2 with rfl | rfl
          · rw [if_pos (by decide), if_pos (by decide), if_pos rfl, if_pos rfl, lI_mul, lI_add]
            congr 1
          · rw [if_neg (by decide), if_neg (by decide), if_neg (by decide), if_neg (by decide), lI_mul, lI_add]
            congr 1
        rw [hmodel, c1, c2]
        unfold fX4_go_J86
        rw [nm_x, nm_x, nm_x, lI_mul, lI_add, c2, lI100000]
        generalize hA : P + k * tT (cf P Q) s = A at *
        generalize hB : Q + k * tB (cf P Q) s = B at *
        have g1 : big (A : Int) := ⟨by omega, by omega⟩
        have g2 : big (B : Int) := ⟨by omega, by omega⟩
        have g3 : big 100000 := ⟨by omega, by omega⟩
        by_cases hA2 : 100000 < A
        · have q1 : 0 < lg_cmp (lI A) (lI 100000) := (lc_gt g1 g3).mpr (by omega)
          rw [if_pos q1, if_pos q1]
          exact ⟨_, P, Q, _, _, _, _, _, _, _, _, _, _, rfl, h, rfl⟩
        · have q1 : ¬ 0 < lg_cmp (lI A) (lI 100000) := fun hh => hA2 (by have := (lc_gt g1 g3).mp hh; omega)
          rw [if_neg q1, if_neg q1]
          by_cases hB2 : B ≤ 100000
          · have q2 : lg_cmp (lI B) (lI 100000) ≤ 0 := (lc_le g2 g3).mpr (by omega)
            have hinv : Inv A B := by
              refine ⟨?_, by omega, by omega, hB2⟩
              rw [← hA, ← hB]; exact b3 k
            obtain ⟨qs', ts', bs', cn', ex, hx⟩ := expand_S1 qs ts bs cn hinv
            rw [if_pos q2, if_pos q2, lI_i, lI_i, ← nI_iI, ← nI_iI, bd4_e ex]
            exact ⟨_, A, B, _, _, _, _, _, _, _, _, _, _, rfl, hx, rfl⟩
          · have q2 : ¬ lg_cmp (lI B) (lI 100000) ≤ 0 := fun hh => hB2 (by have := (lc_le g2 g3).mp hh; omega)
            rw [if_neg q2, if_neg q2]
            exact ⟨_, P, Q, _, _, _, _, _, _, _, _, _, _, rfl, h, rfl⟩
    · have w2 : fX3_isWithin (iI y) 0 (iI 100000) = some 0 := by rw [iI0]; exact wi_n hy m0 mM hn
      have w3 : fX4_in (iI y).toInt64 0 100000 = some 0 := by rw [iI_l hy, lI0, lI100000]; exact in_n (mid_big hy) (mid_big m0) (mid_big mM) hn
      rw [bd1_e w2, if_pos rfl, bd1_e w3, if_pos rfl]
      exact ⟨_, P, Q, _, _, _, _, _, _, _, _, _, _, rfl, h, rfl⟩
  · have w1 : fX3_isWithin (iI z) 0 1 = some 0 := by rw [iI0, iI1]; exact wi_n hz m0 m1 hs
    have z0 : ¬ iI z = 0 := by rw [iI0]; exact fun hh => hs (by have := (ic_eq hz m0).mp hh; omega)
    have z1 : ¬ iI z = 1 := by rw [iI1]; exact fun hh => hs (by have := (ic_eq hz m1).mp hh; omega)
    rw [bd1_e w1, if_pos rfl, if_neg z0, if_neg z1]
    exact ⟨_, P, Q, _, _, _, _, _, _, _, _, _, _, rfl, h, rfl⟩
