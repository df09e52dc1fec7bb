/-! the reference's walk -/
theorem steps_ok {u v : Int} (h1 : 1 ≤ u) (h2 : u ≤ 200000) (h3 : 1 ≤ v) (h4 : v ≤ 200000) : fX4_steps (lI u) (lI v) = some (lI ((u - 1) / v)) := by
  unfold fX4_steps
  rw [ckL_n (by omega) ⟨by omega, by omega⟩, lI1, lI_sub, lI_div (by omega) (by omega) (by omega) (by omega)]
section WalkIter
variable (k : Int32 → (Nat → Int32) → Int64 → Int64 → Int64 → Int64 → Int32 → Option (Int32 × (Nat → Int32) × Int64 × Int64 × Int64 × Int64))
theorem walk_by {P Q : Nat} (hP : P ≤ 100000) (hQ : Q ≤ 100000) (mrs : Int32) (mru : Nat → Int32) (lT lB hT hB : Int) : fX4_walk_B38 k (nI P) (nI Q) mrs mru (lI lT) (lI lB) (lI hT) (lI hB) 1 = if lg_cmp (lI (P * (lB + hB) - (lT + hT) * Q)) 0 = 0 then fX4_walk_J93 k (nI P) (nI Q) mrs mru (lI lT) (lI lB) (lI hT) (lI hB) (lI (P * (lB + hB) - (lT + hT) * Q)) 0 else fX4_walk_J93 k (nI P) (nI Q) mrs mru (lI lT) (lI lB) (lI hT) (lI hB) (lI (P * (lB + hB) - (lT + hT) * Q)) 1 := by
  unfold fX4_walk_B38
  have h1 : ¬ (1 : Int32) = 0 := by decide
  rw [if_neg h1, nm_x, nm_x, nm_x, lI_add, lI_add, nI_L (by omega), nI_L (by omega), lI_mul, lI_mul, lI_sub]
theorem walk_R {P Q r : Nat} (hP : P ≤ 100000) (hQ : Q ≤ 100000) (hr : r < 64) (mru : Nat → Int32) {lT lB hT hB u v : Int} (hu : P * lB - lT * Q = u) (hv : hT * Q - P * hB = v) (h1 : v < u) (h2 : u ≤ 200000) (h3 : 1 ≤ v) : fX4_walk_B38 k (nI P) (nI Q) (nI r) mru (lI lT) (lI lB) (lI hT) (lI hB) 1 = k (nI (r + 1)) (upd mru r (iI ((u - 1) / v))) (lI (lT + (u - 1) / v * hT)) (lI (lB + (u - 1) / v * hB)) (lI hT) (lI hB) 1 := by
  rw [walk_by k hP hQ]
  have e : (P : Int) * (lB + hB) - (lT + hT) * Q = u - v := by rw [← hu, ← hv]; grind
  have hb : big (u - v) := ⟨by omega, by omega⟩
  have h0 : big 0 := ⟨by omega, by omega⟩
  rw [e, lI0, if_neg (fun h => by have := (lc_eq hb h0).mp h; omega)]
  unfold fX4_walk_J93
  rw [lI0, if_neg (fun h => by have := (lc_le hb h0).mp h; omega)]
  rw [nI_L (by omega), nI_L (by omega), lI_mul, lI_mul, lI_sub, lI_mul, lI_mul, lI_sub, hu, hv, bd1_e (steps_ok (by omega) (by omega) (by omega) (by omega)), nm_x, nm_x, nm_x, ck_in hr (by decide), nm_x, nm_x, nI_1, nI_clamp (by omega), lI_i, lI_mul, lI_add, lI_mul, lI_add]
  rfl
theorem walk_Lf {P Q r : Nat} (hP : P ≤ 100000) (hQ : Q ≤ 100000) (hr : r < 64) (mru : Nat → Int32) {lT lB hT hB u v : Int} (hu : P * lB - lT * Q = u) (hv : hT * Q - P * hB = v) (h1 : u < v) (h2 : v ≤ 200000) (h3 : 1 ≤ u) : fX4_walk_B38 k (nI P) (nI Q) (nI r) mru (lI lT) (lI lB) (lI hT) (lI hB) 1 = k (nI (r + 1)) (upd mru r (iI (-((v - 1) / u)))) (lI lT) (lI lB) (lI (hT + (v - 1) / u * lT)) (lI (hB + (v - 1) / u * lB)) 1 := by
  rw [walk_by k hP hQ]
  have e : (P : Int) * (lB + hB) - (lT + hT) * Q = u - v := by rw [← hu, ← hv]; grind
  have hb : big (u - v) := ⟨by omega, by omega⟩
  have h0 : big 0 := ⟨by omega, by omega⟩
  rw [e, lI0, if_neg (fun h => by have := (lc_eq hb h0).mp h; omega)]
  unfold fX4_walk_J93
  rw [lI0, if_pos ((lc_le hb h0).mpr (by omega)), if_neg (fun h => by have := (lc_ge hb h0).mp h; omega)]
  rw [nI_L (by omega), nI_L (by omega), lI_mul, lI_mul, lI_sub, lI_mul, lI_mul, lI_sub, hu, hv, bd1_e (steps_ok (by omega) (by omega) (by omega) (by omega)), nm_x, nm_x, nm_x, ck_in hr (by decide), nm_x, nm_x, nI_1, nI_clamp (by omega), lI_neg, lI_i, lI_mul, lI_add, lI_mul, lI_add]
  rfl
theorem walk_S {P Q : Nat} (hP : P ≤ 100000) (hQ : Q ≤ 100000) (mrs : Int32) (mru : Nat → Int32) {lT lB hT hB : Int} (h : P * (lB + hB) - (lT + hT) * Q = 0) : fX4_walk_B38 k (nI P) (nI Q) mrs mru (lI lT) (lI lB) (lI hT) (lI hB) 1 = k mrs mru (lI lT) (lI lB) (lI hT) (lI hB) 0 := by
  rw [walk_by k hP hQ, h, if_pos (by decide)]
  unfold fX4_walk_J93
  rw [if_pos (by decide), if_pos (by decide)]
  rfl
theorem walk_E (P Q mrs : Int32) (mru : Nat → Int32) (a b c d : Int64) : fX4_walk_B38 k P Q mrs mru a b c d 0 = some (mrs, mru, a, b, c, d) := by
  unfold fX4_walk_B38
  rw [if_pos rfl]
end WalkIter
def f0 (l : List Nat) : Nat := if l.getD 0 0 = 0 then 1 else 0
/-- the neighbours at the end -/
def feT (l : List Nat) : Nat := if l.length % 2 = 0 then cP l else cH l - cP l
def feB (l : List Nat) : Nat := if l.length % 2 = 0 then cQ l else cK l - cQ l
def geT (l : List Nat) : Nat := if l.length % 2 = 0 then cH l - cP l else cP l
def geB (l : List Nat) : Nat := if l.length % 2 = 0 then cK l - cQ l else cQ l
theorem ediv_eq {a b q r : Int} (h : a = q * b + r) (h0 : 0 ≤ r) (h1 : r < b) : a / b = q := by
  have hb : 0 < b := by omega
  rw [h, Int.add_comm, Int.add_mul_ediv_right _ _ (by omega), Int.ediv_eq_zero_of_lt h0 h1]; omega
theorem upd_run {l : List Nat} {mru : Nat → Int32} {j : Nat} (hj : f0 l ≤ j) (h : ∀ i, i < j - f0 l → mru i = iI (rs l (i + f0 l))) : ∀ i, i < (j - f0 l) + 1 → upd mru (j - f0 l) (iI (rs l j)) i = iI (rs l (i + f0 l)) := by
  intro i hi
  by_cases he : i = j - f0 l
  · subst he
    rw [pk_us]
    congr 2
    omega
  · rw [pk_un he]; exact h i (by omega)
theorem walk_loop {P Q : Nat} (h : Inv P Q) (h0 : 0 < P) (hl2 : 2 ≤ (cf P Q).getD ((cf P Q).length - 1) 0) : ∀ (d j fu : Nat) (mru : Nat → Int32), j + d + 1 = (cf P Q).length → f0 (cf P Q) ≤ j → 1 ≤ (cf P Q).getD j 0 → d + 3 < fu → (∀ i, i < j - f0 (cf P Q) → mru i = iI (rs (cf P Q) (i + f0 (cf P Q)))) →
    ∃ mru', fX4_walk_L38 (nI P) (nI Q) fu (nI (j - f0 (cf P Q))) mru (lI (loT (cf P Q) j)) (lI (loB (cf P Q) j)) (lI (hiT (cf P Q) j)) (lI (hiB (cf P Q) j)) 1 = some (nI ((cf P Q).length - f0 (cf P Q)), mru', lI (feT (cf P Q)), lI (feB (cf P Q)), lI (geT (cf P Q)), lI (geB (cf P Q))) ∧ ∀ i, i < (cf P Q).length - f0 (cf P Q) → mru' i = iI (rs (cf P Q) (i + f0 (cf P Q))) := by
  have hPl := cf_cH h.1
  have hQl := cf_cK h.1
  have hlen := len_lt (cf_len P Q) h.2.2.2
  obtain ⟨t, et, ht⟩ := cf_tail1 P h.2.2.1
  have hlim := h.2
  generalize hlg : cf P Q = l at *
  have hdl : ∀ i, 1 ≤ i → (∀ x ∈ l.drop i, 1 ≤ x) := fun i hi x hx => by
    obtain ⟨i', rfl⟩ : ∃ i', i = i' + 1 := ⟨i - 1, by omega⟩
    rw [et, List.drop_succ_cons] at hx
    exact ht x (List.mem_of_mem_drop hx)
  have hbd : ∀ i, cH (l.drop i) ≤ 100000 := fun i => by
    cases i with
    | zero => rw [List.drop_zero, hPl]; omega
    | succ i =>
      have : cK l = cH t := by rw [et, cK_cons]
      rw [et, List.drop_succ_cons]
      have := cH_drop_le i t ht
      omega
  intro d
  induction d with
  | zero =>
    intro j fu mru hj hf hj1 hfu hm
    have hjl : j = l.length - 1 := by omega
    have ha2 : 2 ≤ l.getD j 0 := by rw [hjl]; exact hl2
    have hdc : l.drop j = [l.getD j 0] := by rw [drop_cons' (by omega), List.drop_of_length_le (by omega)]
    have htk : l = l.take j ++ [l.getD j 0] := by rw [← take_snoc (by omega), List.take_of_length_le (by omega)]
    have hx : cH (l.drop j) = l.getD j 0 := by rw [hdc]; simp [cH_cons, cH_nil, cK_nil]
    have hy : cK (l.drop j) = 1 := by rw [hdc]; simp [cK_cons, cH_nil]
    have hb := hbd j
    obtain ⟨hu, hv⟩ := walk_uv l hPl hQl j (by omega)
    have e1 : cH l = l.getD j 0 * cH (l.take j) + cP (l.take j) := by
      have := cH_snoc (l.getD j 0) (l.take j); rw [← htk] at this; exact this
    have e2 : cK l = l.getD j 0 * cK (l.take j) + cQ (l.take j) := by
      have := cK_snoc (l.getD j 0) (l.take j); rw [← htk] at this; exact this
    have e3 : cP l = cH (l.take j) := by
      have := cP_snoc (l.getD j 0) (l.take j); rw [← htk] at this; exact this
    have e4 : cQ l = cK (l.take j) := by
      have := cQ_snoc (l.getD j 0) (l.take j); rw [← htk] at this; exact this
    obtain ⟨fu, rfl⟩ : ∃ g, fu = g + 3 := ⟨fu - 3, by omega⟩
    have hr1 : (j - f0 l) + 1 = l.length - f0 l := by omega
    have g1 : cP l ≤ cH l := by
      have := Nat.le_mul_of_pos_left (cH (l.take j)) (by omega : 0 < l.getD j 0)
      omega
    have g2 : cQ l ≤ cK l := by
      have := Nat.le_mul_of_pos_left (cK (l.take j)) (by omega : 0 < l.getD j 0)
      omega
    have hstop : (P : Int) * ((feB l : Int) + geB l) - ((feT l : Int) + geT l) * Q = 0 := by
      have k1 : feB l + geB l = cK l := by unfold feB geB; split <;> omega
      have k2 : feT l + geT l = cH l := by unfold feT geT; split <;> omega
      have k3 : (feB l : Int) + geB l = Q := by rw [← hQl, ← k1]; push_cast; rfl
      have k4 : (feT l : Int) + geT l = P := by rw [← hPl, ← k2]; push_cast; rfl
      rw [k3, k4]; grind
    refine ⟨upd mru (j - f0 l) (iI (rs l j)), ?_, fun i hi => upd_run hf hm i (by omega)⟩
    rw [hx, hy] at hu hv
    rcases Nat.mod_two_eq_zero_or_one j with hp | hp
    · have hp1 : ¬ l.length % 2 = 0 := by omega
      simp only [hp, if_true] at hu hv
      have r1 : rs l j = (l.getD j 0 : Int) - 1 := by unfold rs; rw [if_pos hp, if_pos (by omega)]
      have q1 : ((l.getD j 0 : Int) - 1) / ((1 : Nat) : Int) = (l.getD j 0 : Int) - 1 := by simp
      have s1 := walk_R (fX4_walk_L38 (nI P) (nI Q) (fu + 2)) (P := P) (Q := Q) (r := j - f0 l) (by omega) (by omega) (by omega) mru hu hv (by omega) (by omega) (by omega)
      show fX4_walk_B38 (fX4_walk_L38 (nI P) (nI Q) (fu + 2)) (nI P) (nI Q) _ _ _ _ _ _ 1 = _
      rw [s1, q1, hr1, ← r1]
      have f1 : (loT l j : Int) + rs l j * hiT l j = feT l := by
        unfold loT hiT feT; rw [if_pos hp, if_pos hp, if_neg hp1, r1, e1, e3]; push_cast; 
        have : cH (l.take j) ≤ l.getD j 0 * cH (l.take j) + cP (l.take j) := by omega
        rw [Int.natCast_sub this]; push_cast; grind
      have f2 : (loB l j : Int) + rs l j * hiB l j = feB l := by
        unfold loB hiB feB; rw [if_pos hp, if_pos hp, if_neg hp1, r1, e2, e4]; push_cast
        have : cK (l.take j) ≤ l.getD j 0 * cK (l.take j) + cQ (l.take j) := by omega
        rw [Int.natCast_sub this]; push_cast; grind
      have f3 : hiT l j = geT l := by unfold hiT geT; rw [if_pos hp, if_neg hp1, e3]
      have f4 : hiB l j = geB l := by unfold hiB geB; rw [if_pos hp, if_neg hp1, e4]
      rw [f1, f2, f3, f4]
      show fX4_walk_B38 (fX4_walk_L38 (nI P) (nI Q) (fu + 1)) (nI P) (nI Q) _ _ _ _ _ _ 1 = _
      rw [walk_S _ (by omega) (by omega) _ _ hstop]
      show fX4_walk_B38 (fX4_walk_L38 (nI P) (nI Q) fu) (nI P) (nI Q) _ _ _ _ _ _ 0 = _
      rw [walk_E]
    · have hp0 : ¬ j % 2 = 0 := by omega
      have hp1 : l.length % 2 = 0 := by omega
      simp only [hp0, if_false] at hu hv
      have r1 : rs l j = -((l.getD j 0 : Int) - 1) := by unfold rs; rw [if_neg hp0, if_pos (by omega)]
      have q1 : ((l.getD j 0 : Int) - 1) / ((1 : Nat) : Int) = (l.getD j 0 : Int) - 1 := by simp
      have s1 := walk_Lf (fX4_walk_L38 (nI P) (nI Q) (fu + 2)) (P := P) (Q := Q) (r := j - f0 l) (by omega) (by omega) (by omega) mru hu hv (by omega) (by omega) (by omega)
      show fX4_walk_B38 (fX4_walk_L38 (nI P) (nI Q) (fu + 2)) (nI P) (nI Q) _ _ _ _ _ _ 1 = _
      rw [s1, q1, hr1, ← r1]
      have f1 : (hiT l j : Int) + ((l.getD j 0 : Int) - 1) * loT l j = geT l := by
        unfold loT hiT geT; rw [if_neg hp0, if_neg hp0, if_pos hp1, e1, e3]; push_cast
        have : cH (l.take j) ≤ l.getD j 0 * cH (l.take j) + cP (l.take j) := by omega
        rw [Int.natCast_sub this]; push_cast; grind
      have f2 : (hiB l j : Int) + ((l.getD j 0 : Int) - 1) * loB l j = geB l := by
        unfold loB hiB geB; rw [if_neg hp0, if_neg hp0, if_pos hp1, e2, e4]; push_cast
        have : cK (l.take j) ≤ l.getD j 0 * cK (l.take j) + cQ (l.take j) := by omega
        rw [Int.natCast_sub this]; push_cast; grind
      have f3 : loT l j = feT l := by unfold loT feT; rw [if_neg hp0, if_pos hp1, e3]
      have f4 : loB l j = feB l := by unfold loB feB; rw [if_neg hp0, if_pos hp1, e4]
      rw [f1, f2, f3, f4]
      show fX4_walk_B38 (fX4_walk_L38 (nI P) (nI Q) (fu + 1)) (nI P) (nI Q) _ _ _ _ _ _ 1 = _
      rw [walk_S _ (by omega) (by omega) _ _ hstop]
      show fX4_walk_B38 (fX4_walk_L38 (nI P) (nI Q) fu) (nI P) (nI Q) _ _ _ _ _ _ 0 = _
      rw [walk_E]
  | succ d ih =>
    intro j fu mru hj hf hj1 hfu hm
    obtain ⟨fu, rfl⟩ : ∃ g, fu = g + 1 := ⟨fu - 1, by omega⟩
    have hb := hbd j
    obtain ⟨hu, hv⟩ := walk_uv l hPl hQl j (by omega)
    have hdc := drop_cons' (l := l) (j := j) (by omega)
    have hdc1 := drop_cons' (l := l) (j := j + 1) (by omega)
    have hx : cH (l.drop j) = l.getD j 0 * cH (l.drop (j + 1)) + cK (l.drop (j + 1)) := by rw [hdc, cH_cons]
    have hy : cK (l.drop j) = cH (l.drop (j + 1)) := by rw [hdc, cK_cons]
    have hp1 := cH_pos1 (l.drop (j + 1)) (hdl _ (by omega))
    have hp2 := cH_pos1 (l.drop (j + 2)) (hdl _ (by omega))
    have hz : cK (l.drop (j + 1)) = cH (l.drop (j + 2)) := by rw [hdc1, cK_cons]
    have hge := Nat.le_mul_of_pos_left (cH (l.drop (j + 1))) (by omega : 0 < l.getD j 0)
    have htk := take_snoc (l := l) (j := j) (by omega)
    have e1 : cH (l.take (j + 1)) = l.getD j 0 * cH (l.take j) + cP (l.take j) := by rw [htk, cH_snoc]
    have e2 : cK (l.take (j + 1)) = l.getD j 0 * cK (l.take j) + cQ (l.take j) := by rw [htk, cK_snoc]
    have e3 : cP (l.take (j + 1)) = cH (l.take j) := by rw [htk, cP_snoc]
    have e4 : cQ (l.take (j + 1)) = cK (l.take j) := by rw [htk, cQ_snoc]
    have hr1 : (j - f0 l) + 1 = (j + 1) - f0 l := by omega
    have hj2 : 1 ≤ l.getD (j + 1) 0 := by
      have := hdl (j + 1) (by omega) (l.getD (j + 1) 0) (by rw [hdc1]; exact List.mem_cons_self)
      exact this
    have hdiv : ((cH (l.drop j) : Int) - 1) / (cK (l.drop j) : Int) = l.getD j 0 := by
      refine ediv_eq (r := (cK (l.drop (j + 1)) : Int) - 1) ?_ (by omega) (by omega)
      rw [hx, hy]; push_cast; omega
    rcases Nat.mod_two_eq_zero_or_one j with hp | hp
    · have hn : ¬ (j + 1) % 2 = 0 := by omega
      simp only [hp, if_true] at hu hv
      have r1 : rs l j = (l.getD j 0 : Int) := by unfold rs; rw [if_pos hp, if_neg (by omega)]
      have s1 := walk_R (fX4_walk_L38 (nI P) (nI Q) fu) (P := P) (Q := Q) (r := j - f0 l) (by omega) (by omega) (by omega) mru hu hv (by omega) (by omega) (by omega)
      have f1 : (loT l j : Int) + (l.getD j 0 : Int) * hiT l j = loT l (j + 1) := by
        unfold loT hiT; rw [if_pos hp, if_pos hp, if_neg hn, e1]; push_cast; grind
      have f2 : (loB l j : Int) + (l.getD j 0 : Int) * hiB l j = loB l (j + 1) := by
        unfold loB hiB; rw [if_pos hp, if_pos hp, if_neg hn, e2]; push_cast; grind
      have f3 : hiT l j = hiT l (j + 1) := by unfold hiT; rw [if_pos hp, if_neg hn, e3]
      have f4 : hiB l j = hiB l (j + 1) := by unfold hiB; rw [if_pos hp, if_neg hn, e4]
      obtain ⟨mru', em, hm'⟩ := ih (j + 1) fu (upd mru (j - f0 l) (iI (rs l j))) (by omega) (by omega) hj2 (by omega) (fun i hi => upd_run hf hm i (by omega))
      refine ⟨mru', ?_, hm'⟩
      show fX4_walk_B38 (fX4_walk_L38 (nI P) (nI Q) fu) (nI P) (nI Q) _ _ _ _ _ _ 1 = _
      rw [s1, hdiv, f1, f2, f3, f4, hr1, ← em, r1]
    · have hp0 : ¬ j % 2 = 0 := by omega
      have hn : (j + 1) % 2 = 0 := by omega
      simp only [hp0, if_false] at hu hv
      have r1 : rs l j = -(l.getD j 0 : Int) := by unfold rs; rw [if_neg hp0, if_neg (by omega)]
      have s1 := walk_Lf (fX4_walk_L38 (nI P) (nI Q) fu) (P := P) (Q := Q) (r := j - f0 l) (by omega) (by omega) (by omega) mru hu hv (by omega) (by omega) (by omega)
      have f1 : (hiT l j : Int) + (l.getD j 0 : Int) * loT l j = hiT l (j + 1) := by
        unfold loT hiT; rw [if_neg hp0, if_neg hp0, if_pos hn, e1]; push_cast; grind
      have f2 : (hiB l j : Int) + (l.getD j 0 : Int) * loB l j = hiB l (j + 1) := by
        unfold loB hiB; rw [if_neg hp0, if_neg hp0, if_pos hn, e2]; push_cast; grind
      have f3 : loT l j = loT l (j + 1) := by unfold loT; rw [if_neg hp0, if_pos hn, e3]
      have f4 : loB l j = loB l (j + 1) := by unfold loB; rw [if_neg hp0, if_pos hn, e4]
      obtain ⟨mru', em, hm'⟩ := ih (j + 1) fu (upd mru (j - f0 l) (iI (rs l j))) (by omega) (by omega) hj2 (by omega) (fun i hi => upd_run hf hm i (by omega))
      refine ⟨mru', ?_, hm'⟩
      show fX4_walk_B38 (fX4_walk_L38 (nI P) (nI Q) fu) (nI P) (nI Q) _ _ _ _ _ _ 1 = _
      rw [s1, hdiv, f1, f2, f3, f4, hr1, ← em, r1]
