/-! longs and ints as whole numbers -/
def lI (z : Int) : Int64 := Int64.ofInt z
def iI (z : Int) : Int32 := Int32.ofInt z
theorem lI_add (a b : Int) : lI a + lI b = lI (a + b) := (Int64.ofInt_add a b).symm
theorem lI_sub (a b : Int) : lI a - lI b = lI (a - b) := (Int64.ofInt_sub a b).symm
theorem lI_mul (a b : Int) : lI a * lI b = lI (a * b) := (Int64.ofInt_mul a b).symm
theorem lI_neg (a : Int) : -lI a = lI (-a) := (Int64.ofInt_neg a).symm
theorem iI_add (a b : Int) : iI a + iI b = iI (a + b) := (Int32.ofInt_add a b).symm
theorem iI_sub (a b : Int) : iI a - iI b = iI (a - b) := (Int32.ofInt_sub a b).symm
theorem iI_mul (a b : Int) : iI a * iI b = iI (a * b) := (Int32.ofInt_mul a b).symm
theorem iI_neg (a : Int) : -iI a = iI (-a) := (Int32.ofInt_neg a).symm
def big (z : Int) : Prop := -9223372036854775808 ≤ z ∧ z < 9223372036854775808
def mid (z : Int) : Prop := -2147483648 ≤ z ∧ z < 2147483648
theorem lI_toInt {z : Int} (h : big z) : (lI z).toInt = z := Int64.toInt_ofInt_of_le (by simpa using h.1) (by simpa using h.2)
theorem iI_toInt {z : Int} (h : mid z) : (iI z).toInt = z := Int32.toInt_ofInt_of_le (by simpa using h.1) (by simpa using h.2)
theorem nI_iI (n : Nat) : nI n = iI n := (Int32.ofInt_eq_ofNat).symm
theorem lN_lI (n : Nat) : lN n = lI n := (Int64.ofInt_eq_ofNat).symm
theorem iI_l {z : Int} (h : mid z) : (iI z).toInt64 = lI z := by
  apply Int64.toInt_inj.mp
  have hb : big z := ⟨by have := h.1; omega, by have := h.2; omega⟩
  rw [lI_toInt hb, Int32.toInt_toInt64, iI_toInt h]
theorem lI_i (z : Int) : (lI z).toInt32 = iI z := Int64.toInt32_ofInt ..
theorem nI_L {n : Nat} (h : n < 2147483648) : (nI n).toInt64 = lI n := by rw [nI_iI]; exact iI_l ⟨by omega, by omega⟩
theorem lc_eq {a b : Int} (ha : big a) (hb : big b) : lg_cmp (lI a) (lI b) = 0 ↔ a = b := by rw [lg_cmp_eq, ← Int64.toInt_inj, lI_toInt ha, lI_toInt hb]
theorem lc_lt {a b : Int} (ha : big a) (hb : big b) : lg_cmp (lI a) (lI b) < 0 ↔ a < b := by rw [lg_cmp_lt, Int64.lt_iff_toInt_lt, lI_toInt ha, lI_toInt hb]
theorem lc_gt {a b : Int} (ha : big a) (hb : big b) : 0 < lg_cmp (lI a) (lI b) ↔ b < a := by rw [lg_cmp_gt, Int64.lt_iff_toInt_lt, lI_toInt ha, lI_toInt hb]
theorem lc_le {a b : Int} (ha : big a) (hb : big b) : lg_cmp (lI a) (lI b) ≤ 0 ↔ a ≤ b := by rw [lg_cmp_le, Int64.le_iff_toInt_le, lI_toInt ha, lI_toInt hb]
theorem lc_ge {a b : Int} (ha : big a) (hb : big b) : 0 ≤ lg_cmp (lI a) (lI b) ↔ b ≤ a := by rw [lg_cmp_ge, Int64.le_iff_toInt_le, lI_toInt ha, lI_toInt hb]
theorem ic_lt {a b : Int} (ha : mid a) (hb : mid b) : iI a < iI b ↔ a < b := by rw [Int32.lt_iff_toInt_lt, iI_toInt ha, iI_toInt hb]
theorem ic_le {a b : Int} (ha : mid a) (hb : mid b) : iI a ≤ iI b ↔ a ≤ b := by rw [Int32.le_iff_toInt_le, iI_toInt ha, iI_toInt hb]
theorem ic_eq {a b : Int} (ha : mid a) (hb : mid b) : iI a = iI b ↔ a = b := by rw [← Int32.toInt_inj, iI_toInt ha, iI_toInt hb]
theorem lI0 : (0 : Int64) = lI 0 := by decide
theorem lI1 : (1 : Int64) = lI 1 := by decide
theorem lI2 : (2 : Int64) = lI 2 := by decide
theorem lI3 : (3 : Int64) = lI 3 := by decide
theorem lIm1 : (-1 : Int64) = lI (-1) := by decide
theorem lI100000 : (100000 : Int64) = lI 100000 := by decide
theorem lI5000 : (5000 : Int64) = lI 5000 := by decide
theorem lI1000 : (1000 : Int64) = lI 1000 := by decide
theorem lI200 : (200 : Int64) = lI 200 := by decide
theorem iI0 : (0 : Int32) = iI 0 := by decide
theorem iI1 : (1 : Int32) = iI 1 := by decide
theorem iI2 : (2 : Int32) = iI 2 := by decide
theorem iIm1 : (-1 : Int32) = iI (-1) := by decide
theorem lI_div {a b : Int} (ha : 0 ≤ a) (ha2 : a < 9223372036854775808) (hb : 0 < b) (hb2 : b < 9223372036854775808) : lI a / lI b = lI (a / b) := by
  apply Int64.toInt_inj.mp
  have h1 : 0 ≤ a / b := Int.ediv_nonneg ha (Int.le_of_lt hb)
  have h2 : a / b ≤ a := Int.ediv_le_self _ ha
  rw [Int64.toInt_div_of_ne_right _ _ (by rw [Ne, ← Int64.toInt_inj, lI_toInt ⟨by omega, hb2⟩]; simp; omega), lI_toInt ⟨by omega, ha2⟩, lI_toInt ⟨by omega, hb2⟩, lI_toInt ⟨by omega, by omega⟩, Int.tdiv_eq_ediv_of_nonneg ha]
theorem lI_ne {b : Int} (h : b ≠ 0) (hb : big b) : ¬ lI b = 0 := by
  rw [lI0, ← Int64.toInt_inj, lI_toInt hb, lI_toInt ⟨by omega, by omega⟩]; exact h
theorem ckL_n {α : Type} {b : Int} {k : Option α} (h : b ≠ 0) (hb : big b) : ckL (lI b) k = k := by
  unfold ckL; rw [if_neg (lI_ne h hb)]
theorem lI_rem {a b : Int} (ha : 0 ≤ a) (ha2 : a < 9223372036854775808) (hb : 0 < b) (hb2 : b < 9223372036854775808) : lI a - lI a / lI b * lI b = lI (a % b) := by
  rw [lI_div ha ha2 hb hb2, lI_mul, lI_sub]
  congr 1
  have := Int.mul_ediv_add_emod a b
  rw [Int.mul_comm] at this
  omega
