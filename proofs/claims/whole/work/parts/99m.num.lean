/-! ===== numbers ===== -/
theorem zsub {a b : Nat} (h : b ≤ a) : nI a - nI b = nI (a - b) := by
  have e : nI a = nI (a - b) + nI b := by rw [nI_add, Nat.sub_add_cancel h]
  rw [e, Int32.add_sub_cancel]
theorem zmul (a b : Nat) : nI a * nI b = nI (a * b) := (Int32.ofNat_mul a b).symm
theorem zsub1 {a : Nat} (h : 1 ≤ a) : nI a + -(nI 1) = nI (a - 1) := by rw [← Int32.sub_eq_add_neg, zsub h]
theorem zmin_n {a b : Nat} (ha : a < 2 ^ 31) (hb : b < 2 ^ 31) : zmin (nI a) (nI b) = nI (min a b) := by
  unfold zmin
  by_cases h : b < a
  · rw [if_pos ((nI_ltI hb ha).mpr h), Nat.min_eq_right (by omega)]
  · rw [if_neg (fun q => h ((nI_ltI hb ha).mp q)), Nat.min_eq_left (by omega)]
theorem zmax_n {a b : Nat} (ha : a < 2 ^ 31) (hb : b < 2 ^ 31) : zmax (nI a) (nI b) = nI (max a b) := by
  unfold zmax
  by_cases h : a < b
  · rw [if_pos ((nI_ltI ha hb).mpr h), Nat.max_eq_right (by omega)]
  · rw [if_neg (fun q => h ((nI_ltI ha hb).mp q)), Nat.max_eq_left (by omega)]
theorem zdiv {a b : Nat} (ha : a < 2 ^ 31) (hb : 0 < b) (hb2 : b < 2 ^ 31) : nI a / nI b = nI (a / b) := pk_div ha hb hb2
theorem zrem {a b : Nat} (ha : a < 2 ^ 31) (hb : 0 < b) (hb2 : b < 2 ^ 31) : nI a - nI a / nI b * nI b = nI (a % b) := pk_rem ha hb hb2
theorem nI_z {a : Nat} (h : a < 2 ^ 31) : nI a = 0 ↔ a = 0 := nI_eq h (by decide)
theorem nI_n0 {a : Nat} (h : a < 2 ^ 31) : nI a < 0 ↔ False := ⟨nI_pos h, False.elim⟩
theorem nI_0l {a : Nat} (h : a < 2 ^ 31) : (0 : Int32) < nI a ↔ 0 < a := nI_ltI (by decide) h
theorem nI_l0 {a : Nat} (h : a < 2 ^ 31) : nI a ≤ 0 ↔ a = 0 := by rw [show (0 : Int32) = nI 0 from rfl, nI_leI h (by decide)]; omega
theorem nI_0g {a : Nat} (h : a < 2 ^ 31) : (0 : Int32) ≤ nI a ↔ True := ⟨fun _ => trivial, fun _ => nI_pos' h⟩
theorem nI_m1 {a : Nat} (h : a < 2 ^ 31) : nI a = -(nI 1) ↔ False := by
  refine ⟨fun q => ?_, False.elim⟩
  have h1 := nI_pos' h
  rw [q] at h1
  exact absurd h1 (by decide)
theorem zin_of {v : Int32} {n : Nat} (hn : n < 2 ^ 31) (h0 : ¬ v < 0) (h1 : ¬ nI n ≤ v) : ∃ k, k < n ∧ v = nI k := by
  obtain ⟨j, hj, rfl⟩ := nI_of h0
  rw [nI_leI hn hj] at h1
  exact ⟨j, by omega, rfl⟩
theorem zin_of2 {v : Int32} {n : Nat} (hn : n < 2 ^ 31) (h0 : ¬ v < 0) (h1 : ¬ nI n < v) : ∃ k, k ≤ n ∧ v = nI k := by
  obtain ⟨j, hj, rfl⟩ := nI_of h0
  rw [nI_ltI hn hj] at h1
  exact ⟨j, by omega, rfl⟩
theorem zb0 : zb (nI 0) = true := rfl
theorem zb1 : zb (nI 1) = true := rfl
/-! bits -/
theorem bt_nI {a i : Nat} (hi : i < 32) : bt (nI a) i = a.testBit i := by
  unfold bt nI
  show (BitVec.ofNat 32 a).getLsbD i = _
  rw [BitVec.getLsbD_ofNat, decide_eq_true hi, Bool.true_and]
theorem tb_big {a i k : Nat} (h : a < 2 ^ k) (hk : k ≤ i) : a.testBit i = false := Nat.testBit_lt_two_pow (Nat.lt_of_lt_of_le h (Nat.pow_le_pow_right (by decide) hk))
theorem zshl1 {k : Nat} (hk : k < 32) : nI 1 <<< (nI k &&& 31) = nI (2 ^ k) := by
  refine b_ext fun i hi => ?_
  rw [b_shl k hk _ hi, bt_nI hi]
  by_cases h : k ≤ i
  · rw [decide_eq_true h, Bool.true_and, bt_nI (by omega), Nat.testBit_two_pow]
    by_cases e : k = i
    · subst e; rw [Nat.sub_self, decide_eq_true rfl]; rfl
    · rw [decide_eq_false (by omega : ¬ k = i)]
      exact Nat.testBit_lt_two_pow (Nat.one_lt_two_pow (by omega))
  · rw [decide_eq_false h, Bool.false_and, Nat.testBit_two_pow, decide_eq_false (by omega : ¬ k = i)]
theorem zshr {a k : Nat} (ha : a < 2 ^ 31) (hk : k < 32) : nI a >>> (nI k &&& 31) = nI (a >>> k) := by
  refine b_ext fun i hi => ?_
  rw [b_sshr k hk _ hi, bt_nI hi, Nat.testBit_shiftRight]
  by_cases h : k + i < 32
  · rw [if_pos h, bt_nI h]
  · rw [if_neg h, bt_nI (by omega), tb_big ha (Nat.le_refl _), tb_big ha (by omega)]
theorem zbit {a k : Nat} (ha : a < 2 ^ 31) (hk : k < 32) : (nI a >>> (nI k &&& 31)) &&& nI 1 = nI (if a.testBit k then 1 else 0) := by
  rw [zshr ha hk, fa_and]
  congr 1
  rw [show a >>> k &&& 1 = a >>> k % 2 from Nat.and_one_is_mod _, Nat.shiftRight_eq_div_pow, ← Nat.toNat_testBit]
  cases a.testBit k <;> rfl
theorem zbitz {a k : Nat} (ha : a < 2 ^ 31) (hk : k < 32) : (nI a >>> (nI k &&& 31)) &&& nI 1 = 0 ↔ a.testBit k = false := by
  rw [zbit ha hk]
  cases a.testBit k <;> decide
theorem zbito {a k : Nat} (ha : a < 2 ^ 31) (hk : k < 32) : (nI a >>> (nI k &&& 31)) &&& nI 1 = nI 1 ↔ a.testBit k = true := by
  rw [zbit ha hk]
  cases a.testBit k <;> decide
def zdif (a b : Nat) : Nat := a &&& (a ^^^ b)
theorem zdif_tb (a b i : Nat) : (zdif a b).testBit i = (a.testBit i && !b.testBit i) := by
  unfold zdif
  rw [Nat.testBit_and, Nat.testBit_xor]
  cases a.testBit i <;> cases b.testBit i <;> rfl
theorem zdif_le (a b : Nat) : zdif a b ≤ a := Nat.and_le_left
theorem znot {a b : Nat} : nI a &&& (nI b ^^^ -(nI 1)) = nI (zdif a b) := by
  refine b_ext fun i hi => ?_
  rw [b_and, b_xor, bt_nI hi, bt_nI hi, bt_nI hi, zdif_tb, show -(nI 1) = (-1 : Int32) from rfl, b_m1 i hi]
  cases a.testBit i <;> cases b.testBit i <;> rfl
theorem fa_bit' {n j : Nat} (hj : j < 31) : nI n &&& nI (2 ^ j) = 0 ↔ n.testBit j = false := fa_bit hj
theorem zor_lt {a b k : Nat} (ha : a < 2 ^ k) (hb : b < 2 ^ k) : a ||| b < 2 ^ k := Nat.or_lt_two_pow ha hb
theorem tb_ext {a b : Nat} (h : ∀ i, a.testBit i = b.testBit i) : a = b := Nat.eq_of_testBit_eq h
theorem tb_one (k i : Nat) : (2 ^ k).testBit i = decide (k = i) := Nat.testBit_two_pow
/-! arrays -/
theorem inb_n {k n : Nat} (hk : k < n) (hn : n < 2 ^ 31) : inb (nI k) n = true := by
  unfold inb
  rw [decide_eq_false (nI_pos (by omega)), nI_clamp (by omega), decide_eq_true hk]
  rfl
theorem aok_n {t a k n : Nat} (h1 : shp a = t) (h2 : sln a = n) (hk : k < n) (hn : n < 2 ^ 31) : aok t a (nI k) = true := by
  unfold aok
  rw [h1, h2, inb_n hk hn, Nat.beq_refl]
  rfl
theorem ak_3 {k : Nat} (h : k < 80) : aok 4 3 (nI k) = true := aok_n rfl rfl h (by decide)
theorem ak_5 {k : Nat} (h : k < 8) : aok 2 5 (nI k) = true := aok_n rfl rfl h (by decide)
theorem ak_7 {k : Nat} (h : k < 16) : aok 1 7 (nI k) = true := aok_n rfl rfl h (by decide)
theorem ak_8 {k : Nat} (h : k < 8) : aok 1 8 (nI k) = true := aok_n rfl rfl h (by decide)
theorem ak_10 {k : Nat} (h : k < 10) : aok 1 10 (nI k) = true := aok_n rfl rfl h (by decide)
theorem ak_11 {k : Nat} (h : k < 10) : aok 1 11 (nI k) = true := aok_n rfl rfl h (by decide)
theorem ak_12 {k : Nat} (h : k < 10) : aok 1 12 (nI k) = true := aok_n rfl rfl h (by decide)
theorem ak_13 {k : Nat} (h : k < 10) : aok 1 13 (nI k) = true := aok_n rfl rfl h (by decide)
theorem ak_15 {k : Nat} (h : k < 27) : aok 1 15 (nI k) = true := aok_n rfl rfl h (by decide)
theorem ak_17 {k : Nat} (h : k < 27) : aok 1 17 (nI k) = true := aok_n rfl rfl h (by decide)
theorem ak_19 {k : Nat} (h : k < 27) : aok 1 19 (nI k) = true := aok_n rfl rfl h (by decide)
theorem ak_21 {k : Nat} (h : k < 324) : aok 1 21 (nI k) = true := aok_n rfl rfl h (by decide)
theorem ak_22 {k : Nat} (h : k < 54) : aok 1 22 (nI k) = true := aok_n rfl rfl h (by decide)
theorem ak_24 {k : Nat} (h : k < 12) : aok 1 24 (nI k) = true := aok_n rfl rfl h (by decide)
theorem ak_25 {k : Nat} (h : k < 12) : aok 1 25 (nI k) = true := aok_n rfl rfl h (by decide)
theorem ak_27 {k : Nat} (h : k < 10) : aok 1 27 (nI k) = true := aok_n rfl rfl h (by decide)
theorem ak_28 {k : Nat} (h : k < 10) : aok 1 28 (nI k) = true := aok_n rfl rfl h (by decide)
theorem ak_29 {k : Nat} (h : k < 100) : aok 2 29 (nI k) = true := aok_n rfl rfl h (by decide)
theorem ak_31 {k : Nat} (h : k < 40) : aok 1 31 (nI k) = true := aok_n rfl rfl h (by decide)
theorem ak_32 {k : Nat} (h : k < 40) : aok 1 32 (nI k) = true := aok_n rfl rfl h (by decide)
theorem ak_34 {k : Nat} (h : k < 40) : aok 1 34 (nI k) = true := aok_n rfl rfl h (by decide)
theorem ak_35 {k : Nat} (h : k < 40) : aok 1 35 (nI k) = true := aok_n rfl rfl h (by decide)
theorem ak_37 {k : Nat} (h : k < 26) : aok 1 37 (nI k) = true := aok_n rfl rfl h (by decide)
theorem ak_38 {k : Nat} (h : k < 17) : aok 1 38 (nI k) = true := aok_n rfl rfl h (by decide)
theorem ak_39 {k : Nat} (h : k < 9) : aok 1 39 (nI k) = true := aok_n rfl rfl h (by decide)
theorem ak_40 {k : Nat} (h : k < 80) : aok 3 40 (nI k) = true := aok_n rfl rfl h (by decide)
theorem ak_41 {k : Nat} (h : k < 16) : aok 2 41 (nI k) = true := aok_n rfl rfl h (by decide)
theorem ak_42 {k : Nat} (h : k < 9) : aok 1 42 (nI k) = true := aok_n rfl rfl h (by decide)
theorem ak_43 {k : Nat} (h : k < 8) : aok 1 43 (nI k) = true := aok_n rfl rfl h (by decide)
theorem ak_44 {k : Nat} (h : k < 40) : aok 3 44 (nI k) = true := aok_n rfl rfl h (by decide)
theorem ak_45 {k : Nat} (h : k < 40) : aok 3 45 (nI k) = true := aok_n rfl rfl h (by decide)
theorem ak_46 {k : Nat} (h : k < 7) : aok 1 46 (nI k) = true := aok_n rfl rfl h (by decide)
theorem ak_47 {k : Nat} (h : k < 10) : aok 1 47 (nI k) = true := aok_n rfl rfl h (by decide)
theorem ak_48 {k : Nat} (h : k < 10) : aok 2 48 (nI k) = true := aok_n rfl rfl h (by decide)
theorem ak_49 {k : Nat} (h : k < 10) : aok 1 49 (nI k) = true := aok_n rfl rfl h (by decide)
theorem ak_50 {k : Nat} (h : k < 312) : aok 1 50 (nI k) = true := aok_n rfl rfl h (by decide)
theorem ak_51 {k : Nat} (h : k < 26) : aok 1 51 (nI k) = true := aok_n rfl rfl h (by decide)
theorem ak_52 {k : Nat} (h : k < 26) : aok 1 52 (nI k) = true := aok_n rfl rfl h (by decide)
theorem ak_53 {k : Nat} (h : k < 240) : aok 1 53 (nI k) = true := aok_n rfl rfl h (by decide)
theorem ak_54 {k : Nat} (h : k < 2600) : aok 1 54 (nI k) = true := aok_n rfl rfl h (by decide)
theorem ak_55 {k : Nat} (h : k < 12) : aok 1 55 (nI k) = true := aok_n rfl rfl h (by decide)
theorem ak_56 {k : Nat} (h : k < 12) : aok 1 56 (nI k) = true := aok_n rfl rfl h (by decide)
theorem ak_57 {k : Nat} (h : k < 10) : aok 1 57 (nI k) = true := aok_n rfl rfl h (by decide)
theorem ak_58 {k : Nat} (h : k < 10) : aok 1 58 (nI k) = true := aok_n rfl rfl h (by decide)
theorem ak_59 {k : Nat} (h : k < 3) : aok 1 59 (nI k) = true := aok_n rfl rfl h (by decide)
theorem ak_60 {k : Nat} (h : k < 10) : aok 5 60 (nI k) = true := aok_n rfl rfl h (by decide)
theorem ak_61 {k : Nat} (h : k < 52) : aok 1 61 (nI k) = true := aok_n rfl rfl h (by decide)
theorem ak_62 {k : Nat} (h : k < 2) : aok 5 62 (nI k) = true := aok_n rfl rfl h (by decide)
theorem ak_63 {k : Nat} (h : k < 2) : aok 1 63 (nI k) = true := aok_n rfl rfl h (by decide)
theorem ak_64 {k : Nat} (h : k < 1) : aok 2 64 (nI k) = true := aok_n rfl rfl h (by decide)
theorem ak_s {s k : Nat} (hs : zS s) (h : k < 27) : aok 1 (s + 1) (nI k) = true := by rcases hs with rfl | rfl | rfl <;> exact aok_n rfl rfl h (by decide)
theorem ak_q1 {q k : Nat} (hq : zQ q) (h : k < 40) : aok 1 (q + 1) (nI k) = true := by rcases hq with rfl | rfl <;> exact aok_n rfl rfl h (by decide)
theorem ak_q2 {q k : Nat} (hq : zQ q) (h : k < 40) : aok 1 (q + 2) (nI k) = true := by rcases hq with rfl | rfl <;> exact aok_n rfl rfl h (by decide)
