theorem zcl_0 : ∀ i, i < 50 → zchkI z_300 (0 + i) = true := by decide +kernel
theorem zcl_1 : ∀ i, i < 50 → zchkI z_300 (50 + i) = true := by decide +kernel
theorem zcl_2 : ∀ i, i < 50 → zchkI z_300 (100 + i) = true := by decide +kernel
theorem zcl_3 : ∀ i, i < 50 → zchkI z_300 (150 + i) = true := by decide +kernel
theorem zcl_4 : ∀ i, i < 50 → zchkI z_300 (200 + i) = true := by decide +kernel
theorem zcl_5 : ∀ i, i < 50 → zchkI z_300 (250 + i) = true := by decide +kernel
theorem zcl_6 : ∀ i, i < 50 → zchkI z_300 (300 + i) = true := by decide +kernel
theorem zcl_7 : ∀ i, i < 50 → zchkI z_300 (350 + i) = true := by decide +kernel
theorem zcl_8 : ∀ i, i < 50 → zchkI z_300 (400 + i) = true := by decide +kernel
theorem zcl_9 : ∀ i, i < 50 → zchkI z_300 (450 + i) = true := by decide +kernel
theorem zcl_10 : ∀ i, i < 50 → zchkI z_300 (500 + i) = true := by decide +kernel
theorem zcl_11 : ∀ i, i < 50 → zchkI z_300 (550 + i) = true := by decide +kernel
theorem zcl_12 : ∀ i, i < 50 → zchkI z_300 (600 + i) = true := by decide +kernel
theorem zcl_13 : ∀ i, i < 50 → zchkI z_300 (650 + i) = true := by decide +kernel
theorem zcl_14 : ∀ i, i < 50 → zchkI z_300 (700 + i) = true := by decide +kernel
theorem zcl_15 : ∀ i, i < 50 → zchkI z_300 (750 + i) = true := by decide +kernel
theorem zcl_16 : ∀ i, i < 50 → zchkI z_300 (800 + i) = true := by decide +kernel
theorem zcl_17 : ∀ i, i < 50 → zchkI z_300 (850 + i) = true := by decide +kernel
theorem zcl_18 : ∀ i, i < 18 → zchkI z_300 (900 + i) = true := by decide +kernel
theorem zchk_law : ∀ i, i < 918 → zchkI z_300 i = true := by
  intro i hi
  have hq : i = 50 * (i / 50) + i % 50 := (Nat.div_add_mod i 50).symm
  have hm : i % 50 < 50 := Nat.mod_lt _ (by decide)
  have hk : i / 50 < 19 := by omega
  generalize i / 50 = k at hq hk
  generalize i % 50 = j at hq hm
  subst hq
  match k, hk with
  | 0, _ => exact zcl_0 j (by omega)
  | 1, _ => exact zcl_1 j (by omega)
  | 2, _ => exact zcl_2 j (by omega)
  | 3, _ => exact zcl_3 j (by omega)
  | 4, _ => exact zcl_4 j (by omega)
  | 5, _ => exact zcl_5 j (by omega)
  | 6, _ => exact zcl_6 j (by omega)
  | 7, _ => exact zcl_7 j (by omega)
  | 8, _ => exact zcl_8 j (by omega)
  | 9, _ => exact zcl_9 j (by omega)
  | 10, _ => exact zcl_10 j (by omega)
  | 11, _ => exact zcl_11 j (by omega)
  | 12, _ => exact zcl_12 j (by omega)
  | 13, _ => exact zcl_13 j (by omega)
  | 14, _ => exact zcl_14 j (by omega)
  | 15, _ => exact zcl_15 j (by omega)
  | 16, _ => exact zcl_16 j (by omega)
  | 17, _ => exact zcl_17 j (by omega)
  | 18, _ => exact zcl_18 j (by omega)
  | k + 19, h => omega
theorem zc_300 : zchkM z_300 = true := by
  unfold zchkM
  rw [Bool.and_eq_true, Bool.and_eq_true, Bool.and_eq_true]
  refine ⟨⟨⟨by decide +kernel, ?_⟩, by decide +kernel⟩, by decide +kernel⟩
  rw [List.all_eq_true]
  intro i hi
  exact zchk_law i (Nat.lt_of_lt_of_le (List.mem_range.mp hi) (by decide +kernel))
