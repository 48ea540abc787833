theorem zdl_0 : ∀ q ∈ (r_300.drop 0).take 50, decode code q.1 = .ok q.2 := by decide +kernel
theorem zdl_1 : ∀ q ∈ (r_300.drop 50).take 50, decode code q.1 = .ok q.2 := by decide +kernel
theorem zdl_2 : ∀ q ∈ (r_300.drop 100).take 50, decode code q.1 = .ok q.2 := by decide +kernel
theorem zdl_3 : ∀ q ∈ (r_300.drop 150).take 50, decode code q.1 = .ok q.2 := by decide +kernel
theorem zdl_4 : ∀ q ∈ (r_300.drop 200).take 50, decode code q.1 = .ok q.2 := by decide +kernel
theorem zdl_5 : ∀ q ∈ (r_300.drop 250).take 50, decode code q.1 = .ok q.2 := by decide +kernel
theorem zdl_6 : ∀ q ∈ (r_300.drop 300).take 50, decode code q.1 = .ok q.2 := by decide +kernel
theorem zdl_7 : ∀ q ∈ (r_300.drop 350).take 50, decode code q.1 = .ok q.2 := by decide +kernel
theorem zdl_8 : ∀ q ∈ (r_300.drop 400).take 50, decode code q.1 = .ok q.2 := by decide +kernel
theorem zdl_9 : ∀ q ∈ (r_300.drop 450).take 50, decode code q.1 = .ok q.2 := by decide +kernel
theorem zdl_10 : ∀ q ∈ (r_300.drop 500).take 50, decode code q.1 = .ok q.2 := by decide +kernel
theorem zdl_11 : ∀ q ∈ (r_300.drop 550).take 50, decode code q.1 = .ok q.2 := by decide +kernel
theorem zdl_12 : ∀ q ∈ (r_300.drop 600).take 50, decode code q.1 = .ok q.2 := by decide +kernel
theorem zdl_13 : ∀ q ∈ (r_300.drop 650).take 50, decode code q.1 = .ok q.2 := by decide +kernel
theorem zdl_14 : ∀ q ∈ (r_300.drop 700).take 50, decode code q.1 = .ok q.2 := by decide +kernel
theorem zdl_15 : ∀ q ∈ (r_300.drop 750).take 50, decode code q.1 = .ok q.2 := by decide +kernel
theorem zdl_16 : ∀ q ∈ (r_300.drop 800).take 50, decode code q.1 = .ok q.2 := by decide +kernel
theorem zdl_17 : ∀ q ∈ (r_300.drop 850).take 50, decode code q.1 = .ok q.2 := by decide +kernel
theorem zdl_18 : ∀ q ∈ (r_300.drop 900).take 50, decode code q.1 = .ok q.2 := by decide +kernel
theorem zd_300 : zdecM z_300 := by
  intro q hq
  obtain ⟨i, hi⟩ := List.getElem?_of_mem hq
  have hl : i < 918 := Nat.lt_of_lt_of_le (List.getElem?_eq_some_iff.mp hi).1 (by decide +kernel)
  have key : ∀ k j, j < 50 → i = 50 * k + j → q ∈ (r_300.drop (50 * k)).take 50 := by
    intro k j hj e
    refine List.mem_of_getElem? (i := j) ?_
    rw [List.getElem?_take, if_pos hj, List.getElem?_drop, ← e]
    exact hi
  have hm : i % 50 < 50 := Nat.mod_lt _ (by decide)
  have hk : i / 50 < 19 := by omega
  have hq2 := key (i / 50) (i % 50) hm (Nat.div_add_mod i 50).symm
  generalize i / 50 = k at hk hq2
  show decode code q.1 = .ok q.2
  match k, hk, hq2 with
  | 0, _, h => exact zdl_0 q h
  | 1, _, h => exact zdl_1 q h
  | 2, _, h => exact zdl_2 q h
  | 3, _, h => exact zdl_3 q h
  | 4, _, h => exact zdl_4 q h
  | 5, _, h => exact zdl_5 q h
  | 6, _, h => exact zdl_6 q h
  | 7, _, h => exact zdl_7 q h
  | 8, _, h => exact zdl_8 q h
  | 9, _, h => exact zdl_9 q h
  | 10, _, h => exact zdl_10 q h
  | 11, _, h => exact zdl_11 q h
  | 12, _, h => exact zdl_12 q h
  | 13, _, h => exact zdl_13 q h
  | 14, _, h => exact zdl_14 q h
  | 15, _, h => exact zdl_15 q h
  | 16, _, h => exact zdl_16 q h
  | 17, _, h => exact zdl_17 q h
  | 18, _, h => exact zdl_18 q h
  | k + 19, h, _ => omega
