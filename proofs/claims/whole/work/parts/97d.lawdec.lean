theorem zdl_0 : ∀ q ∈ (r_300.drop (50 * 0)).take 50, decode code q.1 = .ok q.2 := by decide +kernel
theorem zdl_1 : ∀ q ∈ (r_300.drop (50 * 1)).take 50, decode code q.1 = .ok q.2 := by decide +kernel
theorem zdl_2 : ∀ q ∈ (r_300.drop (50 * 2)).take 50, decode code q.1 = .ok q.2 := by decide +kernel
theorem zdl_3 : ∀ q ∈ (r_300.drop (50 * 3)).take 50, decode code q.1 = .ok q.2 := by decide +kernel
theorem zdl_4 : ∀ q ∈ (r_300.drop (50 * 4)).take 50, decode code q.1 = .ok q.2 := by decide +kernel
theorem zdl_5 : ∀ q ∈ (r_300.drop (50 * 5)).take 50, decode code q.1 = .ok q.2 := by decide +kernel
theorem zdl_6 : ∀ q ∈ (r_300.drop (50 * 6)).take 50, decode code q.1 = .ok q.2 := by decide +kernel
theorem zdl_7 : ∀ q ∈ (r_300.drop (50 * 7)).take 50, decode code q.1 = .ok q.2 := by decide +kernel
theorem zdl_8 : ∀ q ∈ (r_300.drop (50 * 8)).take 50, decode code q.1 = .ok q.2 := by decide +kernel
theorem zdl_9 : ∀ q ∈ (r_300.drop (50 * 9)).take 50, decode code q.1 = .ok q.2 := by decide +kernel
theorem zdl_10 : ∀ q ∈ (r_300.drop (50 * 10)).take 50, decode code q.1 = .ok q.2 := by decide +kernel
theorem zdl_11 : ∀ q ∈ (r_300.drop (50 * 11)).take 50, decode code q.1 = .ok q.2 := by decide +kernel
theorem zdl_12 : ∀ q ∈ (r_300.drop (50 * 12)).take 50, decode code q.1 = .ok q.2 := by decide +kernel
theorem zdl_13 : ∀ q ∈ (r_300.drop (50 * 13)).take 50, decode code q.1 = .ok q.2 := by decide +kernel
theorem zdl_14 : ∀ q ∈ (r_300.drop (50 * 14)).take 50, decode code q.1 = .ok q.2 := by decide +kernel
theorem zdl_15 : ∀ q ∈ (r_300.drop (50 * 15)).take 50, decode code q.1 = .ok q.2 := by decide +kernel
theorem zdl_16 : ∀ q ∈ (r_300.drop (50 * 16)).take 50, decode code q.1 = .ok q.2 := by decide +kernel
theorem zdl_17 : ∀ q ∈ (r_300.drop (50 * 17)).take 50, decode code q.1 = .ok q.2 := by decide +kernel
theorem zdl_18 : ∀ q ∈ (r_300.drop (50 * 18)).take 50, decode code q.1 = .ok q.2 := by decide +kernel
theorem zdl_all : ∀ k, k < 19 → ∀ q ∈ (r_300.drop (50 * k)).take 50, decode code q.1 = .ok q.2
  | 0, _ => zdl_0
  | 1, _ => zdl_1
  | 2, _ => zdl_2
  | 3, _ => zdl_3
  | 4, _ => zdl_4
  | 5, _ => zdl_5
  | 6, _ => zdl_6
  | 7, _ => zdl_7
  | 8, _ => zdl_8
  | 9, _ => zdl_9
  | 10, _ => zdl_10
  | 11, _ => zdl_11
  | 12, _ => zdl_12
  | 13, _ => zdl_13
  | 14, _ => zdl_14
  | 15, _ => zdl_15
  | 16, _ => zdl_16
  | 17, _ => zdl_17
  | 18, _ => zdl_18
  | k + 19, h => absurd h (by omega)
theorem zd_300 : zdecM z_300 := by
  intro q hq
  obtain ⟨i, hi⟩ := List.getElem?_of_mem hq
  have hl : i < 918 := Nat.lt_of_lt_of_le (List.getElem?_eq_some_iff.mp hi).1 (by decide +kernel)
  have key : ∀ k j, j < 50 → i = 50 * k + j → q ∈ (r_300.drop (50 * k)).take 50 := by
    intro k j hj e
    refine List.mem_of_getElem? (i := j) ?_
    rw [List.getElem?_take, if_pos hj, List.getElem?_drop, ← e]
    exact hi
  have hm : i % 50 < 50 := Nat.mod_lt _ (by decide)
  have hk : i / 50 < 19 := by omega
  have hq2 := key (i / 50) (i % 50) hm (Nat.div_add_mod i 50).symm
  exact zdl_all _ hk q hq2
