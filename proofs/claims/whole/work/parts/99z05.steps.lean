section
variable {I : Nat → Nat → Int32} {L : Nat → Nat → Int64} {ru dr : Nat} {sr : Nat → Option Nat} {rd : Option Nat} {rl x : Nat}
variable {d R S p n T rn k N : Nat} {f g rt : Nat → Nat} {a : zP} {t : Nat → Nat} {l : List Int64} {u : List zP} {kp : Nat → Option zP} {cl : List (Nat × Nat)} {si : List (Nat × Int32)} {cs : zC} {xs : Nat → Int32}
/-! a turn of the law -/
theorem u0 {w5 w6 w7 : Value} (h : gSt N xs k I L ru dr sr rd rl x) (hN : N ≤ 2560) (hk5 : 5 * k + 5 ≤ N) (hc : xs (5 * k) &&& nI 63 = nI 0) : ∃ I2 L2 ru2 dr2 sr2 rd2 x2 v5 v6 v7, res 90 300 13 [.ref 999, .ref 1, .ref 36, .ref 64, .int (nI (5 * k)), w5, w6, w7] [] (I, L, rR ru dr sr rd rl, 65, x) = res 90 300 13 [.ref 999, .ref 1, .ref 36, .ref 64, .int (nI (5 * (k + 1))), v5, v6, v7] [] (I2, L2, rR ru2 dr2 sr2 rd2 rl, 65, x2) ∧ gSt N xs (k + 1) I2 L2 ru2 dr2 sr2 rd2 rl x2 := by
  have h9 := h.1
  obtain ⟨v, I1, L1, ru1, dr1, sr1, I2, L2, rd2, e1, h91, e2, g2⟩ := q0 (v := xs (5 * k + 1)) h (by omega)
  exact ⟨I2, L2, ru1, dr1, sr1, rd2, x, w5, w6, w7, by rw [lw0 h9 hN hk5 hc, e1, bI_i, e300_32, h91.1, if_pos (ib (j := 1) hN hk5 (by decide)), xj (j := 1) h91 hN hk5 (by decide), e2, bI_i, e300_39, if_pos rfl, nI_add, show 5 * (k + 1) = 5 * k + 5 by omega], g2⟩
theorem u1 {w5 w6 w7 : Value} (h : gSt N xs k I L ru dr sr rd rl x) (hN : N ≤ 2560) (hk5 : 5 * k + 5 ≤ N) (hc : xs (5 * k) &&& nI 63 = nI 1) : ∃ I2 L2 ru2 dr2 sr2 rd2 x2 v5 v6 v7, res 90 300 13 [.ref 999, .ref 1, .ref 36, .ref 64, .int (nI (5 * k)), w5, w6, w7] [] (I, L, rR ru dr sr rd rl, 65, x) = res 90 300 13 [.ref 999, .ref 1, .ref 36, .ref 64, .int (nI (5 * (k + 1))), v5, v6, v7] [] (I2, L2, rR ru2 dr2 sr2 rd2 rl, 65, x2) ∧ gSt N xs (k + 1) I2 L2 ru2 dr2 sr2 rd2 rl x2 := by
  have h9 := h.1
  obtain ⟨v, I1, L1, ru1, dr1, sr1, I2, L2, rd2, e1, h91, e2, g2⟩ := q1 (v := xs (5 * k + 1)) h (by omega)
  exact ⟨I2, L2, ru1, dr1, sr1, rd2, x, w5, w6, w7, by rw [lw1 h9 hN hk5 hc, e1, bI_i, e300_49, h91.1, if_pos (ib (j := 1) hN hk5 (by decide)), xj (j := 1) h91 hN hk5 (by decide), e2, bI_i, e300_56, if_pos rfl, nI_add, show 5 * (k + 1) = 5 * k + 5 by omega], g2⟩
theorem u2 {w5 w6 w7 : Value} (h : gSt N xs k I L ru dr sr rd rl x) (hN : N ≤ 2560) (hk5 : 5 * k + 5 ≤ N) (hc : xs (5 * k) &&& nI 63 = nI 2) : ∃ I2 L2 ru2 dr2 sr2 rd2 x2 v5 v6 v7, res 90 300 13 [.ref 999, .ref 1, .ref 36, .ref 64, .int (nI (5 * k)), w5, w6, w7] [] (I, L, rR ru dr sr rd rl, 65, x) = res 90 300 13 [.ref 999, .ref 1, .ref 36, .ref 64, .int (nI (5 * (k + 1))), v5, v6, v7] [] (I2, L2, rR ru2 dr2 sr2 rd2 rl, 65, x2) ∧ gSt N xs (k + 1) I2 L2 ru2 dr2 sr2 rd2 rl x2 := by
  have h9 := h.1
  obtain ⟨v, I1, L1, ru1, dr1, sr1, I2, L2, rd2, e1, h91, e2, g2⟩ := q2  h (by omega)
  exact ⟨I2, L2, ru1, dr1, sr1, rd2, x, w5, w6, w7, by rw [lw2 h9 hN hk5 hc, e1, bI_i, e300_61, e2, bI_i, e300_63, if_pos rfl, nI_add, show 5 * (k + 1) = 5 * k + 5 by omega], g2⟩
theorem u3 {w5 w6 w7 : Value} (h : gSt N xs k I L ru dr sr rd rl x) (hN : N ≤ 2560) (hk5 : 5 * k + 5 ≤ N) (hc : xs (5 * k) &&& nI 63 = nI 3) : ∃ I2 L2 ru2 dr2 sr2 rd2 x2 v5 v6 v7, res 90 300 13 [.ref 999, .ref 1, .ref 36, .ref 64, .int (nI (5 * k)), w5, w6, w7] [] (I, L, rR ru dr sr rd rl, 65, x) = res 90 300 13 [.ref 999, .ref 1, .ref 36, .ref 64, .int (nI (5 * (k + 1))), v5, v6, v7] [] (I2, L2, rR ru2 dr2 sr2 rd2 rl, 65, x2) ∧ gSt N xs (k + 1) I2 L2 ru2 dr2 sr2 rd2 rl x2 := by
  have h9 := h.1
  obtain ⟨v, I1, L1, ru1, dr1, sr1, I2, L2, rd2, e1, h91, e2, g2⟩ := q3  h (by omega)
  exact ⟨I2, L2, ru1, dr1, sr1, rd2, x, w5, w6, w7, by rw [lw3 h9 hN hk5 hc, e1, bI_i, e300_68, e2, bI_i, e300_70, if_pos rfl, nI_add, show 5 * (k + 1) = 5 * k + 5 by omega], g2⟩
theorem u4 {w5 w6 w7 : Value} (h : gSt N xs k I L ru dr sr rd rl x) (hN : N ≤ 2560) (hk5 : 5 * k + 5 ≤ N) (hc : xs (5 * k) &&& nI 63 = nI 4) : ∃ I2 L2 ru2 dr2 sr2 rd2 x2 v5 v6 v7, res 90 300 13 [.ref 999, .ref 1, .ref 36, .ref 64, .int (nI (5 * k)), w5, w6, w7] [] (I, L, rR ru dr sr rd rl, 65, x) = res 90 300 13 [.ref 999, .ref 1, .ref 36, .ref 64, .int (nI (5 * (k + 1))), v5, v6, v7] [] (I2, L2, rR ru2 dr2 sr2 rd2 rl, 65, x2) ∧ gSt N xs (k + 1) I2 L2 ru2 dr2 sr2 rd2 rl x2 := by
  have h9 := h.1
  obtain ⟨v, I1, L1, ru1, dr1, sr1, I2, L2, rd2, e1, h91, e2, g2⟩ := q4  h (by omega)
  exact ⟨I2, L2, ru1, dr1, sr1, rd2, x, w5, w6, w7, by rw [lw4 h9 hN hk5 hc, e1, bI_i, e300_75, e2, bI_i, e300_77, if_pos rfl, nI_add, show 5 * (k + 1) = 5 * k + 5 by omega], g2⟩
theorem u7 {w5 w6 w7 : Value} (h : gSt N xs k I L ru dr sr rd rl x) (hN : N ≤ 2560) (hk5 : 5 * k + 5 ≤ N) (hc : xs (5 * k) &&& nI 63 = nI 7) : ∃ I2 L2 ru2 dr2 sr2 rd2 x2 v5 v6 v7, res 90 300 13 [.ref 999, .ref 1, .ref 36, .ref 64, .int (nI (5 * k)), w5, w6, w7] [] (I, L, rR ru dr sr rd rl, 65, x) = res 90 300 13 [.ref 999, .ref 1, .ref 36, .ref 64, .int (nI (5 * (k + 1))), v5, v6, v7] [] (I2, L2, rR ru2 dr2 sr2 rd2 rl, 65, x2) ∧ gSt N xs (k + 1) I2 L2 ru2 dr2 sr2 rd2 rl x2 := by
  have h9 := h.1
  obtain ⟨v, I1, L1, ru1, dr1, sr1, I2, L2, rd2, e1, h91, e2, g2⟩ := q7 (v := xs (5 * k + 1)) (w := xs (5 * k + 2)) (y := xs (5 * k + 3)) (z := xs (5 * k + 4)) h (by omega)
  exact ⟨I2, L2, ru1, dr1, sr1, rd2, x, w5, w6, w7, by rw [lw7 h9 hN hk5 hc, e1, bI_i, e300_192, h91.1, if_pos (ib (j := 1) hN hk5 (by decide)), if_pos (ib (j := 2) hN hk5 (by decide)), if_pos (ib (j := 3) hN hk5 (by decide)), if_pos (ib (j := 4) hN hk5 (by decide)), xj (j := 1) h91 hN hk5 (by decide), xj (j := 2) h91 hN hk5 (by decide), xj (j := 3) h91 hN hk5 (by decide), xj (j := 4) h91 hN hk5 (by decide), e2, bI_i, e300_214, if_pos rfl, nI_add, show 5 * (k + 1) = 5 * k + 5 by omega], g2⟩
theorem u8 {w5 w6 w7 : Value} (h : gSt N xs k I L ru dr sr rd rl x) (hN : N ≤ 2560) (hk5 : 5 * k + 5 ≤ N) (hc : xs (5 * k) &&& nI 63 = nI 8) : ∃ I2 L2 ru2 dr2 sr2 rd2 x2 v5 v6 v7, res 90 300 13 [.ref 999, .ref 1, .ref 36, .ref 64, .int (nI (5 * k)), w5, w6, w7] [] (I, L, rR ru dr sr rd rl, 65, x) = res 90 300 13 [.ref 999, .ref 1, .ref 36, .ref 64, .int (nI (5 * (k + 1))), v5, v6, v7] [] (I2, L2, rR ru2 dr2 sr2 rd2 rl, 65, x2) ∧ gSt N xs (k + 1) I2 L2 ru2 dr2 sr2 rd2 rl x2 := by
  have h9 := h.1
  obtain ⟨v, I1, L1, ru1, dr1, sr1, I2, L2, rd2, e1, h91, e2, g2⟩ := q8  h (by omega)
  exact ⟨I2, L2, ru1, dr1, sr1, rd2, x, w5, w6, w7, by rw [lw8 h9 hN hk5 hc, e1, bI_i, e300_219, e2, bI_i, e300_221, if_pos rfl, nI_add, show 5 * (k + 1) = 5 * k + 5 by omega], g2⟩
theorem u9 {w5 w6 w7 : Value} (h : gSt N xs k I L ru dr sr rd rl x) (hN : N ≤ 2560) (hk5 : 5 * k + 5 ≤ N) (hc : xs (5 * k) &&& nI 63 = nI 9) : ∃ I2 L2 ru2 dr2 sr2 rd2 x2 v5 v6 v7, res 90 300 13 [.ref 999, .ref 1, .ref 36, .ref 64, .int (nI (5 * k)), w5, w6, w7] [] (I, L, rR ru dr sr rd rl, 65, x) = res 90 300 13 [.ref 999, .ref 1, .ref 36, .ref 64, .int (nI (5 * (k + 1))), v5, v6, v7] [] (I2, L2, rR ru2 dr2 sr2 rd2 rl, 65, x2) ∧ gSt N xs (k + 1) I2 L2 ru2 dr2 sr2 rd2 rl x2 := by
  have h9 := h.1
  obtain ⟨v, I1, L1, ru1, dr1, sr1, I2, L2, rd2, e1, h91, e2, g2⟩ := q9 (v := xs (5 * k + 1)) h (by omega)
  exact ⟨I2, L2, ru1, dr1, sr1, rd2, x, w5, w6, w7, by rw [lw9 h9 hN hk5 hc, e1, bI_i, e300_231, h91.1, if_pos (ib (j := 1) hN hk5 (by decide)), xj (j := 1) h91 hN hk5 (by decide), e2, bI_i, e300_238, if_pos rfl, nI_add, show 5 * (k + 1) = 5 * k + 5 by omega], g2⟩
theorem u10 {w5 w6 w7 : Value} (h : gSt N xs k I L ru dr sr rd rl x) (hN : N ≤ 2560) (hk5 : 5 * k + 5 ≤ N) (hc : xs (5 * k) &&& nI 63 = nI 10) : ∃ I2 L2 ru2 dr2 sr2 rd2 x2 v5 v6 v7, res 90 300 13 [.ref 999, .ref 1, .ref 36, .ref 64, .int (nI (5 * k)), w5, w6, w7] [] (I, L, rR ru dr sr rd rl, 65, x) = res 90 300 13 [.ref 999, .ref 1, .ref 36, .ref 64, .int (nI (5 * (k + 1))), v5, v6, v7] [] (I2, L2, rR ru2 dr2 sr2 rd2 rl, 65, x2) ∧ gSt N xs (k + 1) I2 L2 ru2 dr2 sr2 rd2 rl x2 := by
  have h9 := h.1
  obtain ⟨v, I1, L1, ru1, dr1, sr1, I2, L2, rd2, e1, h91, e2, g2⟩ := q10  h (by omega)
  exact ⟨I2, L2, ru1, dr1, sr1, rd2, x, w5, w6, w7, by rw [lw10 h9 hN hk5 hc, e1, bI_i, e300_243, e2, bI_i, e300_245, if_pos rfl, nI_add, show 5 * (k + 1) = 5 * k + 5 by omega], g2⟩
theorem u11 {w5 w6 w7 : Value} (h : gSt N xs k I L ru dr sr rd rl x) (hN : N ≤ 2560) (hk5 : 5 * k + 5 ≤ N) (hc : xs (5 * k) &&& nI 63 = nI 11) : ∃ I2 L2 ru2 dr2 sr2 rd2 x2 v5 v6 v7, res 90 300 13 [.ref 999, .ref 1, .ref 36, .ref 64, .int (nI (5 * k)), w5, w6, w7] [] (I, L, rR ru dr sr rd rl, 65, x) = res 90 300 13 [.ref 999, .ref 1, .ref 36, .ref 64, .int (nI (5 * (k + 1))), v5, v6, v7] [] (I2, L2, rR ru2 dr2 sr2 rd2 rl, 65, x2) ∧ gSt N xs (k + 1) I2 L2 ru2 dr2 sr2 rd2 rl x2 := by
  have h9 := h.1
  obtain ⟨v, I1, L1, ru1, dr1, sr1, I2, L2, rd2, e1, h91, e2, g2⟩ := q11 (v := xs (5 * k + 1)) (w := xs (5 * k + 2)) h (by omega)
  exact ⟨I2, L2, ru1, dr1, sr1, rd2, x, w5, w6, w7, by rw [lw11 h9 hN hk5 hc, e1, bI_i, e300_260, h91.1, if_pos (ib (j := 1) hN hk5 (by decide)), if_pos (ib (j := 2) hN hk5 (by decide)), xj (j := 1) h91 hN hk5 (by decide), xj (j := 2) h91 hN hk5 (by decide), e2, bI_i, e300_272, if_pos rfl, nI_add, show 5 * (k + 1) = 5 * k + 5 by omega], g2⟩
theorem u12 {w5 w6 w7 : Value} (h : gSt N xs k I L ru dr sr rd rl x) (hN : N ≤ 2560) (hk5 : 5 * k + 5 ≤ N) (hc : xs (5 * k) &&& nI 63 = nI 12) : ∃ I2 L2 ru2 dr2 sr2 rd2 x2 v5 v6 v7, res 90 300 13 [.ref 999, .ref 1, .ref 36, .ref 64, .int (nI (5 * k)), w5, w6, w7] [] (I, L, rR ru dr sr rd rl, 65, x) = res 90 300 13 [.ref 999, .ref 1, .ref 36, .ref 64, .int (nI (5 * (k + 1))), v5, v6, v7] [] (I2, L2, rR ru2 dr2 sr2 rd2 rl, 65, x2) ∧ gSt N xs (k + 1) I2 L2 ru2 dr2 sr2 rd2 rl x2 := by
  have h9 := h.1
  obtain ⟨v, I1, L1, ru1, dr1, sr1, I2, L2, rd2, e1, h91, e2, g2⟩ := q12 (v := xs (5 * k + 1)) (w := xs (5 * k + 2)) h (by omega)
  exact ⟨I2, L2, ru1, dr1, sr1, rd2, x, w5, w6, w7, by rw [lw12 h9 hN hk5 hc, e1, bI_i, e300_287, h91.1, if_pos (ib (j := 1) hN hk5 (by decide)), if_pos (ib (j := 2) hN hk5 (by decide)), xj (j := 1) h91 hN hk5 (by decide), xj (j := 2) h91 hN hk5 (by decide), e2, bI_i, e300_299, if_pos rfl, nI_add, show 5 * (k + 1) = 5 * k + 5 by omega], g2⟩
theorem u13 {w5 w6 w7 : Value} (h : gSt N xs k I L ru dr sr rd rl x) (hN : N ≤ 2560) (hk5 : 5 * k + 5 ≤ N) (hc : xs (5 * k) &&& nI 63 = nI 13) : ∃ I2 L2 ru2 dr2 sr2 rd2 x2 v5 v6 v7, res 90 300 13 [.ref 999, .ref 1, .ref 36, .ref 64, .int (nI (5 * k)), w5, w6, w7] [] (I, L, rR ru dr sr rd rl, 65, x) = res 90 300 13 [.ref 999, .ref 1, .ref 36, .ref 64, .int (nI (5 * (k + 1))), v5, v6, v7] [] (I2, L2, rR ru2 dr2 sr2 rd2 rl, 65, x2) ∧ gSt N xs (k + 1) I2 L2 ru2 dr2 sr2 rd2 rl x2 := by
  have h9 := h.1
  obtain ⟨v, I1, L1, ru1, dr1, sr1, I2, L2, rd2, e1, h91, e2, g2⟩ := q13 (v := xs (5 * k + 1)) (w := xs (5 * k + 2)) h (by omega)
  exact ⟨I2, L2, ru1, dr1, sr1, rd2, x, w5, w6, w7, by rw [lw13 h9 hN hk5 hc, e1, bI_i, e300_314, h91.1, if_pos (ib (j := 1) hN hk5 (by decide)), if_pos (ib (j := 2) hN hk5 (by decide)), xj (j := 1) h91 hN hk5 (by decide), xj (j := 2) h91 hN hk5 (by decide), e2, bI_i, e300_326, if_pos rfl, nI_add, show 5 * (k + 1) = 5 * k + 5 by omega], g2⟩
theorem u14 {w5 w6 w7 : Value} (h : gSt N xs k I L ru dr sr rd rl x) (hN : N ≤ 2560) (hk5 : 5 * k + 5 ≤ N) (hc : xs (5 * k) &&& nI 63 = nI 14) : ∃ I2 L2 ru2 dr2 sr2 rd2 x2 v5 v6 v7, res 90 300 13 [.ref 999, .ref 1, .ref 36, .ref 64, .int (nI (5 * k)), w5, w6, w7] [] (I, L, rR ru dr sr rd rl, 65, x) = res 90 300 13 [.ref 999, .ref 1, .ref 36, .ref 64, .int (nI (5 * (k + 1))), v5, v6, v7] [] (I2, L2, rR ru2 dr2 sr2 rd2 rl, 65, x2) ∧ gSt N xs (k + 1) I2 L2 ru2 dr2 sr2 rd2 rl x2 := by
  have h9 := h.1
  obtain ⟨v, I1, L1, ru1, dr1, sr1, I2, L2, rd2, e1, h91, e2, g2⟩ := q14  h (by omega)
  exact ⟨I2, L2, ru1, dr1, sr1, rd2, x, w5, w6, w7, by rw [lw14 h9 hN hk5 hc, e1, bI_i, e300_331, e2, bI_i, e300_333, if_pos rfl, nI_add, show 5 * (k + 1) = 5 * k + 5 by omega], g2⟩
theorem u15 {w5 w6 w7 : Value} (h : gSt N xs k I L ru dr sr rd rl x) (hN : N ≤ 2560) (hk5 : 5 * k + 5 ≤ N) (hc : xs (5 * k) &&& nI 63 = nI 15) : ∃ I2 L2 ru2 dr2 sr2 rd2 x2 v5 v6 v7, res 90 300 13 [.ref 999, .ref 1, .ref 36, .ref 64, .int (nI (5 * k)), w5, w6, w7] [] (I, L, rR ru dr sr rd rl, 65, x) = res 90 300 13 [.ref 999, .ref 1, .ref 36, .ref 64, .int (nI (5 * (k + 1))), v5, v6, v7] [] (I2, L2, rR ru2 dr2 sr2 rd2 rl, 65, x2) ∧ gSt N xs (k + 1) I2 L2 ru2 dr2 sr2 rd2 rl x2 := by
  have h9 := h.1
  obtain ⟨v, I1, L1, ru1, dr1, sr1, I2, L2, rd2, e1, h91, e2, g2⟩ := q15  h (by omega)
  exact ⟨I2, L2, ru1, dr1, sr1, rd2, x, w5, w6, w7, by rw [lw15 h9 hN hk5 hc, e1, bI_i, e300_338, e2, bI_i, e300_340, if_pos rfl, nI_add, show 5 * (k + 1) = 5 * k + 5 by omega], g2⟩
theorem u16 {w5 w6 w7 : Value} (h : gSt N xs k I L ru dr sr rd rl x) (hN : N ≤ 2560) (hk5 : 5 * k + 5 ≤ N) (hc : xs (5 * k) &&& nI 63 = nI 16) : ∃ I2 L2 ru2 dr2 sr2 rd2 x2 v5 v6 v7, res 90 300 13 [.ref 999, .ref 1, .ref 36, .ref 64, .int (nI (5 * k)), w5, w6, w7] [] (I, L, rR ru dr sr rd rl, 65, x) = res 90 300 13 [.ref 999, .ref 1, .ref 36, .ref 64, .int (nI (5 * (k + 1))), v5, v6, v7] [] (I2, L2, rR ru2 dr2 sr2 rd2 rl, 65, x2) ∧ gSt N xs (k + 1) I2 L2 ru2 dr2 sr2 rd2 rl x2 := by
  have h9 := h.1
  obtain ⟨v, I1, L1, ru1, dr1, sr1, I2, L2, rd2, e1, h91, e2, g2⟩ := q16 (v := xs (5 * k + 1)) (w := xs (5 * k + 2)) h (by omega)
  exact ⟨I2, L2, ru1, dr1, sr1, rd2, x, w5, w6, w7, by rw [lw16 h9 hN hk5 hc, e1, bI_i, e300_355, h91.1, if_pos (ib (j := 1) hN hk5 (by decide)), if_pos (ib (j := 2) hN hk5 (by decide)), xj (j := 1) h91 hN hk5 (by decide), xj (j := 2) h91 hN hk5 (by decide), e2, bI_i, e300_367, if_pos rfl, nI_add, show 5 * (k + 1) = 5 * k + 5 by omega], g2⟩
theorem u17 {w5 w6 w7 : Value} (h : gSt N xs k I L ru dr sr rd rl x) (hN : N ≤ 2560) (hk5 : 5 * k + 5 ≤ N) (hc : xs (5 * k) &&& nI 63 = nI 17) : ∃ I2 L2 ru2 dr2 sr2 rd2 x2 v5 v6 v7, res 90 300 13 [.ref 999, .ref 1, .ref 36, .ref 64, .int (nI (5 * k)), w5, w6, w7] [] (I, L, rR ru dr sr rd rl, 65, x) = res 90 300 13 [.ref 999, .ref 1, .ref 36, .ref 64, .int (nI (5 * (k + 1))), v5, v6, v7] [] (I2, L2, rR ru2 dr2 sr2 rd2 rl, 65, x2) ∧ gSt N xs (k + 1) I2 L2 ru2 dr2 sr2 rd2 rl x2 := by
  have h9 := h.1
  obtain ⟨v, I1, L1, ru1, dr1, sr1, I2, L2, rd2, e1, h91, e2, g2⟩ := q17 (v := xs (5 * k + 1)) (w := xs (5 * k + 2)) h (by omega)
  exact ⟨I2, L2, ru1, dr1, sr1, rd2, x, w5, w6, w7, by rw [lw17 h9 hN hk5 hc, e1, bI_i, e300_382, h91.1, if_pos (ib (j := 1) hN hk5 (by decide)), if_pos (ib (j := 2) hN hk5 (by decide)), xj (j := 1) h91 hN hk5 (by decide), xj (j := 2) h91 hN hk5 (by decide), e2, bI_i, e300_394, if_pos rfl, nI_add, show 5 * (k + 1) = 5 * k + 5 by omega], g2⟩
theorem u18 {w5 w6 w7 : Value} (h : gSt N xs k I L ru dr sr rd rl x) (hN : N ≤ 2560) (hk5 : 5 * k + 5 ≤ N) (hc : xs (5 * k) &&& nI 63 = nI 18) : ∃ I2 L2 ru2 dr2 sr2 rd2 x2 v5 v6 v7, res 90 300 13 [.ref 999, .ref 1, .ref 36, .ref 64, .int (nI (5 * k)), w5, w6, w7] [] (I, L, rR ru dr sr rd rl, 65, x) = res 90 300 13 [.ref 999, .ref 1, .ref 36, .ref 64, .int (nI (5 * (k + 1))), v5, v6, v7] [] (I2, L2, rR ru2 dr2 sr2 rd2 rl, 65, x2) ∧ gSt N xs (k + 1) I2 L2 ru2 dr2 sr2 rd2 rl x2 := by
  have h9 := h.1
  obtain ⟨v, I1, L1, ru1, dr1, sr1, I2, L2, rd2, e1, h91, e2, g2⟩ := q18 (v := xs (5 * k + 1)) h (by omega)
  exact ⟨I2, L2, ru1, dr1, sr1, rd2, x, w5, w6, w7, by rw [lw18 h9 hN hk5 hc, e1, bI_i, e300_404, h91.1, if_pos (ib (j := 1) hN hk5 (by decide)), xj (j := 1) h91 hN hk5 (by decide), e2, bI_i, e300_411, if_pos rfl, nI_add, show 5 * (k + 1) = 5 * k + 5 by omega], g2⟩
theorem u19 {w5 w6 w7 : Value} (h : gSt N xs k I L ru dr sr rd rl x) (hN : N ≤ 2560) (hk5 : 5 * k + 5 ≤ N) (hc : xs (5 * k) &&& nI 63 = nI 19) : ∃ I2 L2 ru2 dr2 sr2 rd2 x2 v5 v6 v7, res 90 300 13 [.ref 999, .ref 1, .ref 36, .ref 64, .int (nI (5 * k)), w5, w6, w7] [] (I, L, rR ru dr sr rd rl, 65, x) = res 90 300 13 [.ref 999, .ref 1, .ref 36, .ref 64, .int (nI (5 * (k + 1))), v5, v6, v7] [] (I2, L2, rR ru2 dr2 sr2 rd2 rl, 65, x2) ∧ gSt N xs (k + 1) I2 L2 ru2 dr2 sr2 rd2 rl x2 := by
  have h9 := h.1
  obtain ⟨v, I1, L1, ru1, dr1, sr1, I2, L2, rd2, e1, h91, e2, g2⟩ := q19 (v := xs (5 * k + 1)) h (by omega)
  exact ⟨I2, L2, ru1, dr1, sr1, rd2, x, w5, w6, w7, by rw [lw19 h9 hN hk5 hc, e1, bI_i, e300_421, h91.1, if_pos (ib (j := 1) hN hk5 (by decide)), xj (j := 1) h91 hN hk5 (by decide), e2, bI_i, e300_428, if_pos rfl, nI_add, show 5 * (k + 1) = 5 * k + 5 by omega], g2⟩
theorem u20 {w5 w6 w7 : Value} (h : gSt N xs k I L ru dr sr rd rl x) (hN : N ≤ 2560) (hk5 : 5 * k + 5 ≤ N) (hc : xs (5 * k) &&& nI 63 = nI 20) : ∃ I2 L2 ru2 dr2 sr2 rd2 x2 v5 v6 v7, res 90 300 13 [.ref 999, .ref 1, .ref 36, .ref 64, .int (nI (5 * k)), w5, w6, w7] [] (I, L, rR ru dr sr rd rl, 65, x) = res 90 300 13 [.ref 999, .ref 1, .ref 36, .ref 64, .int (nI (5 * (k + 1))), v5, v6, v7] [] (I2, L2, rR ru2 dr2 sr2 rd2 rl, 65, x2) ∧ gSt N xs (k + 1) I2 L2 ru2 dr2 sr2 rd2 rl x2 := by
  have h9 := h.1
  obtain ⟨v, I1, L1, ru1, dr1, sr1, I2, L2, rd2, e1, h91, e2, g2⟩ := q20 (v := xs (5 * k + 1)) h (by omega)
  exact ⟨I2, L2, ru1, dr1, sr1, rd2, x, w5, w6, w7, by rw [lw20 h9 hN hk5 hc, e1, bI_i, e300_438, h91.1, if_pos (ib (j := 1) hN hk5 (by decide)), xj (j := 1) h91 hN hk5 (by decide), e2, bI_i, e300_445, if_pos rfl, nI_add, show 5 * (k + 1) = 5 * k + 5 by omega], g2⟩
theorem u21 {w5 w6 w7 : Value} (h : gSt N xs k I L ru dr sr rd rl x) (hN : N ≤ 2560) (hk5 : 5 * k + 5 ≤ N) (hc : xs (5 * k) &&& nI 63 = nI 21) : ∃ I2 L2 ru2 dr2 sr2 rd2 x2 v5 v6 v7, res 90 300 13 [.ref 999, .ref 1, .ref 36, .ref 64, .int (nI (5 * k)), w5, w6, w7] [] (I, L, rR ru dr sr rd rl, 65, x) = res 90 300 13 [.ref 999, .ref 1, .ref 36, .ref 64, .int (nI (5 * (k + 1))), v5, v6, v7] [] (I2, L2, rR ru2 dr2 sr2 rd2 rl, 65, x2) ∧ gSt N xs (k + 1) I2 L2 ru2 dr2 sr2 rd2 rl x2 := by
  have h9 := h.1
  obtain ⟨v, I1, L1, ru1, dr1, sr1, I2, L2, rd2, e1, h91, e2, g2⟩ := q21 (v := xs (5 * k + 1)) h (by omega)
  exact ⟨I2, L2, ru1, dr1, sr1, rd2, x, w5, w6, w7, by rw [lw21 h9 hN hk5 hc, e1, bI_i, e300_455, h91.1, if_pos (ib (j := 1) hN hk5 (by decide)), xj (j := 1) h91 hN hk5 (by decide), e2, bI_i, e300_462, if_pos rfl, nI_add, show 5 * (k + 1) = 5 * k + 5 by omega], g2⟩
theorem u22 {w5 w6 w7 : Value} (h : gSt N xs k I L ru dr sr rd rl x) (hN : N ≤ 2560) (hk5 : 5 * k + 5 ≤ N) (hc : xs (5 * k) &&& nI 63 = nI 22) : ∃ I2 L2 ru2 dr2 sr2 rd2 x2 v5 v6 v7, res 90 300 13 [.ref 999, .ref 1, .ref 36, .ref 64, .int (nI (5 * k)), w5, w6, w7] [] (I, L, rR ru dr sr rd rl, 65, x) = res 90 300 13 [.ref 999, .ref 1, .ref 36, .ref 64, .int (nI (5 * (k + 1))), v5, v6, v7] [] (I2, L2, rR ru2 dr2 sr2 rd2 rl, 65, x2) ∧ gSt N xs (k + 1) I2 L2 ru2 dr2 sr2 rd2 rl x2 := by
  have h9 := h.1
  obtain ⟨v, I1, L1, ru1, dr1, sr1, I2, L2, rd2, e1, h91, e2, g2⟩ := q22 (v := xs (5 * k + 1)) h (by omega)
  exact ⟨I2, L2, ru1, dr1, sr1, rd2, x, w5, w6, w7, by rw [lw22 h9 hN hk5 hc, e1, bI_i, e300_472, h91.1, if_pos (ib (j := 1) hN hk5 (by decide)), xj (j := 1) h91 hN hk5 (by decide), e2, bI_i, e300_479, if_pos rfl, nI_add, show 5 * (k + 1) = 5 * k + 5 by omega], g2⟩
theorem u23 {w5 w6 w7 : Value} (h : gSt N xs k I L ru dr sr rd rl x) (hN : N ≤ 2560) (hk5 : 5 * k + 5 ≤ N) (hc : xs (5 * k) &&& nI 63 = nI 23) : ∃ I2 L2 ru2 dr2 sr2 rd2 x2 v5 v6 v7, res 90 300 13 [.ref 999, .ref 1, .ref 36, .ref 64, .int (nI (5 * k)), w5, w6, w7] [] (I, L, rR ru dr sr rd rl, 65, x) = res 90 300 13 [.ref 999, .ref 1, .ref 36, .ref 64, .int (nI (5 * (k + 1))), v5, v6, v7] [] (I2, L2, rR ru2 dr2 sr2 rd2 rl, 65, x2) ∧ gSt N xs (k + 1) I2 L2 ru2 dr2 sr2 rd2 rl x2 := by
  have h9 := h.1
  obtain ⟨v, I1, L1, ru1, dr1, sr1, I2, L2, rd2, e1, h91, e2, g2⟩ := q23 (v := xs (5 * k + 1)) h (by omega)
  exact ⟨I2, L2, ru1, dr1, sr1, rd2, x, w5, w6, w7, by rw [lw23 h9 hN hk5 hc, e1, bI_i, e300_489, h91.1, if_pos (ib (j := 1) hN hk5 (by decide)), xj (j := 1) h91 hN hk5 (by decide), e2, bI_i, e300_496, if_pos rfl, nI_add, show 5 * (k + 1) = 5 * k + 5 by omega], g2⟩
theorem u24 {w5 w6 w7 : Value} (h : gSt N xs k I L ru dr sr rd rl x) (hN : N ≤ 2560) (hk5 : 5 * k + 5 ≤ N) (hc : xs (5 * k) &&& nI 63 = nI 24) : ∃ I2 L2 ru2 dr2 sr2 rd2 x2 v5 v6 v7, res 90 300 13 [.ref 999, .ref 1, .ref 36, .ref 64, .int (nI (5 * k)), w5, w6, w7] [] (I, L, rR ru dr sr rd rl, 65, x) = res 90 300 13 [.ref 999, .ref 1, .ref 36, .ref 64, .int (nI (5 * (k + 1))), v5, v6, v7] [] (I2, L2, rR ru2 dr2 sr2 rd2 rl, 65, x2) ∧ gSt N xs (k + 1) I2 L2 ru2 dr2 sr2 rd2 rl x2 := by
  have h9 := h.1
  obtain ⟨v, I1, L1, ru1, dr1, sr1, I2, L2, rd2, e1, h91, e2, g2⟩ := q24  h (by omega)
  exact ⟨I2, L2, ru1, dr1, sr1, rd2, x, w5, w6, w7, by rw [lw24 h9 hN hk5 hc, e1, bI_i, e300_501, e2, bI_i, e300_503, if_pos rfl, nI_add, show 5 * (k + 1) = 5 * k + 5 by omega], g2⟩
theorem u25 {w5 w6 w7 : Value} (h : gSt N xs k I L ru dr sr rd rl x) (hN : N ≤ 2560) (hk5 : 5 * k + 5 ≤ N) (hc : xs (5 * k) &&& nI 63 = nI 25) : ∃ I2 L2 ru2 dr2 sr2 rd2 x2 v5 v6 v7, res 90 300 13 [.ref 999, .ref 1, .ref 36, .ref 64, .int (nI (5 * k)), w5, w6, w7] [] (I, L, rR ru dr sr rd rl, 65, x) = res 90 300 13 [.ref 999, .ref 1, .ref 36, .ref 64, .int (nI (5 * (k + 1))), v5, v6, v7] [] (I2, L2, rR ru2 dr2 sr2 rd2 rl, 65, x2) ∧ gSt N xs (k + 1) I2 L2 ru2 dr2 sr2 rd2 rl x2 := by
  have h9 := h.1
  obtain ⟨v, I1, L1, ru1, dr1, sr1, I2, L2, rd2, e1, h91, e2, g2⟩ := q25 (v := xs (5 * k + 1)) (w := xs (5 * k + 2)) h (by omega)
  exact ⟨I2, L2, ru1, dr1, sr1, rd2, x, w5, w6, w7, by rw [lw25 h9 hN hk5 hc, e1, bI_i, e300_518, h91.1, if_pos (ib (j := 1) hN hk5 (by decide)), if_pos (ib (j := 2) hN hk5 (by decide)), xj (j := 1) h91 hN hk5 (by decide), xj (j := 2) h91 hN hk5 (by decide), e2, bI_i, e300_530, if_pos rfl, nI_add, show 5 * (k + 1) = 5 * k + 5 by omega], g2⟩
theorem u26 {w5 w6 w7 : Value} (h : gSt N xs k I L ru dr sr rd rl x) (hN : N ≤ 2560) (hk5 : 5 * k + 5 ≤ N) (hc : xs (5 * k) &&& nI 63 = nI 26) : ∃ I2 L2 ru2 dr2 sr2 rd2 x2 v5 v6 v7, res 90 300 13 [.ref 999, .ref 1, .ref 36, .ref 64, .int (nI (5 * k)), w5, w6, w7] [] (I, L, rR ru dr sr rd rl, 65, x) = res 90 300 13 [.ref 999, .ref 1, .ref 36, .ref 64, .int (nI (5 * (k + 1))), v5, v6, v7] [] (I2, L2, rR ru2 dr2 sr2 rd2 rl, 65, x2) ∧ gSt N xs (k + 1) I2 L2 ru2 dr2 sr2 rd2 rl x2 := by
  have h9 := h.1
  obtain ⟨v, I1, L1, ru1, dr1, sr1, I2, L2, rd2, e1, h91, e2, g2⟩ := q26 (v := xs (5 * k + 1)) h (by omega)
  exact ⟨I2, L2, ru1, dr1, sr1, rd2, x, w5, w6, w7, by rw [lw26 h9 hN hk5 hc, e1, bI_i, e300_540, h91.1, if_pos (ib (j := 1) hN hk5 (by decide)), xj (j := 1) h91 hN hk5 (by decide), e2, bI_i, e300_547, if_pos rfl, nI_add, show 5 * (k + 1) = 5 * k + 5 by omega], g2⟩
theorem u27 {w5 w6 w7 : Value} (h : gSt N xs k I L ru dr sr rd rl x) (hN : N ≤ 2560) (hk5 : 5 * k + 5 ≤ N) (hc : xs (5 * k) &&& nI 63 = nI 27) : ∃ I2 L2 ru2 dr2 sr2 rd2 x2 v5 v6 v7, res 90 300 13 [.ref 999, .ref 1, .ref 36, .ref 64, .int (nI (5 * k)), w5, w6, w7] [] (I, L, rR ru dr sr rd rl, 65, x) = res 90 300 13 [.ref 999, .ref 1, .ref 36, .ref 64, .int (nI (5 * (k + 1))), v5, v6, v7] [] (I2, L2, rR ru2 dr2 sr2 rd2 rl, 65, x2) ∧ gSt N xs (k + 1) I2 L2 ru2 dr2 sr2 rd2 rl x2 := by
  have h9 := h.1
  obtain ⟨v, I1, L1, ru1, dr1, sr1, I2, L2, rd2, e1, h91, e2, g2⟩ := q27 (v := xs (5 * k + 1)) h (by omega)
  exact ⟨I2, L2, ru1, dr1, sr1, rd2, x, w5, w6, w7, by rw [lw27 h9 hN hk5 hc, e1, bI_i, e300_557, h91.1, if_pos (ib (j := 1) hN hk5 (by decide)), xj (j := 1) h91 hN hk5 (by decide), e2, bI_i, e300_564, if_pos rfl, nI_add, show 5 * (k + 1) = 5 * k + 5 by omega], g2⟩
theorem u28 {w5 w6 w7 : Value} (h : gSt N xs k I L ru dr sr rd rl x) (hN : N ≤ 2560) (hk5 : 5 * k + 5 ≤ N) (hc : xs (5 * k) &&& nI 63 = nI 28) : ∃ I2 L2 ru2 dr2 sr2 rd2 x2 v5 v6 v7, res 90 300 13 [.ref 999, .ref 1, .ref 36, .ref 64, .int (nI (5 * k)), w5, w6, w7] [] (I, L, rR ru dr sr rd rl, 65, x) = res 90 300 13 [.ref 999, .ref 1, .ref 36, .ref 64, .int (nI (5 * (k + 1))), v5, v6, v7] [] (I2, L2, rR ru2 dr2 sr2 rd2 rl, 65, x2) ∧ gSt N xs (k + 1) I2 L2 ru2 dr2 sr2 rd2 rl x2 := by
  have h9 := h.1
  obtain ⟨v, I1, L1, ru1, dr1, sr1, I2, L2, rd2, e1, h91, e2, g2⟩ := q28  h (by omega)
  exact ⟨I2, L2, ru1, dr1, sr1, rd2, x, w5, w6, w7, by rw [lw28 h9 hN hk5 hc, e1, bI_i, e300_569, e2, bI_i, e300_571, if_pos rfl, nI_add, show 5 * (k + 1) = 5 * k + 5 by omega], g2⟩
theorem u29 {w5 w6 w7 : Value} (h : gSt N xs k I L ru dr sr rd rl x) (hN : N ≤ 2560) (hk5 : 5 * k + 5 ≤ N) (hc : xs (5 * k) &&& nI 63 = nI 29) : ∃ I2 L2 ru2 dr2 sr2 rd2 x2 v5 v6 v7, res 90 300 13 [.ref 999, .ref 1, .ref 36, .ref 64, .int (nI (5 * k)), w5, w6, w7] [] (I, L, rR ru dr sr rd rl, 65, x) = res 90 300 13 [.ref 999, .ref 1, .ref 36, .ref 64, .int (nI (5 * (k + 1))), v5, v6, v7] [] (I2, L2, rR ru2 dr2 sr2 rd2 rl, 65, x2) ∧ gSt N xs (k + 1) I2 L2 ru2 dr2 sr2 rd2 rl x2 := by
  have h9 := h.1
  obtain ⟨v, I1, L1, ru1, dr1, sr1, I2, L2, rd2, e1, h91, e2, g2⟩ := q29  h (by omega)
  exact ⟨I2, L2, ru1, dr1, sr1, rd2, x, w5, w6, w7, by rw [lw29 h9 hN hk5 hc, e1, bI_i, e300_576, e2, bI_i, e300_578, if_pos rfl, nI_add, show 5 * (k + 1) = 5 * k + 5 by omega], g2⟩
theorem u30 {w5 w6 w7 : Value} (h : gSt N xs k I L ru dr sr rd rl x) (hN : N ≤ 2560) (hk5 : 5 * k + 5 ≤ N) (hc : xs (5 * k) &&& nI 63 = nI 30) : ∃ I2 L2 ru2 dr2 sr2 rd2 x2 v5 v6 v7, res 90 300 13 [.ref 999, .ref 1, .ref 36, .ref 64, .int (nI (5 * k)), w5, w6, w7] [] (I, L, rR ru dr sr rd rl, 65, x) = res 90 300 13 [.ref 999, .ref 1, .ref 36, .ref 64, .int (nI (5 * (k + 1))), v5, v6, v7] [] (I2, L2, rR ru2 dr2 sr2 rd2 rl, 65, x2) ∧ gSt N xs (k + 1) I2 L2 ru2 dr2 sr2 rd2 rl x2 := by
  have h9 := h.1
  obtain ⟨v, I1, L1, ru1, dr1, sr1, I2, L2, rd2, e1, h91, e2, g2⟩ := q30 (v := xs (5 * k + 1)) (w := xs (5 * k + 2)) h (by omega)
  exact ⟨I2, L2, ru1, dr1, sr1, rd2, x, w5, w6, w7, by rw [lw30 h9 hN hk5 hc, e1, bI_i, e300_593, h91.1, if_pos (ib (j := 1) hN hk5 (by decide)), if_pos (ib (j := 2) hN hk5 (by decide)), xj (j := 1) h91 hN hk5 (by decide), xj (j := 2) h91 hN hk5 (by decide), e2, bI_i, e300_605, if_pos rfl, nI_add, show 5 * (k + 1) = 5 * k + 5 by omega], g2⟩
theorem u31 {w5 w6 w7 : Value} (h : gSt N xs k I L ru dr sr rd rl x) (hN : N ≤ 2560) (hk5 : 5 * k + 5 ≤ N) (hc : xs (5 * k) &&& nI 63 = nI 31) : ∃ I2 L2 ru2 dr2 sr2 rd2 x2 v5 v6 v7, res 90 300 13 [.ref 999, .ref 1, .ref 36, .ref 64, .int (nI (5 * k)), w5, w6, w7] [] (I, L, rR ru dr sr rd rl, 65, x) = res 90 300 13 [.ref 999, .ref 1, .ref 36, .ref 64, .int (nI (5 * (k + 1))), v5, v6, v7] [] (I2, L2, rR ru2 dr2 sr2 rd2 rl, 65, x2) ∧ gSt N xs (k + 1) I2 L2 ru2 dr2 sr2 rd2 rl x2 := by
  have h9 := h.1
  obtain ⟨v, I1, L1, ru1, dr1, sr1, I2, L2, rd2, e1, h91, e2, g2⟩ := q31  h (by omega)
  exact ⟨I2, L2, ru1, dr1, sr1, rd2, x, w5, w6, w7, by rw [lw31 h9 hN hk5 hc, e1, bI_i, e300_610, e2, bI_i, e300_612, if_pos rfl, nI_add, show 5 * (k + 1) = 5 * k + 5 by omega], g2⟩
theorem u32 {w5 w6 w7 : Value} (h : gSt N xs k I L ru dr sr rd rl x) (hN : N ≤ 2560) (hk5 : 5 * k + 5 ≤ N) (hc : xs (5 * k) &&& nI 63 = nI 32) : ∃ I2 L2 ru2 dr2 sr2 rd2 x2 v5 v6 v7, res 90 300 13 [.ref 999, .ref 1, .ref 36, .ref 64, .int (nI (5 * k)), w5, w6, w7] [] (I, L, rR ru dr sr rd rl, 65, x) = res 90 300 13 [.ref 999, .ref 1, .ref 36, .ref 64, .int (nI (5 * (k + 1))), v5, v6, v7] [] (I2, L2, rR ru2 dr2 sr2 rd2 rl, 65, x2) ∧ gSt N xs (k + 1) I2 L2 ru2 dr2 sr2 rd2 rl x2 := by
  have h9 := h.1
  obtain ⟨v, I1, L1, ru1, dr1, sr1, I2, L2, rd2, e1, h91, e2, g2⟩ := q32  h (by omega)
  exact ⟨I2, L2, ru1, dr1, sr1, rd2, x, w5, w6, w7, by rw [lw32 h9 hN hk5 hc, e1, bI_i, e300_617, e2, bI_i, e300_619, if_pos rfl, nI_add, show 5 * (k + 1) = 5 * k + 5 by omega], g2⟩
theorem u33 {w5 w6 w7 : Value} (h : gSt N xs k I L ru dr sr rd rl x) (hN : N ≤ 2560) (hk5 : 5 * k + 5 ≤ N) (hc : xs (5 * k) &&& nI 63 = nI 33) : ∃ I2 L2 ru2 dr2 sr2 rd2 x2 v5 v6 v7, res 90 300 13 [.ref 999, .ref 1, .ref 36, .ref 64, .int (nI (5 * k)), w5, w6, w7] [] (I, L, rR ru dr sr rd rl, 65, x) = res 90 300 13 [.ref 999, .ref 1, .ref 36, .ref 64, .int (nI (5 * (k + 1))), v5, v6, v7] [] (I2, L2, rR ru2 dr2 sr2 rd2 rl, 65, x2) ∧ gSt N xs (k + 1) I2 L2 ru2 dr2 sr2 rd2 rl x2 := by
  have h9 := h.1
  obtain ⟨v, I1, L1, ru1, dr1, sr1, I2, L2, rd2, e1, h91, e2, g2⟩ := q33  h (by omega)
  exact ⟨I2, L2, ru1, dr1, sr1, rd2, x, w5, w6, w7, by rw [lw33 h9 hN hk5 hc, e1, bI_i, e300_624, e2, bI_i, e300_626, if_pos rfl, nI_add, show 5 * (k + 1) = 5 * k + 5 by omega], g2⟩
theorem u34 {w5 w6 w7 : Value} (h : gSt N xs k I L ru dr sr rd rl x) (hN : N ≤ 2560) (hk5 : 5 * k + 5 ≤ N) (hc : xs (5 * k) &&& nI 63 = nI 34) : ∃ I2 L2 ru2 dr2 sr2 rd2 x2 v5 v6 v7, res 90 300 13 [.ref 999, .ref 1, .ref 36, .ref 64, .int (nI (5 * k)), w5, w6, w7] [] (I, L, rR ru dr sr rd rl, 65, x) = res 90 300 13 [.ref 999, .ref 1, .ref 36, .ref 64, .int (nI (5 * (k + 1))), v5, v6, v7] [] (I2, L2, rR ru2 dr2 sr2 rd2 rl, 65, x2) ∧ gSt N xs (k + 1) I2 L2 ru2 dr2 sr2 rd2 rl x2 := by
  have h9 := h.1
  obtain ⟨v, I1, L1, ru1, dr1, sr1, I2, L2, rd2, e1, h91, e2, g2⟩ := q34 (v := xs (5 * k + 1)) (w := xs (5 * k + 2)) h (by omega)
  exact ⟨I2, L2, ru1, dr1, sr1, rd2, x, w5, w6, w7, by rw [lw34 h9 hN hk5 hc, e1, bI_i, e300_641, h91.1, if_pos (ib (j := 1) hN hk5 (by decide)), if_pos (ib (j := 2) hN hk5 (by decide)), xj (j := 1) h91 hN hk5 (by decide), xj (j := 2) h91 hN hk5 (by decide), e2, bI_i, e300_653, if_pos rfl, nI_add, show 5 * (k + 1) = 5 * k + 5 by omega], g2⟩
theorem u35 {w5 w6 w7 : Value} (h : gSt N xs k I L ru dr sr rd rl x) (hN : N ≤ 2560) (hk5 : 5 * k + 5 ≤ N) (hc : xs (5 * k) &&& nI 63 = nI 35) : ∃ I2 L2 ru2 dr2 sr2 rd2 x2 v5 v6 v7, res 90 300 13 [.ref 999, .ref 1, .ref 36, .ref 64, .int (nI (5 * k)), w5, w6, w7] [] (I, L, rR ru dr sr rd rl, 65, x) = res 90 300 13 [.ref 999, .ref 1, .ref 36, .ref 64, .int (nI (5 * (k + 1))), v5, v6, v7] [] (I2, L2, rR ru2 dr2 sr2 rd2 rl, 65, x2) ∧ gSt N xs (k + 1) I2 L2 ru2 dr2 sr2 rd2 rl x2 := by
  have h9 := h.1
  obtain ⟨v, I1, L1, ru1, dr1, sr1, I2, L2, rd2, e1, h91, e2, g2⟩ := q35  h (by omega)
  exact ⟨I2, L2, ru1, dr1, sr1, rd2, x, w5, w6, w7, by rw [lw35 h9 hN hk5 hc, e1, bI_i, e300_658, e2, bI_i, e300_660, if_pos rfl, nI_add, show 5 * (k + 1) = 5 * k + 5 by omega], g2⟩
theorem u36 {w5 w6 w7 : Value} (h : gSt N xs k I L ru dr sr rd rl x) (hN : N ≤ 2560) (hk5 : 5 * k + 5 ≤ N) (hc : xs (5 * k) &&& nI 63 = nI 36) : ∃ I2 L2 ru2 dr2 sr2 rd2 x2 v5 v6 v7, res 90 300 13 [.ref 999, .ref 1, .ref 36, .ref 64, .int (nI (5 * k)), w5, w6, w7] [] (I, L, rR ru dr sr rd rl, 65, x) = res 90 300 13 [.ref 999, .ref 1, .ref 36, .ref 64, .int (nI (5 * (k + 1))), v5, v6, v7] [] (I2, L2, rR ru2 dr2 sr2 rd2 rl, 65, x2) ∧ gSt N xs (k + 1) I2 L2 ru2 dr2 sr2 rd2 rl x2 := by
  have h9 := h.1
  obtain ⟨v, I1, L1, ru1, dr1, sr1, I2, L2, rd2, e1, h91, e2, g2⟩ := q36  h (by omega)
  exact ⟨I2, L2, ru1, dr1, sr1, rd2, x, w5, w6, w7, by rw [lw36 h9 hN hk5 hc, e1, bI_i, e300_665, e2, bI_i, e300_667, if_pos rfl, nI_add, show 5 * (k + 1) = 5 * k + 5 by omega], g2⟩
theorem u37 {w5 w6 w7 : Value} (h : gSt N xs k I L ru dr sr rd rl x) (hN : N ≤ 2560) (hk5 : 5 * k + 5 ≤ N) (hc : xs (5 * k) &&& nI 63 = nI 37) : ∃ I2 L2 ru2 dr2 sr2 rd2 x2 v5 v6 v7, res 90 300 13 [.ref 999, .ref 1, .ref 36, .ref 64, .int (nI (5 * k)), w5, w6, w7] [] (I, L, rR ru dr sr rd rl, 65, x) = res 90 300 13 [.ref 999, .ref 1, .ref 36, .ref 64, .int (nI (5 * (k + 1))), v5, v6, v7] [] (I2, L2, rR ru2 dr2 sr2 rd2 rl, 65, x2) ∧ gSt N xs (k + 1) I2 L2 ru2 dr2 sr2 rd2 rl x2 := by
  have h9 := h.1
  obtain ⟨v, I1, L1, ru1, dr1, sr1, I2, L2, rd2, e1, h91, e2, g2⟩ := q37  h (by omega)
  exact ⟨I2, L2, ru1, dr1, sr1, rd2, x, w5, w6, w7, by rw [lw37 h9 hN hk5 hc, e1, bI_i, e300_672, e2, bI_i, e300_674, if_pos rfl, nI_add, show 5 * (k + 1) = 5 * k + 5 by omega], g2⟩
theorem u38 {w5 w6 w7 : Value} (h : gSt N xs k I L ru dr sr rd rl x) (hN : N ≤ 2560) (hk5 : 5 * k + 5 ≤ N) (hc : xs (5 * k) &&& nI 63 = nI 38) : ∃ I2 L2 ru2 dr2 sr2 rd2 x2 v5 v6 v7, res 90 300 13 [.ref 999, .ref 1, .ref 36, .ref 64, .int (nI (5 * k)), w5, w6, w7] [] (I, L, rR ru dr sr rd rl, 65, x) = res 90 300 13 [.ref 999, .ref 1, .ref 36, .ref 64, .int (nI (5 * (k + 1))), v5, v6, v7] [] (I2, L2, rR ru2 dr2 sr2 rd2 rl, 65, x2) ∧ gSt N xs (k + 1) I2 L2 ru2 dr2 sr2 rd2 rl x2 := by
  have h9 := h.1
  obtain ⟨v, I1, L1, ru1, dr1, sr1, I2, L2, rd2, e1, h91, e2, g2⟩ := q38 (v := xs (5 * k + 1)) (w := xs (5 * k + 2)) (y := xs (5 * k + 3)) h (by omega)
  exact ⟨I2, L2, ru1, dr1, sr1, rd2, x, w5, w6, w7, by rw [lw38 h9 hN hk5 hc, e1, bI_i, e300_694, h91.1, if_pos (ib (j := 1) hN hk5 (by decide)), if_pos (ib (j := 2) hN hk5 (by decide)), if_pos (ib (j := 3) hN hk5 (by decide)), xj (j := 1) h91 hN hk5 (by decide), xj (j := 2) h91 hN hk5 (by decide), xj (j := 3) h91 hN hk5 (by decide), e2, bI_i, e300_711, if_pos rfl, nI_add, show 5 * (k + 1) = 5 * k + 5 by omega], g2⟩
theorem u39 {w5 w6 w7 : Value} (h : gSt N xs k I L ru dr sr rd rl x) (hN : N ≤ 2560) (hk5 : 5 * k + 5 ≤ N) (hc : xs (5 * k) &&& nI 63 = nI 39) : ∃ I2 L2 ru2 dr2 sr2 rd2 x2 v5 v6 v7, res 90 300 13 [.ref 999, .ref 1, .ref 36, .ref 64, .int (nI (5 * k)), w5, w6, w7] [] (I, L, rR ru dr sr rd rl, 65, x) = res 90 300 13 [.ref 999, .ref 1, .ref 36, .ref 64, .int (nI (5 * (k + 1))), v5, v6, v7] [] (I2, L2, rR ru2 dr2 sr2 rd2 rl, 65, x2) ∧ gSt N xs (k + 1) I2 L2 ru2 dr2 sr2 rd2 rl x2 := by
  have h9 := h.1
  obtain ⟨v, I1, L1, ru1, dr1, sr1, I2, L2, rd2, e1, h91, e2, g2⟩ := q39 (v := xs (5 * k + 1)) (w := xs (5 * k + 2)) (y := xs (5 * k + 3)) h (by omega)
  exact ⟨I2, L2, ru1, dr1, sr1, rd2, x, w5, w6, w7, by rw [lw39 h9 hN hk5 hc, e1, bI_i, e300_731, h91.1, if_pos (ib (j := 1) hN hk5 (by decide)), if_pos (ib (j := 2) hN hk5 (by decide)), if_pos (ib (j := 3) hN hk5 (by decide)), xj (j := 1) h91 hN hk5 (by decide), xj (j := 2) h91 hN hk5 (by decide), xj (j := 3) h91 hN hk5 (by decide), e2, bI_i, e300_748, if_pos rfl, nI_add, show 5 * (k + 1) = 5 * k + 5 by omega], g2⟩
theorem u40 {w5 w6 w7 : Value} (h : gSt N xs k I L ru dr sr rd rl x) (hN : N ≤ 2560) (hk5 : 5 * k + 5 ≤ N) (hc : xs (5 * k) &&& nI 63 = nI 40) : ∃ I2 L2 ru2 dr2 sr2 rd2 x2 v5 v6 v7, res 90 300 13 [.ref 999, .ref 1, .ref 36, .ref 64, .int (nI (5 * k)), w5, w6, w7] [] (I, L, rR ru dr sr rd rl, 65, x) = res 90 300 13 [.ref 999, .ref 1, .ref 36, .ref 64, .int (nI (5 * (k + 1))), v5, v6, v7] [] (I2, L2, rR ru2 dr2 sr2 rd2 rl, 65, x2) ∧ gSt N xs (k + 1) I2 L2 ru2 dr2 sr2 rd2 rl x2 := by
  have h9 := h.1
  obtain ⟨v, I1, L1, ru1, dr1, sr1, I2, L2, rd2, e1, h91, e2, g2⟩ := q40 (v := xs (5 * k + 1)) (w := xs (5 * k + 2)) h (by omega)
  exact ⟨I2, L2, ru1, dr1, sr1, rd2, x, w5, w6, w7, by rw [lw40 h9 hN hk5 hc, e1, bI_i, e300_763, h91.1, if_pos (ib (j := 1) hN hk5 (by decide)), if_pos (ib (j := 2) hN hk5 (by decide)), xj (j := 1) h91 hN hk5 (by decide), xj (j := 2) h91 hN hk5 (by decide), e2, bI_i, e300_775, if_pos rfl, nI_add, show 5 * (k + 1) = 5 * k + 5 by omega], g2⟩
theorem u41 {w5 w6 w7 : Value} (h : gSt N xs k I L ru dr sr rd rl x) (hN : N ≤ 2560) (hk5 : 5 * k + 5 ≤ N) (hc : xs (5 * k) &&& nI 63 = nI 41) : ∃ I2 L2 ru2 dr2 sr2 rd2 x2 v5 v6 v7, res 90 300 13 [.ref 999, .ref 1, .ref 36, .ref 64, .int (nI (5 * k)), w5, w6, w7] [] (I, L, rR ru dr sr rd rl, 65, x) = res 90 300 13 [.ref 999, .ref 1, .ref 36, .ref 64, .int (nI (5 * (k + 1))), v5, v6, v7] [] (I2, L2, rR ru2 dr2 sr2 rd2 rl, 65, x2) ∧ gSt N xs (k + 1) I2 L2 ru2 dr2 sr2 rd2 rl x2 := by
  have h9 := h.1
  obtain ⟨v, I1, L1, ru1, dr1, sr1, I2, L2, rd2, e1, h91, e2, g2⟩ := q41 (v := xs (5 * k + 1)) h (by omega)
  exact ⟨I2, L2, ru1, dr1, sr1, rd2, x, w5, w6, w7, by rw [lw41 h9 hN hk5 hc, e1, bI_i, e300_785, h91.1, if_pos (ib (j := 1) hN hk5 (by decide)), xj (j := 1) h91 hN hk5 (by decide), e2, bI_i, e300_792, if_pos rfl, nI_add, show 5 * (k + 1) = 5 * k + 5 by omega], g2⟩
theorem u42 {w5 w6 w7 : Value} (h : gSt N xs k I L ru dr sr rd rl x) (hN : N ≤ 2560) (hk5 : 5 * k + 5 ≤ N) (hc : xs (5 * k) &&& nI 63 = nI 42) : ∃ I2 L2 ru2 dr2 sr2 rd2 x2 v5 v6 v7, res 90 300 13 [.ref 999, .ref 1, .ref 36, .ref 64, .int (nI (5 * k)), w5, w6, w7] [] (I, L, rR ru dr sr rd rl, 65, x) = res 90 300 13 [.ref 999, .ref 1, .ref 36, .ref 64, .int (nI (5 * (k + 1))), v5, v6, v7] [] (I2, L2, rR ru2 dr2 sr2 rd2 rl, 65, x2) ∧ gSt N xs (k + 1) I2 L2 ru2 dr2 sr2 rd2 rl x2 := by
  have h9 := h.1
  obtain ⟨v, I1, L1, ru1, dr1, sr1, I2, L2, rd2, e1, h91, e2, g2⟩ := q42  h (by omega)
  exact ⟨I2, L2, ru1, dr1, sr1, rd2, x, w5, w6, w7, by rw [lw42 h9 hN hk5 hc, e1, bI_i, e300_797, e2, bI_i, e300_799, if_pos rfl, nI_add, show 5 * (k + 1) = 5 * k + 5 by omega], g2⟩
theorem u43 {w5 w6 w7 : Value} (h : gSt N xs k I L ru dr sr rd rl x) (hN : N ≤ 2560) (hk5 : 5 * k + 5 ≤ N) (hc : xs (5 * k) &&& nI 63 = nI 43) : ∃ I2 L2 ru2 dr2 sr2 rd2 x2 v5 v6 v7, res 90 300 13 [.ref 999, .ref 1, .ref 36, .ref 64, .int (nI (5 * k)), w5, w6, w7] [] (I, L, rR ru dr sr rd rl, 65, x) = res 90 300 13 [.ref 999, .ref 1, .ref 36, .ref 64, .int (nI (5 * (k + 1))), v5, v6, v7] [] (I2, L2, rR ru2 dr2 sr2 rd2 rl, 65, x2) ∧ gSt N xs (k + 1) I2 L2 ru2 dr2 sr2 rd2 rl x2 := by
  have h9 := h.1
  obtain ⟨v, I1, L1, ru1, dr1, sr1, I2, L2, rd2, e1, h91, e2, g2⟩ := q43 (v := xs (5 * k + 1)) (w := xs (5 * k + 2)) h (by omega)
  exact ⟨I2, L2, ru1, dr1, sr1, rd2, x, w5, w6, w7, by rw [lw43 h9 hN hk5 hc, e1, bI_i, e300_814, h91.1, if_pos (ib (j := 1) hN hk5 (by decide)), if_pos (ib (j := 2) hN hk5 (by decide)), xj (j := 1) h91 hN hk5 (by decide), xj (j := 2) h91 hN hk5 (by decide), e2, bI_i, e300_826, if_pos rfl, nI_add, show 5 * (k + 1) = 5 * k + 5 by omega], g2⟩
theorem u44 {w5 w6 w7 : Value} (h : gSt N xs k I L ru dr sr rd rl x) (hN : N ≤ 2560) (hk5 : 5 * k + 5 ≤ N) (hc : xs (5 * k) &&& nI 63 = nI 44) : ∃ I2 L2 ru2 dr2 sr2 rd2 x2 v5 v6 v7, res 90 300 13 [.ref 999, .ref 1, .ref 36, .ref 64, .int (nI (5 * k)), w5, w6, w7] [] (I, L, rR ru dr sr rd rl, 65, x) = res 90 300 13 [.ref 999, .ref 1, .ref 36, .ref 64, .int (nI (5 * (k + 1))), v5, v6, v7] [] (I2, L2, rR ru2 dr2 sr2 rd2 rl, 65, x2) ∧ gSt N xs (k + 1) I2 L2 ru2 dr2 sr2 rd2 rl x2 := by
  have h9 := h.1
  obtain ⟨v, I1, L1, ru1, dr1, sr1, I2, L2, rd2, e1, h91, e2, g2⟩ := q44 (v := xs (5 * k + 1)) h (by omega)
  exact ⟨I2, L2, ru1, dr1, sr1, rd2, x, w5, w6, w7, by rw [lw44 h9 hN hk5 hc, e1, bI_i, e300_836, h91.1, if_pos (ib (j := 1) hN hk5 (by decide)), xj (j := 1) h91 hN hk5 (by decide), e2, bI_i, e300_843, if_pos rfl, nI_add, show 5 * (k + 1) = 5 * k + 5 by omega], g2⟩
theorem u45 {w5 w6 w7 : Value} (h : gSt N xs k I L ru dr sr rd rl x) (hN : N ≤ 2560) (hk5 : 5 * k + 5 ≤ N) (hc : xs (5 * k) &&& nI 63 = nI 45) : ∃ I2 L2 ru2 dr2 sr2 rd2 x2 v5 v6 v7, res 90 300 13 [.ref 999, .ref 1, .ref 36, .ref 64, .int (nI (5 * k)), w5, w6, w7] [] (I, L, rR ru dr sr rd rl, 65, x) = res 90 300 13 [.ref 999, .ref 1, .ref 36, .ref 64, .int (nI (5 * (k + 1))), v5, v6, v7] [] (I2, L2, rR ru2 dr2 sr2 rd2 rl, 65, x2) ∧ gSt N xs (k + 1) I2 L2 ru2 dr2 sr2 rd2 rl x2 := by
  have h9 := h.1
  obtain ⟨v, I1, L1, ru1, dr1, sr1, I2, L2, rd2, e1, h91, e2, g2⟩ := q45 (v := xs (5 * k + 1)) h (by omega)
  exact ⟨I2, L2, ru1, dr1, sr1, rd2, x, w5, w6, w7, by rw [lw45 h9 hN hk5 hc, e1, bI_i, e300_853, h91.1, if_pos (ib (j := 1) hN hk5 (by decide)), xj (j := 1) h91 hN hk5 (by decide), e2, bI_i, e300_860, if_pos rfl, nI_add, show 5 * (k + 1) = 5 * k + 5 by omega], g2⟩
theorem u46 {w5 w6 w7 : Value} (h : gSt N xs k I L ru dr sr rd rl x) (hN : N ≤ 2560) (hk5 : 5 * k + 5 ≤ N) (hc : xs (5 * k) &&& nI 63 = nI 46) : ∃ I2 L2 ru2 dr2 sr2 rd2 x2 v5 v6 v7, res 90 300 13 [.ref 999, .ref 1, .ref 36, .ref 64, .int (nI (5 * k)), w5, w6, w7] [] (I, L, rR ru dr sr rd rl, 65, x) = res 90 300 13 [.ref 999, .ref 1, .ref 36, .ref 64, .int (nI (5 * (k + 1))), v5, v6, v7] [] (I2, L2, rR ru2 dr2 sr2 rd2 rl, 65, x2) ∧ gSt N xs (k + 1) I2 L2 ru2 dr2 sr2 rd2 rl x2 := by
  have h9 := h.1
  obtain ⟨v, I1, L1, ru1, dr1, sr1, I2, L2, rd2, e1, h91, e2, g2⟩ := q46 (v := xs (5 * k + 1)) h (by omega)
  exact ⟨I2, L2, ru1, dr1, sr1, rd2, x, w5, w6, w7, by rw [lw46 h9 hN hk5 hc, e1, bI_i, e300_870, h91.1, if_pos (ib (j := 1) hN hk5 (by decide)), xj (j := 1) h91 hN hk5 (by decide), e2, bI_i, e300_877, if_pos rfl, nI_add, show 5 * (k + 1) = 5 * k + 5 by omega], g2⟩
/-! those that may throw -/
theorem bT_t {h : zH} {j : Nat} {t : zH → Option zO} {f : Value → zH → Option zO} : bT (some (some (.retAddr j), h)) t f = t h := rfl
theorem bT_i {h : zH} {v : Int32} {t : zH → Option zO} {f : Value → zH → Option zO} : bT (some (some (.int v), h)) t f = f (.int v) h := rfl
theorem bT_l {h : zH} {v : Int64} {t : zH → Option zO} {f : Value → zH → Option zO} : bT (some (some (.long v), h)) t f = f (.long v) h := rfl
theorem lg_self (v : Int64) : lg_cmp v v = 0 := by
  unfold lg_cmp
  rw [if_neg (fun q => Int64.lt_irrefl q), if_pos rfl]
theorem shM {mm x1 : Nat} {z : Option Value} {A2 : List Value} {I1 I2 : Nat → Nat → Int32} {L1 : Nat → Nat → Int64} {rd2 : Option Nat} (h9 : nA N xs I1) (hx : x1 ≤ k + 1) (hz : nZ (I1, L1, rR ru dr sr rd rl, 65, x1)) (hTk : T ≤ 100 * k) (hc : cInv I1 L1 ru dr R S f g p a n t l u kp cl si cs) (hw : wInv R S f g p a T u kp) (hcs : (prs rt rn).2 = some cs) (e2 : cal 90 mm A2 (I1, L1, rR ru dr sr rd rl, 65, x1) = some (z, (I2, L1, rR ru dr sr rd2 rl, 65, x1))) (hA : zvD dB A2) (hm : mInv I2 L1 rl T R S f g p a n t l u kp cl si rn rt) : gSt N xs (k + 1) I2 L1 ru dr sr rd2 rl x1 := by
  obtain ⟨g1, g2, z2⟩ := fr2 e2 hA hz
  exact ⟨h9.cg (fun c hc => g1 c (Or.inr hc)), hx, z2, T, R, S, f, g, p, a, n, t, l, u, kp, cl, si, cs, rn, rt, by omega, hc.cg (fun c hc => g1 c (Or.inl hc)) (fun c hc => g2 c (Or.inl hc)), hm, hw, hcs⟩
theorem nZ.cg {I' : Nat → Nat → Int32} {L' : Nat → Nat → Int64} {Q : Nat → Nat → Option Nat} {x' : Nat} (h : nZ (I, L, Q, 65, x)) : nZ (I', L', Q, 65, x') := ⟨⟨rfl, h.1.2⟩, ⟨rfl, h.2.2⟩⟩
theorem z64 {v : Int64} {c : Nat} (h : c < 64) : (zup L 64 0 v) c = L c := zup_ne _ _ _ (by omega)
theorem z64v {v : Int64} : (zup L 64 0 v) 64 0 = v := by rw [zup_v, if_pos rfl]
theorem q5 {v w : Int32} (h : gSt N xs k I L ru dr sr rd rl x) (hk : k < 600) : ∃ (v5 : Int32) (I1 : Nat → Nat → Int32) (L1 : Nat → Nat → Int64) (x1 : Nat) (I2 : Nat → Nat → Int32) (rd2 : Option Nat) (z : Int32), cal 90 297 [.ref 1, .int v, .int w, .ref 64] (I, L, rR ru dr sr rd rl, 65, x) = some (some (.int v5), (I1, L1, rR ru dr sr rd rl, 65, x1)) ∧ nA N xs I1 ∧ cal 90 211 [.ref 36, .int v, .int w] (I1, L1, rR ru dr sr rd rl, 65, x1) = some (some (.int z), (I2, L1, rR ru dr sr rd2 rl, 65, x1)) ∧ I2 36 10 = v5 ∧ (v5 = nI 0 ∧ L1 64 0 = z.toInt64 ∨ v5 = nI 1) ∧ gSt N xs (k + 1) I2 L1 ru dr sr rd2 rl x1 := by
  obtain ⟨h9, hx, hz, T, R, S, f, g, p, a, n, t, l, u, kp, cl, si, cs, rn, rt, hTk, hc, hm, hw, hcs⟩ := h
  have hT1 : T + 100 < 2 ^ 24 := by omega
  have hwT := hw.mr (Nat.le_add_right T 100) hT1
  by_cases hq : ∃ i j, i < S ∧ j < 3 ∧ v = nI i ∧ w = nI j
  · obtain ⟨i, j, hi, hj, rfl, rfl⟩ := hq
    have e1 := o112t (d := 90) (L := L) (ru := ru) (dr := dr) (sr := sr) (rd := rd) (rl := rl) (x := x) hc hw hi hj
    have c1 := hc
    obtain ⟨f1, f2, z1⟩ := fr1 e1 ⟨(show 1 < 36 by decide), trivial⟩ hz
    have h91 : nA N xs I := h9.cg (fun c hc => f1 c (by omega))
    have hm1 : mInv I (zup L 64 0 (nI (sqw S g p a i j)).toInt64) rl T R S f g p a n t l u kp cl si rn rt := hm.cg (fun c hc _ => f1 c hc) (fun c _ hc => z64 hc)
    have c2 : cInv I (zup L 64 0 (nI (sqw S g p a i j)).toInt64) ru dr R S f g p a n t l u kp cl si cs := c1.cg (fun _ _ => rfl) (fun c hc => z64 (by omega))
    have z2 : nZ (I, zup L 64 0 (nI (sqw S g p a i j)).toInt64, rR ru dr sr rd rl, 65, x) := z1.cg
    obtain ⟨I2, e2, t2, m2⟩ := n211t (d := 90) (ru := ru) (dr := dr) (sr := sr) (rd := rd) (x := x) hm1 hw hi hj
    exact ⟨nI 0, I, zup L 64 0 (nI (sqw S g p a i j)).toInt64, x, I2, rd, nI (sqw S g p a i j), by rw [k297, e1, bT_i, e297_6, if_pos (ak_64 (by decide)), nI_clamp (by decide)], h91, e2, t2, Or.inl ⟨rfl, z64v⟩, shM h91 (by omega) z2 hTk c2 hw hcs e2 ⟨⟨(show 36 ≤ 36 by decide), (show 36 < 64 by decide)⟩, trivial⟩ m2⟩
  · have hv : (∀ k, k < S → v ≠ nI k) ∨ ∀ k, k < 3 → w ≠ nI k := by
      by_cases hq1 : ∃ i, i < S ∧ v = nI i
      · refine Or.inr fun j hj e => hq ?_
        obtain ⟨i, hi, e'⟩ := hq1
        exact ⟨i, j, hi, hj, e', e⟩
      · exact Or.inl fun i hi e => hq1 ⟨i, hi, e⟩
    have e1 := o112f (d := 90) (L := L) (ru := ru) (dr := dr) (sr := sr) (rd := rd) (rl := rl) (x := x) hc hw hv
    have hz1 : nZ (I, L, rR ru dr sr rd rl, 65, x + 1) := hz.cg
    obtain ⟨I2, z, e2, t2, m2⟩ := n211f (d := 90) (ru := ru) (dr := dr) (sr := sr) (rd := rd) (x := x + 1) hm hw hv
    exact ⟨nI 1, I, L, x + 1, I2, rd, z, by rw [k297, e1, bT_t, e297_10], h9, e2, t2, Or.inr rfl, shM h9 (by omega) hz1 hTk hc hw hcs e2 ⟨⟨(show 36 ≤ 36 by decide), (show 36 < 64 by decide)⟩, trivial⟩ m2⟩
theorem q6 {v w : Int32} (h : gSt N xs k I L ru dr sr rd rl x) (hk : k < 600) : ∃ (v5 : Int32) (I1 : Nat → Nat → Int32) (L1 : Nat → Nat → Int64) (x1 : Nat) (I2 : Nat → Nat → Int32) (rd2 : Option Nat) (z : Int32), cal 90 298 [.ref 1, .int v, .int w, .ref 64] (I, L, rR ru dr sr rd rl, 65, x) = some (some (.int v5), (I1, L1, rR ru dr sr rd rl, 65, x1)) ∧ nA N xs I1 ∧ cal 90 212 [.ref 36, .int v, .int w] (I1, L1, rR ru dr sr rd rl, 65, x1) = some (some (.int z), (I2, L1, rR ru dr sr rd2 rl, 65, x1)) ∧ I2 36 10 = v5 ∧ (v5 = nI 0 ∧ L1 64 0 = z.toInt64 ∨ v5 = nI 1) ∧ gSt N xs (k + 1) I2 L1 ru dr sr rd2 rl x1 := by
  obtain ⟨h9, hx, hz, T, R, S, f, g, p, a, n, t, l, u, kp, cl, si, cs, rn, rt, hTk, hc, hm, hw, hcs⟩ := h
  have hT1 : T + 100 < 2 ^ 24 := by omega
  have hwT := hw.mr (Nat.le_add_right T 100) hT1
  by_cases hq : ∃ i j, i < p ∧ j < 8 ∧ v = nI i ∧ w = nI j
  · obtain ⟨i, j, hi, hj, rfl, rfl⟩ := hq
    obtain ⟨I1, e1, c1⟩ := o113t (d := 90) (L := L) (ru := ru) (dr := dr) (sr := sr) (rd := rd) (rl := rl) (x := x) hc hw hi hj
    obtain ⟨f1, f2, z1⟩ := fr1 e1 ⟨(show 1 < 36 by decide), trivial⟩ hz
    have h91 : nA N xs I1 := h9.cg (fun c hc => f1 c (by omega))
    have hm1 : mInv I1 (zup L 64 0 (plw S g a cs i j).toInt64) rl T R S f g p a n t l u kp cl si rn rt := hm.cg (fun c hc _ => f1 c hc) (fun c _ hc => z64 hc)
    have c2 : cInv I1 (zup L 64 0 (plw S g a cs i j).toInt64) ru dr R S f g p a n t l u kp cl si cs := c1.cg (fun _ _ => rfl) (fun c hc => z64 (by omega))
    have z2 : nZ (I1, zup L 64 0 (plw S g a cs i j).toInt64, rR ru dr sr rd rl, 65, x) := z1.cg
    obtain ⟨I2, rd2, e2, t2, m2⟩ := n212t (d := 90) (ru := ru) (dr := dr) (sr := sr) (rd := rd) (x := x) hm1 hw (by decide) hcs hi hj
    exact ⟨nI 0, I1, zup L 64 0 (plw S g a cs i j).toInt64, x, I2, rd2, plw S g a cs i j, by rw [k298, e1, bT_i, e298_6, if_pos (ak_64 (by decide)), nI_clamp (by decide)], h91, e2, t2, Or.inl ⟨rfl, z64v⟩, shM h91 (by omega) z2 hTk c2 hw hcs e2 ⟨⟨(show 36 ≤ 36 by decide), (show 36 < 64 by decide)⟩, trivial⟩ m2⟩
  · have hv : (∀ k, k < p → v ≠ nI k) ∨ ∀ k, k < 8 → w ≠ nI k := by
      by_cases hq1 : ∃ i, i < p ∧ v = nI i
      · refine Or.inr fun j hj e => hq ?_
        obtain ⟨i, hi, e'⟩ := hq1
        exact ⟨i, j, hi, hj, e', e⟩
      · exact Or.inl fun i hi e => hq1 ⟨i, hi, e⟩
    have e1 := o113f (d := 90) (L := L) (ru := ru) (dr := dr) (sr := sr) (rd := rd) (rl := rl) (x := x) hc hw hv
    have hz1 : nZ (I, L, rR ru dr sr rd rl, 65, x + 1) := hz.cg
    obtain ⟨I2, z, e2, t2, m2⟩ := n212f (d := 90) (ru := ru) (dr := dr) (sr := sr) (rd := rd) (x := x + 1) hm hw hv
    exact ⟨nI 1, I, L, x + 1, I2, rd, z, by rw [k298, e1, bT_t, e298_10], h9, e2, t2, Or.inr rfl, shM h9 (by omega) hz1 hTk hc hw hcs e2 ⟨⟨(show 36 ≤ 36 by decide), (show 36 < 64 by decide)⟩, trivial⟩ m2⟩
theorem q47 {v : Int32} (h : gSt N xs k I L ru dr sr rd rl x) (hk : k < 600) : ∃ (v5 : Int32) (I1 : Nat → Nat → Int32) (L1 : Nat → Nat → Int64) (x1 : Nat) (I2 : Nat → Nat → Int32) (rd2 : Option Nat) (z : Int64), cal 90 299 [.ref 1, .int v, .ref 64] (I, L, rR ru dr sr rd rl, 65, x) = some (some (.int v5), (I1, L1, rR ru dr sr rd rl, 65, x1)) ∧ nA N xs I1 ∧ cal 90 295 [.ref 36, .int v] (I1, L1, rR ru dr sr rd rl, 65, x1) = some (some (.long z), (I2, L1, rR ru dr sr rd2 rl, 65, x1)) ∧ I2 36 10 = v5 ∧ (v5 = nI 0 ∧ L1 64 0 = z ∨ v5 = nI 1) ∧ gSt N xs (k + 1) I2 L1 ru dr sr rd2 rl x1 := by
  obtain ⟨h9, hx, hz, T, R, S, f, g, p, a, n, t, l, u, kp, cl, si, cs, rn, rt, hTk, hc, hm, hw, hcs⟩ := h
  have hT1 : T + 100 < 2 ^ 24 := by omega
  have hwT := hw.mr (Nat.le_add_right T 100) hT1
  by_cases hq : ∃ i, i < l.length ∧ v = nI i
  · obtain ⟨i, hi, rfl⟩ := hq
    have hr : l[i]? = some l[i] := List.getElem?_eq_getElem hi
    have e1 := o154t (d := 90) (L := L) (ru := ru) (dr := dr) (sr := sr) (rd := rd) (rl := rl) (x := x) hc hw hr
    have c1 := hc
    obtain ⟨f1, f2, z1⟩ := fr1 e1 ⟨(show 1 < 36 by decide), trivial⟩ hz
    have h91 : nA N xs I := h9.cg (fun c hc => f1 c (by omega))
    have hm1 : mInv I (zup L 64 0 l[i]) rl T R S f g p a n t l u kp cl si rn rt := hm.cg (fun c hc _ => f1 c hc) (fun c _ hc => z64 hc)
    have c2 : cInv I (zup L 64 0 l[i]) ru dr R S f g p a n t l u kp cl si cs := c1.cg (fun _ _ => rfl) (fun c hc => z64 (by omega))
    have z2 : nZ (I, zup L 64 0 l[i], rR ru dr sr rd rl, 65, x) := z1.cg
    obtain ⟨I2, e2, t2, m2⟩ := n295t (d := 90) (ru := ru) (dr := dr) (sr := sr) (rd := rd) (x := x) hm1 hw hr
    exact ⟨nI 0, I, zup L 64 0 l[i], x, I2, rd, l[i], by rw [k299, e1, bT_l, e299_5, if_pos (ak_64 (by decide)), nI_clamp (by decide)], h91, e2, t2, Or.inl ⟨rfl, z64v⟩, shM h91 (by omega) z2 hTk c2 hw hcs e2 ⟨⟨(show 36 ≤ 36 by decide), (show 36 < 64 by decide)⟩, trivial⟩ m2⟩
  · have hv : ∀ k, k < l.length → v ≠ nI k := fun i hi e => hq ⟨i, hi, e⟩
    have e1 := o154f (d := 90) (L := L) (ru := ru) (dr := dr) (sr := sr) (rd := rd) (rl := rl) (x := x) hc hw hv
    have hz1 : nZ (I, L, rR ru dr sr rd rl, 65, x + 1) := hz.cg
    obtain ⟨I2, z, e2, t2, m2⟩ := n295f (d := 90) (ru := ru) (dr := dr) (sr := sr) (rd := rd) (x := x + 1) hm hw hv
    exact ⟨nI 1, I, L, x + 1, I2, rd, z, by rw [k299, e1, bT_t, e299_8], h9, e2, t2, Or.inr rfl, shM h9 (by omega) hz1 hTk hc hw hcs e2 ⟨⟨(show 36 ≤ 36 by decide), (show 36 < 64 by decide)⟩, trivial⟩ m2⟩
theorem u5 {w5 w6 w7 : Value} (h : gSt N xs k I L ru dr sr rd rl x) (hN : N ≤ 2560) (hk5 : 5 * k + 5 ≤ N) (hc : xs (5 * k) &&& nI 63 = nI 5) : ∃ I2 L2 ru2 dr2 sr2 rd2 x2 v5 v6 v7, res 90 300 13 [.ref 999, .ref 1, .ref 36, .ref 64, .int (nI (5 * k)), w5, w6, w7] [] (I, L, rR ru dr sr rd rl, 65, x) = res 90 300 13 [.ref 999, .ref 1, .ref 36, .ref 64, .int (nI (5 * (k + 1))), v5, v6, v7] [] (I2, L2, rR ru2 dr2 sr2 rd2 rl, 65, x2) ∧ gSt N xs (k + 1) I2 L2 ru2 dr2 sr2 rd2 rl x2 := by
  have h9 := h.1
  obtain ⟨v5, I1, L1, x1, I2, rd2, z, e1, h91, e2, t2, hv, g2⟩ := q5 (v := xs (5 * k + 1)) (w := xs (5 * k + 2)) h (by omega)
  have e0 : res 90 300 13 [.ref 999, .ref 1, .ref 36, .ref 64, .int (nI (5 * k)), w5, w6, w7] [] (I, L, rR ru dr sr rd rl, 65, x) = res 90 300 109 [.ref 999, .ref 1, .ref 36, .ref 64, .int (nI (5 * k)), .int v5, .int z, w7] [.int v5] (I2, L1, rR ru dr sr rd2 rl, 65, x1) := by
    rw [lw5 h9 hN hk5 hc, e1, bI_i, e300_93, h91.1, if_pos (ib (j := 1) hN hk5 (by decide)), if_pos (ib (j := 2) hN hk5 (by decide)), xj (j := 1) h91 hN hk5 (by decide), xj (j := 2) h91 hN hk5 (by decide), e2, bI_i, e300_106, n178 t2, bI_i]
  refine ⟨I2, L1, ru, dr, sr, rd2, x1, .int v5, .int z, w7, ?_, g2⟩
  rw [e0, e300_109, if_pos rfl]
  rcases hv with ⟨rfl, hv⟩ | rfl
  · rw [if_pos (show nI 0 = 0 from rfl), if_pos (ak_64 (by decide)), nI_clamp (by decide), hv, if_pos (lg_self _), nI_add, show 5 * (k + 1) = 5 * k + 5 by omega]
  · rw [if_neg (show ¬ nI 1 = 0 by decide), nI_add, show 5 * (k + 1) = 5 * k + 5 by omega]
theorem u6 {w5 w6 w7 : Value} (h : gSt N xs k I L ru dr sr rd rl x) (hN : N ≤ 2560) (hk5 : 5 * k + 5 ≤ N) (hc : xs (5 * k) &&& nI 63 = nI 6) : ∃ I2 L2 ru2 dr2 sr2 rd2 x2 v5 v6 v7, res 90 300 13 [.ref 999, .ref 1, .ref 36, .ref 64, .int (nI (5 * k)), w5, w6, w7] [] (I, L, rR ru dr sr rd rl, 65, x) = res 90 300 13 [.ref 999, .ref 1, .ref 36, .ref 64, .int (nI (5 * (k + 1))), v5, v6, v7] [] (I2, L2, rR ru2 dr2 sr2 rd2 rl, 65, x2) ∧ gSt N xs (k + 1) I2 L2 ru2 dr2 sr2 rd2 rl x2 := by
  have h9 := h.1
  obtain ⟨v5, I1, L1, x1, I2, rd2, z, e1, h91, e2, t2, hv, g2⟩ := q6 (v := xs (5 * k + 1)) (w := xs (5 * k + 2)) h (by omega)
  have e0 : res 90 300 13 [.ref 999, .ref 1, .ref 36, .ref 64, .int (nI (5 * k)), w5, w6, w7] [] (I, L, rR ru dr sr rd rl, 65, x) = res 90 300 154 [.ref 999, .ref 1, .ref 36, .ref 64, .int (nI (5 * k)), .int v5, .int z, w7] [.int v5] (I2, L1, rR ru dr sr rd2 rl, 65, x1) := by
    rw [lw6 h9 hN hk5 hc, e1, bI_i, e300_138, h91.1, if_pos (ib (j := 1) hN hk5 (by decide)), if_pos (ib (j := 2) hN hk5 (by decide)), xj (j := 1) h91 hN hk5 (by decide), xj (j := 2) h91 hN hk5 (by decide), e2, bI_i, e300_151, n178 t2, bI_i]
  refine ⟨I2, L1, ru, dr, sr, rd2, x1, .int v5, .int z, w7, ?_, g2⟩
  rw [e0, e300_154, if_pos rfl]
  rcases hv with ⟨rfl, hv⟩ | rfl
  · rw [if_pos (show nI 0 = 0 from rfl), if_pos (ak_64 (by decide)), nI_clamp (by decide), hv, if_pos (lg_self _), nI_add, show 5 * (k + 1) = 5 * k + 5 by omega]
  · rw [if_neg (show ¬ nI 1 = 0 by decide), nI_add, show 5 * (k + 1) = 5 * k + 5 by omega]
theorem u47 {w5 w6 w7 : Value} (h : gSt N xs k I L ru dr sr rd rl x) (hN : N ≤ 2560) (hk5 : 5 * k + 5 ≤ N) (hc : xs (5 * k) &&& nI 63 = nI 47) : ∃ I2 L2 ru2 dr2 sr2 rd2 x2 v5 v6 v7, res 90 300 13 [.ref 999, .ref 1, .ref 36, .ref 64, .int (nI (5 * k)), w5, w6, w7] [] (I, L, rR ru dr sr rd rl, 65, x) = res 90 300 13 [.ref 999, .ref 1, .ref 36, .ref 64, .int (nI (5 * (k + 1))), v5, v6, v7] [] (I2, L2, rR ru2 dr2 sr2 rd2 rl, 65, x2) ∧ gSt N xs (k + 1) I2 L2 ru2 dr2 sr2 rd2 rl x2 := by
  have h9 := h.1
  obtain ⟨v5, I1, L1, x1, I2, rd2, z, e1, h91, e2, t2, hv, g2⟩ := q47 (v := xs (5 * k + 1)) h (by omega)
  have e0 : res 90 300 13 [.ref 999, .ref 1, .ref 36, .ref 64, .int (nI (5 * k)), w5, w6, w7] [] (I, L, rR ru dr sr rd rl, 65, x) = res 90 300 899 [.ref 999, .ref 1, .ref 36, .ref 64, .int (nI (5 * k)), .int v5, .long z, .null] [.int v5] (I2, L1, rR ru dr sr rd2 rl, 65, x1) := by
    rw [lw47 h9 hN hk5 hc, e1, bI_i, e300_888, h91.1, if_pos (ib (j := 1) hN hk5 (by decide)), xj (j := 1) h91 hN hk5 (by decide), e2, bL_l, e300_896, n178 t2, bI_i]
  refine ⟨I2, L1, ru, dr, sr, rd2, x1, .int v5, .long z, .null, ?_, g2⟩
  rw [e0, e300_899, if_pos rfl]
  rcases hv with ⟨rfl, hv⟩ | rfl
  · rw [if_pos (show nI 0 = 0 from rfl), if_pos (ak_64 (by decide)), nI_clamp (by decide), hv, if_pos (lg_self _), nI_add, show 5 * (k + 1) = 5 * k + 5 by omega]
  · rw [if_neg (show ¬ nI 1 = 0 by decide), nI_add, show 5 * (k + 1) = 5 * k + 5 by omega]
end
