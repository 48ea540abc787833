section
variable {I : Nat → Nat → Int32} {L : Nat → Nat → Int64} {ru dr : Nat} {sr : Nat → Option Nat} {rd : Option Nat} {rl x : Nat}
variable {d R S p n T rn k N : Nat} {f g rt : Nat → Nat} {a : zP} {t : Nat → Nat} {l : List Int64} {u : List zP} {kp : Nat → Option zP} {cl : List (Nat × Nat)} {si : List (Nat × Int32)} {cs : zC} {xs : Nat → Int32}
/-! the whole law -/
theorem gSt.nx (h : gSt N xs k I L ru dr sr rd rl x) : gSt N xs (k + 1) I L ru dr sr rd rl x := by
  obtain ⟨h9, hx, hz, T, R, S, f, g, p, a, n, t, l, u, kp, cl, si, cs, rn, rt, hTk, h⟩ := h
  exact ⟨h9, by omega, hz, T, R, S, f, g, p, a, n, t, l, u, kp, cl, si, cs, rn, rt, by omega, h⟩
theorem ud {w5 w6 w7 : Value} (h : gSt N xs k I L ru dr sr rd rl x) (hN : N ≤ 2560) (hk5 : 5 * k + 5 ≤ N) (hm : ∀ i, i < 48 → ¬ xs (5 * k) &&& nI 63 = nI i) : ∃ I2 L2 ru2 dr2 sr2 rd2 x2 v5 v6 v7, res 90 300 13 [.ref 999, .ref 1, .ref 36, .ref 64, .int (nI (5 * k)), w5, w6, w7] [] (I, L, rR ru dr sr rd rl, 65, x) = res 90 300 13 [.ref 999, .ref 1, .ref 36, .ref 64, .int (nI (5 * (k + 1))), v5, v6, v7] [] (I2, L2, rR ru2 dr2 sr2 rd2 rl, 65, x2) ∧ gSt N xs (k + 1) I2 L2 ru2 dr2 sr2 rd2 rl x2 := by
  refine ⟨I, L, ru, dr, sr, rd, x, w5, w6, w7, ?_, h.nx⟩
  rw [lwd h.1 hN hk5 hm, nI_add, show 5 * (k + 1) = 5 * k + 5 by omega]
theorem uall {w5 w6 w7 : Value} (h : gSt N xs k I L ru dr sr rd rl x) (hN : N ≤ 2560) (hk5 : 5 * k + 5 ≤ N) : ∃ I2 L2 ru2 dr2 sr2 rd2 x2 v5 v6 v7, res 90 300 13 [.ref 999, .ref 1, .ref 36, .ref 64, .int (nI (5 * k)), w5, w6, w7] [] (I, L, rR ru dr sr rd rl, 65, x) = res 90 300 13 [.ref 999, .ref 1, .ref 36, .ref 64, .int (nI (5 * (k + 1))), v5, v6, v7] [] (I2, L2, rR ru2 dr2 sr2 rd2 rl, 65, x2) ∧ gSt N xs (k + 1) I2 L2 ru2 dr2 sr2 rd2 rl x2 := by
  by_cases hm : ∃ i, i < 48 ∧ xs (5 * k) &&& nI 63 = nI i
  · obtain ⟨i, hi, hc⟩ := hm
    match i, hi, hc with
    | 0, _, hc => exact u0 h hN hk5 hc
    | 1, _, hc => exact u1 h hN hk5 hc
    | 2, _, hc => exact u2 h hN hk5 hc
    | 3, _, hc => exact u3 h hN hk5 hc
    | 4, _, hc => exact u4 h hN hk5 hc
    | 5, _, hc => exact u5 h hN hk5 hc
    | 6, _, hc => exact u6 h hN hk5 hc
    | 7, _, hc => exact u7 h hN hk5 hc
    | 8, _, hc => exact u8 h hN hk5 hc
    | 9, _, hc => exact u9 h hN hk5 hc
    | 10, _, hc => exact u10 h hN hk5 hc
    | 11, _, hc => exact u11 h hN hk5 hc
    | 12, _, hc => exact u12 h hN hk5 hc
    | 13, _, hc => exact u13 h hN hk5 hc
    | 14, _, hc => exact u14 h hN hk5 hc
    | 15, _, hc => exact u15 h hN hk5 hc
    | 16, _, hc => exact u16 h hN hk5 hc
    | 17, _, hc => exact u17 h hN hk5 hc
    | 18, _, hc => exact u18 h hN hk5 hc
    | 19, _, hc => exact u19 h hN hk5 hc
    | 20, _, hc => exact u20 h hN hk5 hc
    | 21, _, hc => exact u21 h hN hk5 hc
    | 22, _, hc => exact u22 h hN hk5 hc
    | 23, _, hc => exact u23 h hN hk5 hc
    | 24, _, hc => exact u24 h hN hk5 hc
    | 25, _, hc => exact u25 h hN hk5 hc
    | 26, _, hc => exact u26 h hN hk5 hc
    | 27, _, hc => exact u27 h hN hk5 hc
    | 28, _, hc => exact u28 h hN hk5 hc
    | 29, _, hc => exact u29 h hN hk5 hc
    | 30, _, hc => exact u30 h hN hk5 hc
    | 31, _, hc => exact u31 h hN hk5 hc
    | 32, _, hc => exact u32 h hN hk5 hc
    | 33, _, hc => exact u33 h hN hk5 hc
    | 34, _, hc => exact u34 h hN hk5 hc
    | 35, _, hc => exact u35 h hN hk5 hc
    | 36, _, hc => exact u36 h hN hk5 hc
    | 37, _, hc => exact u37 h hN hk5 hc
    | 38, _, hc => exact u38 h hN hk5 hc
    | 39, _, hc => exact u39 h hN hk5 hc
    | 40, _, hc => exact u40 h hN hk5 hc
    | 41, _, hc => exact u41 h hN hk5 hc
    | 42, _, hc => exact u42 h hN hk5 hc
    | 43, _, hc => exact u43 h hN hk5 hc
    | 44, _, hc => exact u44 h hN hk5 hc
    | 45, _, hc => exact u45 h hN hk5 hc
    | 46, _, hc => exact u46 h hN hk5 hc
    | 47, _, hc => exact u47 h hN hk5 hc
    | i + 48, hi, hc => exact absurd hi (by omega)
  · exact ud h hN hk5 fun i hi e => hm ⟨i, hi, e⟩
theorem zsl65 : zsl 65 ≤ 7200000 := by decide +kernel
theorem lw_end {w5 w6 w7 : Value} (h : gSt N xs k I L ru dr sr rd rl x) (hN : N ≤ 2560) (h1 : 5 * k ≤ N) (h2 : N < 5 * k + 5) : ∃ hf, res 90 300 13 [.ref 999, .ref 1, .ref 36, .ref 64, .int (nI (5 * k)), w5, w6, w7] [] (I, L, rR ru dr sr rd rl, 65, x) = some (some (.int 1), hf) ∧ zcc hf ≤ 601024 ∧ zss hf ≤ 7293034 := by
  have hx := h.2.1
  have hlt : nI N - nI 5 < nI (5 * k) := by
    by_cases z : 5 ≤ N
    · rw [zsub z, nI_ltI (by omega) (by omega)]; omega
    · have hk0 : k = 0 := by omega
      subst hk0
      rcases (show N = 0 ∨ N = 1 ∨ N = 2 ∨ N = 3 ∨ N = 4 by omega) with rfl | rfl | rfl | rfl | rfl <;> decide
  refine ⟨(I, L, rR ru dr sr rd rl, 65, x), by rw [l300_13, h.1.1, if_pos hlt, if_pos zb1]; rfl, ?_, ?_⟩
  · show 65 + x ≤ _
    omega
  · show zsl 65 + 6 * x ≤ _
    have := zsl65
    omega
theorem lw_run (hN : N ≤ 2560) : ∀ j k (I : Nat → Nat → Int32) (L : Nat → Nat → Int64) (ru dr : Nat) (sr : Nat → Option Nat) (rd : Option Nat) (rl x : Nat) (w5 w6 w7 : Value), 5 * (k + j) ≤ N → N < 5 * (k + j) + 5 → gSt N xs k I L ru dr sr rd rl x → ∃ hf, res 90 300 13 [.ref 999, .ref 1, .ref 36, .ref 64, .int (nI (5 * k)), w5, w6, w7] [] (I, L, rR ru dr sr rd rl, 65, x) = some (some (.int 1), hf) ∧ zcc hf ≤ 601024 ∧ zss hf ≤ 7293034
  | 0, k, I, L, ru, dr, sr, rd, rl, x, w5, w6, w7, h1, h2, h => lw_end h hN h1 h2
  | j + 1, k, I, L, ru, dr, sr, rd, rl, x, w5, w6, w7, h1, h2, h => by
    obtain ⟨I2, L2, ru2, dr2, sr2, rd2, x2, v5, v6, v7, e, g2⟩ := uall (w5 := w5) (w6 := w6) (w7 := w7) h hN (by omega)
    rw [e]
    exact lw_run hN j (k + 1) I2 L2 ru2 dr2 sr2 rd2 rl x2 v5 v6 v7 (by omega) (by omega) g2
def qOk (P : Nat → Bool) (o : Option Nat) : Bool := match o with
  | some b => P b
  | none => true
theorem q0A : ∀ c, c < 36 → ∀ j, j < 64 → qOk (fun b => decide (b < 36)) (rR 30 33 (fun _ => none) none 44 c j) = true := by decide +kernel
theorem q0B : ∀ c, c < 64 → 36 ≤ c → ∀ j, j < 64 → qOk (fun b => decide (36 ≤ b ∧ b < 64)) (rR 30 33 (fun _ => none) none 44 c j) = true := by decide +kernel
theorem nZ0 : nZ (I, L, rR 30 33 (fun _ => none) none 44, 65, x) := by
  refine ⟨⟨rfl, fun c j b hc hb => ?_⟩, ⟨rfl, fun c j b hc hb => ?_⟩⟩
  · have hb' : rR 30 33 (fun _ => none) none 44 c j = some b := hb
    by_cases z : j < 64
    · have := q0A c hc j z
      rw [hb'] at this
      have q : b < 36 := of_decide_eq_true this
      exact q
    · rw [Bd_R c j (by omega)] at hb'
      cases hb'
  · have hb' : rR 30 33 (fun _ => none) none 44 c j = some b := hb
    by_cases z : j < 64
    · have := q0B c hc.2 hc.1 j z
      rw [hb'] at this
      have q : 36 ≤ b ∧ b < 64 := of_decide_eq_true this
      exact q
    · rw [Bd_R c j (by omega)] at hb'
      cases hb'
theorem zLaw_all : zLaw := fun M ys hM => by
  obtain ⟨I', L', e, hc, hm, h1, h2⟩ := istart (d := 90) (N := M) (xs := ys)
  have hw := wInv.z (T := 0) (cct (n := 3) (by decide) (by decide) tZ_h) (by decide)
  have hg : gSt M ys 0 I' L' 30 33 (fun _ => none) none 44 0 := ⟨⟨h1, h2⟩, Nat.le_refl _, nZ0, 0, 3, cff tZ 3, cff tZ, cgg tZ 3, 0, fun _ => 0, 0, fun _ => 0, [], [], fun _ => none, [], [], usu, 0, fun _ => 0, Nat.le_refl _, hc, hm, hw, rfl⟩
  obtain ⟨hf, e2, z1, z2⟩ := lw_run hM (M / 5) 0 I' L' 30 33 (fun _ => none) none 44 0 .null .null .null (by omega) (by omega) hg
  exact ⟨hf, by rw [e]; exact e2, z1, z2⟩
end
