section
variable {I : Nat → Nat → Int32} {L : Nat → Nat → Int64} {ru dr : Nat} {sr : Nat → Option Nat} {rd : Option Nat} {rl x : Nat}

theorem zup_v {α : Type} (I : Nat → Nat → α) (a k : Nat) (v : α) (j : Nat) : zup I a k v a j = if j = k then v else I a j := by rw [zup_self]; rfl
def dn : Nat → Int32
  | 0 => -(nI 1)
  | n + 1 => nI n
theorem dn_sub (n : Nat) : nI n + -(nI 1) = dn n := by
  cases n with
  | zero => decide
  | succ n => rw [dn, zsub1 (by omega)]; rfl
theorem zshlm {a : Nat} : nI a <<< (nI 1 &&& 31) = nI (2 * a) := by
  refine b_ext fun i hi => ?_
  rw [b_shl 1 (by decide) _ hi, bt_nI hi, show 2 * a = 2 ^ 1 * a from rfl, Nat.testBit_two_pow_mul]
  by_cases h : 1 ≤ i
  · rw [bt_nI (by omega)]
  · rw [decide_eq_false h, Bool.false_and, Bool.false_and]
/-- the class's path, weighed from lo on -/
def pInv (I : Nat → Nat → Int32) (R k fr ow : Nat) (T : Nat → N4) (lo : Nat) : Prop := I 9 4 = nI (R + 1) ∧ I 9 5 = nI (2 * ow) ∧ I 9 6 = nI k ∧ (∃ on, I 9 7 = nI on ∧ on < 1024 ∧ ∀ b, on.testBit b = (decide (lo ≤ b) && (decide (b ≤ R + 1) && hon R (fun b => (2 * fr).testBit b) T b))) ∧ (∀ b, lo ≤ b → b ≤ R + 1 → I 10 b = nI (T b).1 ∧ I 11 b = nI (T b).2.1 ∧ I 12 b = nI (T b).2.2.1) ∧ ∀ b, lo ≤ b → b ≤ R → I 13 b = nI (T b).2.2.2
theorem pInv.keep {I I' : Nat → Nat → Int32} {R k fr ow : Nat} {T : Nat → N4} {lo : Nat} (h : pInv I R k fr ow T lo) (h9 : I' 9 = I 9) (h10 : ∀ b, lo ≤ b → I' 10 b = I 10 b) (h11 : ∀ b, lo ≤ b → I' 11 b = I 11 b) (h12 : ∀ b, lo ≤ b → I' 12 b = I 12 b) (h13 : ∀ b, lo ≤ b → I' 13 b = I 13 b) : pInv I' R k fr ow T lo := by
  obtain ⟨a1, a2, a3, a4, a5, a6⟩ := h
  unfold pInv
  rw [h9]
  refine ⟨a1, a2, a3, a4, fun b h1 h2 => ?_, fun b h1 h2 => ?_⟩
  · rw [h10 b h1, h11 b h1, h12 b h1]; exact a5 b h1 h2
  · rw [h13 b h1]; exact a6 b h1 h2
theorem l32 {d R k fr ow c : Nat} {T : Nat → N4} (hR : R ≤ 8) (hk : k ≤ 100) (hc : c ≤ R) (hT : hFP R k (fun b => (2 * fr).testBit b) (fun b => (2 * ow).testBit b) T) : ∀ n t (I : Nat → Nat → Int32), t + n = hfar R k (fun b => (2 * ow).testBit b) c → pInv I R k fr ow T (c + 1) → I 10 c = nI (hin R (fun b => (2 * fr).testBit b) T c t).1 → I 11 c = nI (hin R (fun b => (2 * fr).testBit b) T c t).2.1 → I 12 c = nI (hin R (fun b => (2 * fr).testBit b) T c t).2.2.1 → I 13 c = nI (hin R (fun b => (2 * fr).testBit b) T c t).2.2.2 →
    ∃ I', res d 32 40 [.ref 9, .int (nI c), .int (nI (c + hfar R k (fun b => (2 * ow).testBit b) c)), .int (nI (c + t + 1))] [] (I, L, rR ru dr sr rd rl, 65, x) = some (none, (I', L, rR ru dr sr rd rl, 65, x)) ∧ pInv I' R k fr ow T (c + 1) ∧ I' 10 c = nI (T c).1 ∧ I' 11 c = nI (T c).2.1 ∧ I' 12 c = nI (T c).2.2.1 ∧ I' 13 c = nI (T c).2.2.2
  | 0, t, I, e, hp, h1, h2, h3, h4 => by
    have hle := hfar_le R k (fun b => (2 * ow).testBit b) (b := c) (by omega)
    rw [l32_40, if_pos ((nI_ltI (by omega) (by omega)).mpr (by omega))]
    rw [Nat.add_zero] at e
    rw [e, ← hT.2 c hc] at h1 h2 h3 h4
    exact ⟨I, rfl, hp, h1, h2, h3, h4⟩
  | n + 1, t, I, e, hp, h1, h2, h3, h4 => by
    have hle := hfar_le R k (fun b => (2 * ow).testBit b) (b := c) (by omega)
    obtain ⟨p1, p2, p3, ⟨on, p4, p5, p6⟩, p7, p8⟩ := hp
    have hp : pInv I R k fr ow T (c + 1) := ⟨p1, p2, p3, ⟨on, p4, p5, p6⟩, p7, p8⟩
    have p6 := p6 (c + t + 1)
    rw [decide_eq_true (by omega : c + 1 ≤ c + t + 1), decide_eq_true (by omega : c + t + 1 ≤ R + 1), Bool.true_and, Bool.true_and] at p6
    obtain ⟨p7a, p7b, p7c⟩ := p7 (c + t + 1) (by omega) (by omega)
    obtain ⟨o1, o2, o3, -, o5⟩ := hT.at hR (show c + t + 1 ≤ R + 1 by omega)
    obtain ⟨-, -, q1, q2, q3, -, q5⟩ := hin_ok (F := fun b => (2 * fr).testBit b) hR hT.1 hc (fun c h1 h2 => hT.at hR h2) t (by omega)
    have hpw : 2 ^ (R + 1 - (c + t + 1)) ≤ 2 ^ 9 := Nat.pow_le_pow_right (by decide) (by omega)
    have hpw2 : 2 ^ (R + 1 - c) ≤ 2 ^ 9 := Nat.pow_le_pow_right (by decide) (by omega)
    rw [l32_40, if_neg (fun q => absurd ((nI_ltI (by omega) (by omega)).mp q) (by omega)), p4]
    cases hz : hon R (fun b => (2 * fr).testBit b) T (c + t + 1) with
    | false =>
      have e1 : hin R (fun b => (2 * fr).testBit b) T c (t + 1) = hin R (fun b => (2 * fr).testBit b) T c t := by rw [hin, hz]; rfl
      rw [if_pos ((zbitz (by omega) (by omega)).mpr (p6.trans hz)), nI_add]
      exact l32 hR hk hc hT n (t + 1) I (by omega) hp (by rw [e1]; exact h1) (by rw [e1]; exact h2) (by rw [e1]; exact h3) (by rw [e1]; exact h4)
    | true =>
      have e1 : hin R (fun b => (2 * fr).testBit b) T c (t + 1) = hst (T (c + t + 1)) (hin R (fun b => (2 * fr).testBit b) T c t) (c + t + 1) := by rw [hin, hz]; rfl
      rw [if_neg (fun q => by rw [(zbitz (by omega) (by omega)).mp q, hz] at p6; cases p6)]
      simp (maxSteps := 1000000) (disch := omega) only [nI_leI, nI_ltI, nI_eq, nI_z, nI_n0, nI_0l, nI_l0, nI_0g, nI_m1, nI_clamp, nI_add, zb0, zb1, ite_true, ite_false, if_true, if_false, eq_self, bI_i, bL_l, bV_n, not_true, not_false_eq_true, ak_10, ak_11, ak_12, ak_13, h1, h2, h3, p7a, p7b, p7c, zmax_n]
      by_cases hlt : (T (c + t + 1)).2.1 + 1 < (hin R (fun b => (2 * fr).testBit b) T c t).2.1
      · rw [if_neg (by omega)]
        have hf : (hst (T (c + t + 1)) (hin R (fun b => (2 * fr).testBit b) T c t) (c + t + 1)).2.1 = (T (c + t + 1)).2.1 + 1 := if_pos hlt
        have hn : (hst (T (c + t + 1)) (hin R (fun b => (2 * fr).testBit b) T c t) (c + t + 1)).2.2.2 = c + t + 1 := if_pos hlt
        refine l32 hR hk hc hT n (t + 1) _ (by omega) (hp.keep rfl ?_ ?_ ?_ ?_) ?_ ?_ ?_ ?_
        all_goals (try (intro b hb; simp (disch := omega) only [zup_v, zup_ne]; rw [if_neg (by omega)]; done))
        all_goals (rw [e1]; simp (disch := omega) only [zup_v, zup_ne, if_true, eq_self])
        · rfl
        · rw [hf]
        · rfl
        · rw [hn]
      · rw [if_pos (by omega)]
        have hf : (hst (T (c + t + 1)) (hin R (fun b => (2 * fr).testBit b) T c t) (c + t + 1)).2.1 = (hin R (fun b => (2 * fr).testBit b) T c t).2.1 := if_neg hlt
        have hn : (hst (T (c + t + 1)) (hin R (fun b => (2 * fr).testBit b) T c t) (c + t + 1)).2.2.2 = (hin R (fun b => (2 * fr).testBit b) T c t).2.2.2 := if_neg hlt
        refine l32 hR hk hc hT n (t + 1) _ (by omega) (hp.keep rfl ?_ ?_ ?_ ?_) ?_ ?_ ?_ ?_
        all_goals (try (intro b hb; simp (disch := omega) only [zup_v, zup_ne]; done))
        all_goals (try (intro b hb; simp (disch := omega) only [zup_v, zup_ne]; rw [if_neg (by omega)]; done))
        all_goals (rw [e1]; simp (disch := omega) only [zup_v, zup_ne, if_true, eq_self])
        · rfl
        · rw [hf]; exact h2
        · rfl
        · rw [hn]; exact h4
theorem s32 {d R k fr ow c : Nat} {T : Nat → N4} (hR : R ≤ 8) (hk : k ≤ 100) (ho : ow < 256) (hc : c ≤ R) (hT : hFP R k (fun b => (2 * fr).testBit b) (fun b => (2 * ow).testBit b) T) (hp : pInv I R k fr ow T (c + 1)) :
    ∃ I', cal d 32 [.ref 9, .int (nI c)] (I, L, rR ru dr sr rd rl, 65, x) = some (none, (I', L, rR ru dr sr rd rl, 65, x)) ∧ pInv I' R k fr ow T (c + 1) ∧ I' 10 c = nI (T c).1 ∧ I' 11 c = nI (T c).2.1 ∧ I' 12 c = nI (T c).2.2.1 ∧ I' 13 c = nI (T c).2.2.2 := by
  obtain ⟨p1, p2, p3, p4, p7, p8⟩ := hp
  have hp : pInv I R k fr ow T (c + 1) := ⟨p1, p2, p3, p4, p7, p8⟩
  have hif : (if (2 * ow).testBit c = true then 1 else 0) ≤ 1 := by split <;> omega
  rw [k32]
  simp (disch := omega) only [nI_leI, nI_ltI, nI_eq, nI_z, nI_n0, nI_0l, nI_l0, nI_0g, nI_m1, nI_clamp, nI_add, zb0, zb1, ite_true, ite_false, if_true, if_false, eq_self, bI_i, bL_l, bV_n, not_true, not_false_eq_true, ak_10, ak_11, ak_12, ak_13, p1, p2, p3, zbit, zmin_n]
  have e : min (R + 1) (c + k + if (2 * ow).testBit c = true then 1 else 0) = c + hfar R k (fun b => (2 * ow).testBit b) c := by simp only [hfar]; omega
  rw [e]
  refine l32 hR hk hc hT _ 0 _ (Nat.zero_add _) (hp.keep rfl ?_ ?_ ?_ ?_) ?_ ?_ ?_ ?_
  all_goals (try (intro b hb; simp (disch := omega) only [zup_v, zup_ne]; rw [if_neg (by omega)]; done))
  all_goals (simp (disch := omega) only [zup_v, zup_ne, if_true, eq_self]; rfl)
theorem l31 {d R k fr ow : Nat} {T : Nat → N4} (hR : R ≤ 8) (hk : k ≤ 100) (hf : fr < 256) (ho : ow < 256) (hT : hFP R k (fun b => (2 * fr).testBit b) (fun b => (2 * ow).testBit b) T) {v1 v3 v4 : Int32} : ∀ n (I : Nat → Nat → Int32), n ≤ R + 1 → pInv I R k fr ow T n →
    ∃ I', res d 31 46 [.ref 9, .int v1, .int (nI fr), .int v3, .int v4, .int (dn n)] [] (I, L, rR ru dr sr rd rl, 65, x) = some (some (.int (nI (if 0 < (T 0).1 then 1 else 0))), (I', L, rR ru dr sr rd rl, 65, x)) ∧ pInv I' R k fr ow T 0
  | 0, I, hn, hp => by
    have h1 := (hp.2.2.2.2.1 0 (Nat.le_refl 0) (by omega)).1
    have h2 := (hT.at hR (show 0 ≤ R + 1 by omega)).1
    have hpw2 : 2 ^ (R + 1 - 0) ≤ 2 ^ 9 := Nat.pow_le_pow_right (by decide) (by omega)
    rw [l31_46, dn, if_pos (by decide)]
    simp (disch := omega) only [nI_leI, nI_ltI, nI_eq, nI_z, nI_n0, nI_0l, nI_l0, nI_0g, nI_m1, nI_clamp, nI_add, zb0, zb1, ite_true, ite_false, if_true, if_false, eq_self, bI_i, bL_l, bV_n, not_true, not_false_eq_true, ak_10, h1]
    refine ⟨I, ?_, hp⟩
    by_cases h : (T 0).1 = 0
    · rw [if_pos h, if_neg (by omega)]
    · rw [if_neg h, if_pos (by omega)]
  | n + 1, I, hn, hp => by
    obtain ⟨I1, e1, hp1, a1, a2, a3, a4⟩ := s32 (d := d) (L := L) (ru := ru) (dr := dr) (sr := sr) (rd := rd) (rl := rl) (x := x) hR hk ho (show n ≤ R by omega) hT hp
    have h2 := (hT.at hR (show n ≤ R + 1 by omega)).1
    have hpw2 : 2 ^ (R + 1 - n) ≤ 2 ^ 9 := Nat.pow_le_pow_right (by decide) (by omega)
    obtain ⟨p1, p2, p3, ⟨on, p4, p5, p6⟩, p7, p8⟩ := hp1
    rw [l31_46, dn]
    simp (disch := omega) only [nI_leI, nI_ltI, nI_eq, nI_z, nI_n0, nI_0l, nI_l0, nI_0g, nI_m1, nI_clamp, nI_add, zb0, zb1, ite_true, ite_false, if_true, if_false, eq_self, bI_i, bL_l, bV_n, not_true, not_false_eq_true, e1]
    rw [e31_51]
    simp (disch := omega) only [nI_leI, nI_ltI, nI_eq, nI_z, nI_n0, nI_0l, nI_l0, nI_0g, nI_m1, nI_clamp, nI_add, zb0, zb1, ite_true, ite_false, if_true, if_false, eq_self, bI_i, bL_l, bV_n, not_true, not_false_eq_true, ak_10, a1, dn_sub, zshlm, zshl1, fa_and, p4, fa_or]
    by_cases h : (T n).1 = 0
    · rw [if_pos h]
      refine l31 hR hk hf ho hT n I1 (by omega) ⟨p1, p2, p3, ⟨on, p4, p5, fun b => ?_⟩, fun b h1 h3 => ?_, fun b h1 h3 => ?_⟩
      · rw [p6 b]
        by_cases hb : b = n
        · subst hb
          have : hon R (fun b => (2 * fr).testBit b) T b = false := by unfold hon; rw [h, decide_eq_false (by omega : ¬ b = R + 1)]; simp
          rw [this, Bool.and_false, Bool.and_false, Bool.and_false]
        · rw [show decide (n + 1 ≤ b) = decide (n ≤ b) from decide_eq_decide.mpr (by omega)]
      · by_cases hb : b = n
        · subst hb; exact ⟨a1, a2, a3⟩
        · exact p7 b (by omega) h3
      · by_cases hb : b = n
        · subst hb; exact a4
        · exact p8 b (by omega) h3
    · rw [if_neg h]
      refine l31 hR hk hf ho hT n _ (by omega) ⟨?_, ?_, ?_, ⟨on ||| (2 * fr &&& 2 ^ n), ?_, ?_, fun b => ?_⟩, fun b h1 h3 => ?_, fun b h1 h3 => ?_⟩
      · simp (disch := omega) only [zup_v]; simpa using p1
      · simp (disch := omega) only [zup_v]; simpa using p2
      · simp (disch := omega) only [zup_v]; simpa using p3
      · simp (disch := omega) only [zup_v, if_true, eq_self]
      · exact zor_lt (k := 10) p5 (Nat.lt_of_le_of_lt Nat.and_le_left (by omega))
      · rw [Nat.testBit_or, Nat.testBit_and, tb_one, p6 b]
        by_cases hb : b = n
        · subst hb
          have : hon R (fun b => (2 * fr).testBit b) T b = (2 * fr).testBit b := by unfold hon; rw [decide_eq_false (by omega : ¬ b = R + 1), decide_eq_true (by omega : 0 < (T b).1)]; simp
          rw [this, decide_eq_false (by omega : ¬ b + 1 ≤ b), decide_eq_true (Nat.le_refl b), decide_eq_true (by omega : b ≤ R + 1), decide_eq_true rfl]
          simp
        · rw [show decide (n + 1 ≤ b) = decide (n ≤ b) from decide_eq_decide.mpr (by omega), decide_eq_false (fun q : n = b => hb q.symm), Bool.and_false, Bool.or_false]
      · simp (disch := omega) only [zup_ne]
        by_cases hb : b = n
        · subst hb; exact ⟨a1, a2, a3⟩
        · exact p7 b (by omega) h3
      · simp (disch := omega) only [zup_ne]
        by_cases hb : b = n
        · subst hb; exact a4
        · exact p8 b (by omega) h3
theorem zcD_path : zcD (fun a => 9 ≤ a ∧ a ≤ 13) (I, L, rR ru dr sr rd rl, 65, x) := by
  refine ⟨rfl, fun a k b h e => ?_⟩
  dsimp only at e
  have h1 : a = 9 ∨ a = 10 ∨ a = 11 ∨ a = 12 ∨ a = 13 := by omega
  rcases h1 with rfl | rfl | rfl | rfl | rfl <;> unfold rR at e <;> split at e <;> simp_all <;> omega
theorem s31 {d R k fr ow : Nat} (hR : R ≤ 8) (hk : k ≤ 100) (hf : fr < 256) (ho : ow < 256) :
    ∃ I', cal d 31 [.ref 9, .int (nI R), .int (nI fr), .int (nI ow), .int (nI k)] (I, L, rR ru dr sr rd rl, 65, x) = some (some (.int (nI (if 0 < (hT R k (fun b => (2 * fr).testBit b) (fun b => (2 * ow).testBit b) 0).1 then 1 else 0))), (I', L, rR ru dr sr rd rl, 65, x)) ∧ pInv I' R k fr ow (hT R k (fun b => (2 * fr).testBit b) (fun b => (2 * ow).testBit b)) 0 ∧ ∀ c, (c < 9 ∨ 13 < c) → I' c = I c := by
  have key : ∃ I', cal d 31 [.ref 9, .int (nI R), .int (nI fr), .int (nI ow), .int (nI k)] (I, L, rR ru dr sr rd rl, 65, x) = some (some (.int (nI (if 0 < (hT R k (fun b => (2 * fr).testBit b) (fun b => (2 * ow).testBit b) 0).1 then 1 else 0))), (I', L, rR ru dr sr rd rl, 65, x)) ∧ pInv I' R k fr ow (hT R k (fun b => (2 * fr).testBit b) (fun b => (2 * ow).testBit b)) 0 := by
    rw [k31]
    simp (disch := omega) only [nI_leI, nI_ltI, nI_eq, nI_z, nI_n0, nI_0l, nI_l0, nI_0g, nI_m1, nI_clamp, nI_add, zb0, zb1, ite_true, ite_false, if_true, if_false, eq_self, bI_i, bL_l, bV_n, not_true, not_false_eq_true, zup_v, zup_ne, zmin_n, zmax_n, zshlm, show ¬ ((4 : Nat) = 7) by decide, show ¬ ((4 : Nat) = 6) by decide, show ¬ ((4 : Nat) = 5) by decide]
    have e : max 1 (min (R + 1) 9) = R + 1 := by omega
    simp (disch := omega) only [e, ak_10, ak_11, ak_12, nI_leI, nI_ltI, nI_eq, nI_z, nI_n0, nI_0l, nI_l0, nI_0g, nI_m1, nI_clamp, nI_add, zb0, zb1, ite_true, ite_false, if_true, if_false, eq_self, bI_i, bL_l, bV_n, not_true, not_false_eq_true, zsub, zshl1]
    rw [show nI (R + 1 - 1) = dn (R + 1) from rfl]
    have hTe := hT_end R k (fun b => (2 * fr).testBit b) (fun b => (2 * ow).testBit b)
    refine l31 hR hk hf ho (hT_FP R k _ _) (R + 1) _ (Nat.le_refl _) ⟨?_, ?_, ?_, ⟨2 ^ (R + 1), ?_, ?_, fun b => ?_⟩, fun b h1 h2 => ?_, fun b h1 h2 => ?_⟩
    all_goals (try (simp (disch := omega) only [zup_v, zup_ne]; simp; done))
    · have : 2 ^ (R + 1) ≤ 2 ^ 9 := Nat.pow_le_pow_right (by decide) (by omega)
      omega
    · rw [tb_one]
      by_cases hb : R + 1 = b
      · subst hb
        rw [decide_eq_true rfl, decide_eq_true (Nat.le_refl _)]
        unfold hon
        rw [decide_eq_true rfl]
        rfl
      · rw [decide_eq_false hb]
        by_cases h : R + 1 ≤ b
        · rw [decide_eq_false (by omega : ¬ b ≤ R + 1), Bool.false_and, Bool.and_false]
        · rw [decide_eq_false h, Bool.false_and]
    · have hb : b = R + 1 := by omega
      subst hb
      rw [hTe]
      simp (disch := omega) only [zup_v, zup_ne, if_true, eq_self, and_self]
    · omega
  obtain ⟨I', h1, h2⟩ := key
  refine ⟨I', h1, h2, fun c hc => ?_⟩
  exact (cal_frame (D := fun a => 9 ≤ a ∧ a ≤ 13) h1 ⟨by omega, trivial⟩ zcD_path).1.1 c (by omega)

end
