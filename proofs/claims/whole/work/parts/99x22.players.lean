section
variable {I : Nat → Nat → Int32} {L : Nat → Nat → Int64} {ru dr : Nat} {sr : Nat → Option Nat} {rd : Option Nat} {rl x : Nat}
variable {d R S p n T : Nat} {f g : Nat → Nat} {a : zP} {t : Nat → Nat} {l : List Int64} {u : List zP} {kp : Nat → Option zP} {cl : List (Nat × Nat)} {si : List (Nat × Int32)} {cs : zC}

def pst (t : Nat → Nat) (p k : Nat) : Bool := if k % 3 = 0 then decide (k / 3 < 4 - p ∧ 49 ≤ t k ∧ t k ≤ 52) else if k % 3 = 1 then dgt (t k) else decide (t k = 59)
def pwr (t : Nat → Nat) (n p : Nat) : Option Nat := if fa_first (fun k => !pst t p k) (min n 11) < min n 11 then some (fa_first (fun k => !pst t p k) (min n 11)) else if (0 < min n 11 ∧ min n 11 % 3 ≠ 2) ∨ min n 11 < n then some (min n 11) else none
theorem l155 {m : Nat} (hT : cTx I n t) (hm : m ≤ n) (hm8 : m = min n 11) (hp : p ≤ 4) : ∀ j k (w4 w5 w6 : Value), k + j = m → (∀ i, i < k → pst t p i = true) → res d 155 14 [.ref 1, .int (nI m), .int (nI (4 - p)), .int (nI k), w4, w5, w6] [] (I, L, rR ru dr sr rd rl, 65, x) = some (some (.int (opI (pwr t n p))), (I, L, rR ru dr sr rd rl, 65, x))
  | 0, k, w4, w5, w6, hk, hy => by
    have := hT.2.1
    have hnf : ¬ fa_first (fun k => !pst t p k) m < m := fa_first_end fun j hj => by rw [hy j (by omega)]; rfl
    have ep : pwr t n p = if (0 < m ∧ m % 3 ≠ 2) ∨ m < n then some m else none := by unfold pwr; rw [← hm8, if_neg hnf]
    have e79 : ∀ v w w' w'', res d 155 73 [.ref 1, .int (nI m), .int (nI (4 - p)), .int v, w, w', w''] [.int (nI 0)] (I, L, rR ru dr sr rd rl, 65, x) = some (some (.int (if m < n then nI m else -(nI 1))), (I, L, rR ru dr sr rd rl, 65, x)) := fun v w w' w'' => by
      rw [e155_73, if_pos (show nI 0 = 0 from rfl), s97 hT, bI_i, e155_79]
      by_cases y : m < n
      · rw [if_neg (by rw [nI_leI (by omega) (by omega)]; omega), if_pos y]
      · rw [if_pos (by rw [nI_leI (by omega) (by omega)]; omega), if_neg y]
    rw [ep, l155_14, if_pos (by rw [nI_leI (by omega) (by omega)]; omega)]
    by_cases z : m = 0
    · rw [if_pos (by rw [nI_l0 (by omega)]; exact z), e155_72, e79]
      by_cases y : m < n
      · rw [if_pos y, if_pos (Or.inr y)]; rfl
      · rw [if_neg y, if_neg (fun q => q.elim (fun q => by omega) y)]; rfl
    · rw [if_neg (by rw [nI_l0 (by omega)]; exact z), if_neg (by decide), zrem (by omega) (by decide) (by decide)]
      by_cases w : m % 3 = 2
      · rw [if_pos (by rw [w]), e155_72, e79]
        by_cases y : m < n
        · rw [if_pos y, if_pos (Or.inr y)]; rfl
        · rw [if_neg y, if_neg (fun q => q.elim (fun q => q.2 w) y)]; rfl
      · rw [if_neg (by rw [nI_eq (by omega) (by omega)]; exact w), e155_73, if_neg (by decide), if_pos (Or.inl ⟨by omega, w⟩)]; rfl
  | j + 1, k, w4, w5, w6, hk, hy => by
    have hn := hT.2.1
    have hc2 := (hT.2.2 k (by omega)).2
    have es : sgn t m k = nI (t k) := by unfold sgn; rw [if_pos (by omega)]
    have hyes : pst t p k = true → ∀ w4 w5 w6, res d 155 14 [.ref 1, .int (nI m), .int (nI (4 - p)), .int (nI k + nI 1), w4, w5, w6] [] (I, L, rR ru dr sr rd rl, 65, x) = some (some (.int (opI (pwr t n p))), (I, L, rR ru dr sr rd rl, 65, x)) := fun h w4 w5 w6 => by
      rw [nI_add]
      exact l155 hT hm hm8 hp j (k + 1) w4 w5 w6 (by omega) (fun i hi => by
        by_cases z : i = k
        · rw [z]; exact h
        · exact hy i (by omega))
    have hno : pst t p k = false → opI (pwr t n p) = nI k := fun h => by
      have hf : fa_first (fun k => !pst t p k) m = k := fa_first_at (by omega) (by show (!pst t p k) = true; rw [h]; rfl) (fun i hi => by show (!pst t p i) = false; rw [hy i hi]; rfl)
      unfold pwr
      rw [← hm8, hf, if_pos (by omega)]
      rfl
    have e56 : ∀ (w4 w5 w6 : Value) (v4 v5 : Int32), w4 = .int v4 → w5 = .int v5 → res d 155 56 [.ref 1, .int (nI m), .int (nI (4 - p)), .int (nI k), w4, w5, w6] [.int (nI (if pst t p k = true then 1 else 0))] (I, L, rR ru dr sr rd rl, 65, x) = some (some (.int (opI (pwr t n p))), (I, L, rR ru dr sr rd rl, 65, x)) := fun w4 w5 w6 v4 v5 h4 h5 => by
      subst h4 h5
      rw [e155_56]
      cases z : pst t p k with
      | true => rw [if_neg (show ¬ nI (if true = true then 1 else 0) = 0 by decide)]; exact hyes z _ _ _
      | false => rw [if_pos (show nI (if false = true then 1 else 0) = 0 from rfl), hno z]
    rw [l155_14, if_neg (by rw [nI_leI (by omega) (by omega)]; omega), s98 hT hm (by omega), bI_i, es, e155_22, if_neg (by decide), zrem (by omega) (by decide) (by decide), zdiv (by omega) (by decide) (by decide)]
    by_cases z0 : k % 3 = 0
    · have ep : pst t p k = decide (k / 3 < 4 - p ∧ 49 ≤ t k ∧ t k ≤ 52) := by unfold pst; rw [if_pos z0]
      have e42 : pst t p k = false → ∀ w6, res d 155 42 [.ref 1, .int (nI m), .int (nI (4 - p)), .int (nI k), .int (nI (t k)), .int (nI (k % 3)), w6] [] (I, L, rR ru dr sr rd rl, 65, x) = some (some (.int (opI (pwr t n p))), (I, L, rR ru dr sr rd rl, 65, x)) := fun h w6 => by
        have := e56 (.int (nI (t k))) (.int (nI (k % 3))) w6 _ _ rfl rfl
        rw [h] at this
        rw [e155_42]
        exact this
      rw [if_pos ((nI_z (by omega)).mpr z0), if_neg (by decide)]
      by_cases y1 : k / 3 < 4 - p
      · rw [if_neg (by rw [nI_leI (by omega) (by omega)]; omega)]
        by_cases y2 : t k < 49
        · rw [if_pos (by rw [nI_ltI (by omega) (by omega)]; omega)]
          exact e42 (by rw [ep]; exact decide_eq_false (by omega)) _
        · rw [if_neg (by rw [nI_ltI (by omega) (by omega)]; omega)]
          by_cases y3 : 52 < t k
          · rw [if_pos (by rw [nI_ltI (by omega) (by omega)]; omega)]
            exact e42 (by rw [ep]; exact decide_eq_false (by omega)) _
          · rw [if_neg (by rw [nI_ltI (by omega) (by omega)]; omega)]
            have := e56 (.int (nI (t k))) (.int (nI (k % 3))) w6 _ _ rfl rfl
            rw [show pst t p k = true by rw [ep]; exact decide_eq_true (by omega)] at this
            exact this
      · rw [if_pos (by rw [nI_leI (by omega) (by omega)]; omega)]
        exact e42 (by rw [ep]; exact decide_eq_false (by omega)) _
    · rw [if_neg (by rw [nI_z (by omega)]; exact z0)]
      by_cases z1 : k % 3 = 1
      · have ep : pst t p k = dgt (t k) := by unfold pst; rw [if_neg z0, if_pos z1]
        have := e56 (.int (nI (t k))) (.int (nI (k % 3))) w6 _ _ rfl rfl
        rw [ep] at this
        rw [if_pos (by rw [z1]), s158 hc2, bI_i, e155_49]
        exact this
      · have ep : pst t p k = decide (t k = 59) := by unfold pst; rw [if_neg z0, if_neg z1]
        have := e56 (.int (nI (t k))) (.int (nI (k % 3))) w6 _ _ rfl rfl
        rw [ep] at this
        rw [if_neg (by rw [nI_eq (by omega) (by omega)]; exact z1)]
        by_cases y : t k = 59
        · rw [decide_eq_true y] at this
          rw [if_pos (by rw [y])]
          exact this
        · rw [decide_eq_false y] at this
          rw [if_neg (by rw [nI_eq (by omega) (by omega)]; exact y)]
          exact this
theorem s155 (hT : cTx I n t) (hA : cSt I 15 p a) (hp : p ≤ 4) : cal d 155 [.ref 1] (I, L, rR ru dr sr rd rl, 65, x) = some (some (.int (opI (pwr t n p))), (I, L, rR ru dr sr rd rl, 65, x)) := by
  have := hT.2.1
  rw [k155, s97 hT, bI_i, e155_3, s68 (s := 14) (Or.inl rfl) hA, bI_i, e155_10, zmin_n (by omega) (by omega), zsub hp]
  exact l155 hT (Nat.min_le_left _ _) rfl hp (min n 11) 0 _ _ _ (by omega) (fun i hi => absurd hi (Nat.not_lt_zero _))
theorem pwr_le {e : Nat} (h : pwr t n p = some e) : e ≤ 11 := by
  unfold pwr at h
  split at h
  · cases h; omega
  · split at h
    · cases h; omega
    · cases h
theorem pwr_none (h : pwr t n p = none) (hn : 0 < n) : n ≤ 11 ∧ n % 3 = 2 ∧ (∀ k, k < n → pst t p k = true) ∧ p + (n + 1) / 3 ≤ 4 := by
  unfold pwr at h
  split at h
  · cases h
  · rename_i z
    split at h
    · cases h
    · rename_i y
      have hm : min n 11 = n := by omega
      rw [hm] at z y
      have hall : ∀ k, k < n → pst t p k = true := fun k hk => by
        have h1 : (!pst t p k) = false := fa_first_no (fun k => !pst t p k) n k (by have := fa_first_le (fun k => !pst t p k) n; omega)
        cases w : pst t p k with
        | true => rfl
        | false => rw [w] at h1; cases h1
      have h2 : n % 3 = 2 := by omega
      refine ⟨by omega, h2, hall, ?_⟩
      have h3 := hall (n - 2) (by omega)
      unfold pst at h3
      rw [if_pos (by omega)] at h3
      have := (of_decide_eq_true h3).1
      omega
/-- players that come -/
def pla (t : Nat → Nat) (p : Nat) (a : zP) : Nat → zP
  | 0 => a
  | k + 1 => zset (zset (pla t p a k) (4 + (p + k)) (t (3 * k) - 48)) (p + k) (t (3 * k + 1) - 48)
theorem zWf.add {r m : Nat} (hw : zWf p S T a) (hp : p < 4) (hr : r ≤ 4) (hm : m ≤ 9) : zWf (p + 1) S T (zset (zset a (4 + p) r) p m) := by
  have e0 : ∀ k, k ≠ p → k ≠ 4 + p → zset (zset a (4 + p) r) p m k = a k := fun k h1 h2 => by rw [zset_ne _ _ h1, zset_ne _ _ h2]
  have e1 : zset (zset a (4 + p) r) p m p = m := zset_self _ _ _
  have e2 : zset (zset a (4 + p) r) p m (4 + p) = r := by rw [zset_ne _ _ (by omega), zset_self]
  refine ⟨by omega, fun q hq => ?_, fun q hq hq2 => ?_, ?_, ?_, hw.2.2.2.2.2.1, fun r1 r2 h1 h2 h3 => ?_⟩
  · have h := hw.2.1 q hq
    by_cases z : q = p
    · subst z
      rw [e1, e2, e0 (8 + q) (by omega) (by omega), e0 (12 + q) (by omega) (by omega), e0 (16 + q) (by omega) (by omega), e0 (20 + q) (by omega) (by omega)]
      exact ⟨hm, hr, h.2.2⟩
    · rw [e0 q (by omega) (by omega), e0 (4 + q) (by omega) (by omega), e0 (8 + q) (by omega) (by omega), e0 (12 + q) (by omega) (by omega), e0 (16 + q) (by omega) (by omega), e0 (20 + q) (by omega) (by omega)]
      exact h
  · rw [e0 q (by omega) (by omega), e0 (4 + q) (by omega) (by omega), e0 (8 + q) (by omega) (by omega), e0 (12 + q) (by omega) (by omega), e0 (16 + q) (by omega) (by omega), e0 (20 + q) (by omega) (by omega)]
    exact hw.2.2.1 q hq (by omega)
  · rw [e0 24 (by omega) (by omega)]
    have := hw.2.2.2.1
    omega
  · rw [e0 25 (by omega) (by omega)]; exact hw.2.2.2.2.1
  · rw [e0 (12 + r1) (by omega) (by omega), e0 (12 + r2) (by omega) (by omega)]; exact hw.2.2.2.2.2.2 r1 r2 h1 h2 h3
theorem pst0 {k N : Nat} (hall : ∀ k, k < n → pst t p k = true) (hn : n + 1 = 3 * N) (hk : k < N) : 49 ≤ t (3 * k) ∧ t (3 * k) ≤ 52 ∧ 48 ≤ t (3 * k + 1) ∧ t (3 * k + 1) ≤ 57 := by
  have h1 := hall (3 * k) (by omega)
  have h2 := hall (3 * k + 1) (by omega)
  unfold pst at h1 h2
  rw [if_pos (by omega)] at h1
  rw [if_neg (by omega), if_pos (by omega)] at h2
  have h3 := of_decide_eq_true h1
  have h4 := of_decide_eq_true h2
  omega
theorem pla_wf {N : Nat} (hw : zWf p S T a) (hall : ∀ k, k < n → pst t p k = true) (hn : n + 1 = 3 * N) (hN : p + N ≤ 4) : ∀ k, k ≤ N → zWf (p + k) S T (pla t p a k)
  | 0, _ => hw
  | k + 1, hk => by
    have h1 := pst0 hall hn (show k < N by omega)
    exact (pla_wf hw hall hn hN k (by omega)).add (by omega) (by omega) (by omega)
theorem l156 {N : Nat} (hn8 : n ≤ 80) (hall : ∀ k, k < n → pst t p k = true) (hn : n + 1 = 3 * N) (hN : p + N ≤ 4) : ∀ j k (I : Nat → Nat → Int32), k + j = N → cTx I n t → cSt I 15 (p + k) (pla t p a k) → ∃ I', res d 156 4 [.ref 1, .int (nI k), .int (nI (3 * k))] [] (I, L, rR ru dr sr rd rl, 65, x) = some (some (.int (nI N)), (I', L, rR ru dr sr rd rl, 65, x)) ∧ cSt I' 15 (p + N) (pla t p a N) ∧ fW [15] I I'
  | 0, k, I, hk, hT, hA => by
    have : k = N := by omega
    subst this
    exact ⟨I, by rw [l156_4, s97 hT, bI_i, nI_add, e156_10, if_pos (by rw [nI_leI (by omega) (by omega)]; omega)], hA, fW.rf⟩
  | j + 1, k, I, hk, hT, hA => by
    have h1 := pst0 hall hn (show k < N by omega)
    have d1 : dga t n (3 * k) = nI (t (3 * k) - 48) := by unfold dga; rw [if_pos ⟨by omega, decide_eq_true (by omega)⟩]
    have d2 : dga t n (3 * k + 1) = nI (t (3 * k + 1) - 48) := by unfold dga; rw [if_pos ⟨by omega, decide_eq_true (by omega)⟩]
    obtain ⟨I1, e1, h2, f1⟩ := s75 (d := d) (L := L) (ru := ru) (dr := dr) (sr := sr) (rd := rd) (rl := rl) (x := x) (s := 14) (r := t (3 * k) - 48) (m := t (3 * k + 1) - 48) (Or.inl rfl) hA (by omega)
    obtain ⟨I2, e2, h3, f2⟩ := l156 hn8 hall hn hN j (k + 1) I1 (by omega) (f1.tx hT (by decide)) h2
    refine ⟨I2, ?_, h3, f1.tr f2⟩
    rw [l156_4, s97 hT, bI_i, nI_add, e156_10, if_neg (by rw [nI_leI (by omega) (by omega)]; omega), s99 hT (by omega), d1, bI_i, e156_17 (Or.inl rfl), nI_add, s99 hT (by omega), d2, bI_i, e156_23 (Or.inl rfl), e1, bV_n, e156_24, nI_add, nI_add, show 3 * k + 3 = 3 * (k + 1) by omega, e2]
theorem o110f {e : Nat} (h : cInv I L ru dr R S f g p a n t l u kp cl si cs) (hw : wInv R S f g p a T u kp) (hg : pwr t n p = some e) : ∃ I', cal d 110 [.ref 1] (I, L, rR ru dr sr rd rl, 65, x) = some (some (.int (-(nI 1) - nI e)), (I', L, rR ru dr sr rd rl, 65, x)) ∧ cInv I' L ru dr R S f g p a 0 t l u kp cl si cs := by
  obtain ⟨hI, hA, hT, hO, hP, hC, hS, hQ, hR⟩ := h
  obtain ⟨hc, hw, hu, hk⟩ := hw
  have he := pwr_le hg
  have f2 : fW [2] I (zup I 2 1 (nI 0)) := fW.up (by decide) (by decide) (by decide)
  have hne : nI e ≠ -(nI 1) := fun q => ((nI_m1 (by omega)).mp q).elim
  exact ⟨_, by rw [k110, s155 hT hA hw.1, hg, show opI (some e) = nI e from rfl, bI_i, e110_2, if_neg hne, e110_18, s96, bV_n, e110_21, if_neg hne], ⟨f2.ct hI (by decide), f2.st (Or.inl rfl) hA (by decide), hT.cut (Nat.zero_le _), f2.to hO (by decide) rfl, f2.pa hP (by decide), f2.clu hC (by decide), f2.sig hS (by decide), hQ, f2.cs (zRD.q hQ) hR (zRD.nn hQ (by decide))⟩⟩
theorem o110z (h : cInv I L ru dr R S f g p a n t l u kp cl si cs) (hw : wInv R S f g p a T u kp) (hg : pwr t n p = none) (hn : n = 0) : ∃ I', cal d 110 [.ref 1] (I, L, rR ru dr sr rd rl, 65, x) = some (some (.int (nI 0)), (I', L, rR ru dr sr rd rl, 65, x)) ∧ cInv I' L ru dr R S f g p a 0 t l u kp cl si cs := by
  obtain ⟨hI, hA, hT, hO, hP, hC, hS, hQ, hR⟩ := h
  obtain ⟨hc, hw, hu, hk⟩ := hw
  have f2 : fW [2] I (zup I 2 1 (nI 0)) := fW.up (by decide) (by decide) (by decide)
  exact ⟨_, by rw [k110, s155 hT hA hw.1, hg, show opI none = -(nI 1) from rfl, bI_i, e110_2, if_pos rfl, s97 hT, bI_i, e110_11, if_pos (by rw [hn]; decide), e110_18, s96, bV_n, e110_21, if_pos rfl], ⟨f2.ct hI (by decide), f2.st (Or.inl rfl) hA (by decide), hT.cut (Nat.zero_le _), f2.to hO (by decide) rfl, f2.pa hP (by decide), f2.clu hC (by decide), f2.sig hS (by decide), hQ, f2.cs (zRD.q hQ) hR (zRD.nn hQ (by decide))⟩⟩
theorem o110t (h : cInv I L ru dr R S f g p a n t l u kp cl si cs) (hw : wInv R S f g p a T u kp) (hg : pwr t n p = none) (hn : 0 < n) : ∃ I', cal d 110 [.ref 1] (I, L, rR ru dr sr rd rl, 65, x) = some (some (.int (nI ((n + 1) / 3))), (I', L, rR ru dr sr rd rl, 65, x)) ∧ cInv I' L ru dr R S f g (p + (n + 1) / 3) (pla t p a ((n + 1) / 3)) 0 t l [] (fun _ => none) cl si cs := by
  obtain ⟨hI, hA, hT, hO, hP, hC, hS, hQ, hR⟩ := h
  obtain ⟨hc, hw, hu, hk⟩ := hw
  obtain ⟨n11, n2, hall, hN⟩ := pwr_none hg hn
  have hp := hw.1
  obtain ⟨I1, e1, h1, f1⟩ := l156 (d := d) (L := L) (ru := ru) (dr := dr) (sr := sr) (rd := rd) (rl := rl) (x := x) (a := a) (N := (n + 1) / 3) (by omega) hall (by omega) hN ((n + 1) / 3) 0 I (by omega) hT hA
  obtain ⟨I2, e2, h2, f2⟩ := s24 (d := d) (L := L) (ru := ru) (dr := dr) (sr := sr) (rd := rd) (rl := rl) (x := x) (I := I1) (p := p + (n + 1) / 3)
  have h2' := h2 (by
    obtain ⟨-, -, -, ⟨w, hw', e, -⟩, -⟩ := hP
    exact ⟨w, hw', by rw [f1.1 20 (by decide) rfl]; exact e⟩)
  have f3 : fW [2] I2 (zup I2 2 1 (nI 0)) := fW.up (by decide) (by decide) (by decide)
  have f12 : fW [15, 20] I I2 := (f1.mono (by decide)).tr (f2.mono (by decide))
  have f4 : fW [2, 15, 20] I (zup I2 2 1 (nI 0)) := (f12.mono (by decide)).tr (f3.mono (by decide))
  have f23 : fW [2, 20] I1 (zup I2 2 1 (nI 0)) := (f2.mono (by decide)).tr (f3.mono (by decide))
  refine ⟨zup I2 2 1 (nI 0), ?_, ⟨f4.ct hI (by decide), f23.st (s := 14) (Or.inl rfl) h1 (by decide), (f12.tx hT (by decide)).cut (Nat.zero_le _), f4.to hO (by decide) rfl, f3.pa h2' (by decide), f4.clu hC (by decide), f4.sig hS (by decide), hQ, f4.cs (zRD.q hQ) hR (zRD.nn hQ (by decide))⟩⟩
  rw [k110, s155 hT hA hp, hg, show opI none = -(nI 1) from rfl, bI_i, e110_2, if_pos rfl, s97 hT, bI_i, e110_11, if_neg (by rw [nI_l0 (by omega)]; omega), k156, e1, bI_i, e110_14, e2, bV_n, e110_18, s96, bV_n, e110_21, if_pos rfl]

end
