section
variable {I : Nat → Nat → Int32} {L : Nat → Nat → Int64} {ru dr : Nat} {sr : Nat → Option Nat} {rd : Option Nat} {rl x : Nat}
variable {d R S p n T : Nat} {f g : Nat → Nat} {a : zP} {t : Nat → Nat} {l : List Int64} {u : List zP} {kp : Nat → Option zP} {cl : List (Nat × Nat)} {si : List (Nat × Int32)} {cs : zC}

theorem tn_s (R S : Nat) (f g : Nat → Nat) (cs : zC) (p : Nat) : ∀ k (a : zP), tn R S f g cs p (k + 1) a = thr R S f g cs p (tn R S f g cs p k a)
  | 0, _ => rfl
  | k + 1, a => by
    show tn R S f g cs p (k + 1) (thr R S f g cs p a) = thr R S f g cs p (tn R S f g cs p k (thr R S f g cs p a))
    exact tn_s R S f g cs p k (thr R S f g cs p a)
def rnA (R S : Nat) (f g : Nat → Nat) (cs : zC) (p : Nat) (a : zP) (v : Int32) : Int32 × Option (List Int64) := match inl 1 99 v with
  | some k => if p = 0 then (-(nI 1), none) else (nI (lrs (fun i => thb R S f g cs (tn R S f g cs p i a)) 1 k).1, some [lN (lrs (fun i => thb R S f g cs (tn R S f g cs p i a)) 1 k).2.1])
  | none => (-(nI 1), none)
theorem l134 {N : Nat} (hc : zCt R S f g) (hw : zWf p S T a) (hp0 : 0 < p) (hqq : zQ ru) (hN : N ≤ 99) (hT1 : T + 100 < 2 ^ 24) : ∀ j i (I : Nat → Nat → Int32), i + j = N → cCt I R S f g → cSt I 17 p (tn R S f g cs p i a) → cRu I ru cs → ∃ I', res d 134 25 [.ref 1, .int (nI N), .int (nI (lrs (fun i => thb R S f g cs (tn R S f g cs p i a)) 1 i).1), .int (nI (lrs (fun i => thb R S f g cs (tn R S f g cs p i a)) 1 i).2.1), .int (nI (lrs (fun i => thb R S f g cs (tn R S f g cs p i a)) 1 i).2.2), .int (nI (i + 1))] [] (I, L, rR ru dr sr rd rl, 65, x) = bV (cal d 101 [.ref 4] (I', L, rR ru dr sr rd rl, 65, x)) (fun h1 => res d 134 56 [.ref 1, .int (nI N), .int (nI (lrs (fun i => thb R S f g cs (tn R S f g cs p i a)) 1 N).1), .int (nI (lrs (fun i => thb R S f g cs (tn R S f g cs p i a)) 1 N).2.1), .int (nI (lrs (fun i => thb R S f g cs (tn R S f g cs p i a)) 1 N).2.2), .int (nI (N + 1))] [] h1) ∧ fW [17] I I'
  | 0, i, I, hi, hI, hB, hR => ⟨I, by rw [l134_25, if_pos (by rw [nI_ltI (by omega) (by omega)]; omega), show i = N by omega], fW.rf⟩
  | j + 1, i, I, hi, hI, hB, hR => by
    have hw1 := tn_wf hc hp0 cs i T a hw (by omega)
    obtain ⟨I1, e1, h1, f1⟩ := s86 (d := d) (L := L) (ru := ru) (dr := dr) (sr := sr) (rd := rd) (rl := rl) (x := x) (s := 16) hc hI (Or.inr (Or.inl rfl)) hB hw1 hqq hp0 hR
    rw [← tn_s] at h1
    obtain ⟨I2, e2, f2⟩ := l134 hc hw hp0 hqq hN hT1 j (i + 1) I1 (by omega) (f1.ct hI (by decide)) h1 (f1.cs hqq hR (by rcases hqq with rfl | rfl <;> decide))
    obtain ⟨i1, i2, i3⟩ := lrs_le (fun i => thb R S f g cs (tn R S f g cs p i a)) 1 i
    refine ⟨I2, ?_, f1.tr f2⟩
    rw [l134_25, if_neg (by rw [nI_ltI (by omega) (by omega)]; omega), e1, bI_i, e134_33]
    rw [lrs] at e2
    have hP : (fun i => thb R S f g cs (tn R S f g cs p i a)) i = thb R S f g cs (tn R S f g cs p i a) := rfl
    cases z : thb R S f g cs (tn R S f g cs p i a) with
    | true =>
      rw [z] at hP
      rw [if_pos hP] at e2
      rw [if_neg (show ¬ nI (if true = true then 1 else 0) = 0 by decide), nI_add, e134_39]
      by_cases y : (lrs (fun i => thb R S f g cs (tn R S f g cs p i a)) 1 i).2.2 + 1 ≤ (lrs (fun i => thb R S f g cs (tn R S f g cs p i a)) 1 i).1
      · rw [if_pos y] at e2
        rw [if_pos (by rw [nI_leI (by omega) (by omega)]; exact y), nI_add]
        exact e2
      · rw [if_neg y] at e2
        rw [if_neg (by rw [nI_leI (by omega) (by omega)]; exact y), zfst (by omega), nI_add]
        dsimp only at e2
        rw [show 1 + i + 1 = i + 1 + 1 by omega] at e2
        exact e2
    | false =>
      rw [z] at hP
      rw [if_neg (show ¬ thb R S f g cs (tn R S f g cs p i a) = true by rw [z]; exact Bool.false_ne_true), if_pos (Nat.zero_le _)] at e2
      rw [if_pos (show nI (if false = true then 1 else 0) = 0 from rfl), e134_39, if_pos (by rw [nI_leI (by omega) (by omega)]; omega), nI_add]
      exact e2
theorem o134 {v : Int32} (h : cInv I L ru dr R S f g p a n t l u kp cl si cs) (hw : wInv R S f g p a T u kp) (hT1 : T + 100 < 2 ^ 24) : ∃ I' L', cal d 134 [.ref 1, .int v] (I, L, rR ru dr sr rd rl, 65, x) = some (some (.int (rnA R S f g cs p a v).1), (I', L', rR ru dr sr rd rl, 65, x)) ∧ cInv I' L' ru dr R S f g p a n t ((rnA R S f g cs p a v).2.getD l) u kp cl si cs := by
  have h0 := h
  obtain ⟨hI, hA, hT, hO, hP, hC, hS, hQ, hR⟩ := h
  obtain ⟨hc, hw, hu, hk⟩ := hw
  have hp := hw.1
  unfold rnA
  rw [k134]
  cases z : inl 1 99 v with
  | none =>
    refine ⟨I, L, ?_, h0⟩
    by_cases z1 : v < nI 1
    · rw [if_pos z1]
    · rw [if_neg z1, if_pos ((inl_n z).resolve_left z1)]
  | some k =>
    obtain ⟨k1, k2, rfl⟩ := inl_s (by decide) (by decide) z
    rw [if_neg (by rw [nI_ltI (by omega) (by omega)]; omega), if_neg (by rw [nI_ltI (by omega) (by omega)]; omega), s68 (s := 14) (Or.inl rfl) hA, bI_i, e134_9]
    dsimp only
    by_cases y : p = 0
    · rw [if_pos ((nI_z (by omega)).mpr y), if_pos y]
      exact ⟨I, L, rfl, h0⟩
    · obtain ⟨I1, e1, h1, f1⟩ := s65 (d := d) (L := L) (ru := ru) (dr := dr) (sr := sr) (rd := rd) (rl := rl) (x := x) (s0 := 16) (s := 14) (Or.inr (Or.inl rfl)) (Or.inl rfl) hA
      obtain ⟨I2, e2, f2⟩ := l134 (d := d) (L := L) (ru := ru) (dr := dr) (sr := sr) (rd := rd) (rl := rl) (x := x) (N := k) hc hw (by omega) (zRD.q hQ) k2 hT1 k 0 I1 (by omega) (f1.ct hI (by decide)) h1 (f1.cs (zRD.q hQ) hR (zRD.nn hQ (by decide)))
      obtain ⟨i1, i2, i3⟩ := lrs_le (fun i => thb R S f g cs (tn R S f g cs p i a)) 1 k
      obtain ⟨I3, e3, h3, f3⟩ := s101 (d := d) (L := L) (ru := ru) (dr := dr) (sr := sr) (rd := rd) (rl := rl) (x := x) (I := I2)
      obtain ⟨I4, L4, e4, h4, f4, g4⟩ := s102 (d := d) (v := lN (lrs (fun i => thb R S f g cs (tn R S f g cs p i a)) 1 k).2.1) (ru := ru) (dr := dr) (sr := sr) (rd := rd) (rl := rl) (x := x) h3 (by decide)
      have f5 : fW [4, 17] I I4 := ((f1.tr f2).mono (by decide)).tr ((f3.tr f4).mono (by decide))
      rw [show lrs (fun i => thb R S f g cs (tn R S f g cs p i a)) 1 0 = (0, 0, 0) from rfl] at e2
      rw [if_neg (by rw [nI_z (by omega)]; exact y), e1, bV_n, e134_17, e2, e3, bV_n, e134_56, nI_l (by omega), e4, bV_n, e134_61, if_neg y]
      exact ⟨I4, L4, rfl, ⟨f5.ct hI (by decide), f5.st (Or.inl rfl) hA (by decide), f5.tx hT (by decide), h4, f5.pa hP (by decide), f5.clu hC (by decide), f5.sig hS (by decide), hQ, f5.cs (zRD.q hQ) hR (zRD.nn hQ (by decide))⟩⟩
/-! round -/
def rnd (P : Nat → Nat → Bool) : Nat → Nat → Option (Nat × Nat)
  | 0, _ => none
  | n + 1, k => if fa_first (fun j => P j k) k < k then some (k, fa_first (fun j => P j k) k) else rnd P n (k + 1)
theorem fa_first_at {P : Nat → Bool} {n k : Nat} (hk : k < n) (h : P k = true) (h2 : ∀ j, j < k → P j = false) : fa_first P n = k := by
  have h3 : ¬ k < fa_first P n := fun q => by rw [fa_first_no P n k q] at h; cases h
  have h4 := fa_first_yes P n (by omega)
  refine Nat.le_antisymm (Nat.le_of_not_lt h3) (Nat.le_of_not_lt fun q => ?_)
  rw [h2 _ q] at h4
  cases h4
theorem fa_first_end {P : Nat → Bool} {n : Nat} (h2 : ∀ j, j < n → P j = false) : ¬ fa_first P n < n := fun q => by
  have := fa_first_yes P n q
  rw [h2 _ q] at this
  cases this
def rdA (R S : Nat) (f g : Nat → Nat) (cs : zC) (p : Nat) (a : zP) : Int32 × Option (List Int64) := if p = 0 then (-(nI 2), none) else match rnd (fun j k => decide (mk (tn R S f g cs p j a) p = mk (tn R S f g cs p k a) p)) 100 0 with
  | none => (-(nI 2), none)
  | some e => (nI e.1, some [lN e.2])
theorem l135i {k : Nat} {M : Nat → Nat} (hk : k < 100) (hL : ∀ j, j ≤ k → L 29 j = lN (M j)) (hM : ∀ j, j ≤ k → M j < 2 ^ 63) : ∀ n j, j + n = k → (∀ i, i < j → decide (M i = M k) = false) → res d 135 27 [.ref 1, .int (nI k), .int (nI j)] [] (I, L, rR ru dr sr rd rl, 65, x) = (if fa_first (fun j => decide (M j = M k)) k < k then bV (cal d 101 [.ref 4] (I, L, rR ru dr sr rd rl, 65, x)) (fun h1 => res d 135 43 [.ref 1, .int (nI k), .int (nI (fa_first (fun j => decide (M j = M k)) k))] [] h1) else bI (cal d 86 [.ref 16, .ref ru] (I, L, rR ru dr sr rd rl, 65, x)) (fun r1 h1 => res d 135 57 [.ref 1, .int (nI k), .int (nI k)] [.int r1] h1))
  | 0, j, hj, hn => by
    rw [l135_27, if_pos (by rw [nI_leI (by omega) (by omega)]; omega), if_neg (fa_first_end (fun i hi => hn i (by omega))), show j = k by omega]
  | n + 1, j, hj, hn => by
    have ih := l135i hk hL hM n (j + 1) (by omega)
    rw [l135_27, if_neg (by rw [nI_leI (by omega) (by omega)]; omega), if_pos (ak_29 (by omega)), if_pos (ak_29 hk), nI_clamp (by omega), nI_clamp (by omega), hL j (by omega), hL k (Nat.le_refl _)]
    by_cases z : M j = M k
    · rw [if_pos ((lg_cmp_eq _ _).mpr (by rw [z])), fa_first_at (k := j) (by omega) (decide_eq_true z) (fun i hi => hn i hi), if_pos (by omega)]
    · rw [if_neg (fun e => z ((fb_lN_inj (hM j (by omega)) (hM k (Nat.le_refl _))).mp ((lg_cmp_eq _ _).mp e))), nI_add]
      exact ih fun i hi => by
        by_cases y : i = j
        · rw [y]; exact decide_eq_false z
        · exact hn i (by omega)
theorem l135 (hc : zCt R S f g) (hw : zWf p S T a) (hp0 : 0 < p) (hqq : zQ ru) (hT1 : T + 100 < 2 ^ 24) : ∀ n k (I : Nat → Nat → Int32) (L : Nat → Nat → Int64) (w2 : Value), k + n = 100 → cCt I R S f g → cSt I 17 p (tn R S f g cs p k a) → cRu I ru cs → (∀ j, j < k → L 29 j = lN (mk (tn R S f g cs p j a) p)) → ∃ I' L', fW [4, 17] I I' ∧ (match rnd (fun j k => decide (mk (tn R S f g cs p j a) p = mk (tn R S f g cs p k a) p)) n k with
    | none => L' 5 = L 5 ∧ fW [17] I I' ∧ res d 135 13 [.ref 1, .int (nI k), w2] [] (I, L, rR ru dr sr rd rl, 65, x) = some (some (.int (-(nI 2))), (I', L', rR ru dr sr rd rl, 65, x))
    | some e => res d 135 13 [.ref 1, .int (nI k), w2] [] (I, L, rR ru dr sr rd rl, 65, x) = some (some (.int (nI e.1)), (I', L', rR ru dr sr rd rl, 65, x)) ∧ cTo I' L' [lN e.2])
  | 0, k, I, L, w2, hk, hI, hB, hR, hL => ⟨I, L, fW.rf, rfl, fW.rf, by rw [l135_13, if_pos (by rfl), if_pos (by show nI 100 ≤ _; rw [nI_leI (by omega) (by omega)]; omega)]⟩
  | n + 1, k, I, L, w2, hk, hI, hB, hR, hL => by
    have hS16 := hc.S16
    have hwk := tn_wf hc hp0 cs k T a hw (by omega)
    have hM : ∀ j, j ≤ k → mk (tn R S f g cs p j a) p < 2 ^ 63 := fun j hj => mk_63 hS16 (tn_wf hc hp0 cs j T a hw (by omega))
    have hL2 : ∀ j, j ≤ k → (zup L 29 k (lN (mk (tn R S f g cs p k a) p))) 29 j = lN (mk (tn R S f g cs p j a) p) := fun j hj => by
      rw [zup_v]
      by_cases z : j = k
      · rw [if_pos z, z]
      · rw [if_neg z]; exact hL j (by omega)
    have e0 : res d 135 13 [.ref 1, .int (nI k), w2] [] (I, L, rR ru dr sr rd rl, 65, x) = res d 135 27 [.ref 1, .int (nI k), .int (nI 0)] [] (I, zup L 29 k (lN (mk (tn R S f g cs p k a) p)), rR ru dr sr rd rl, 65, x) := by
      rw [l135_13, if_pos (by rfl), if_neg (show ¬ nI (sln 29) ≤ nI k by show ¬ nI 100 ≤ _; rw [nI_leI (by omega) (by omega)]; omega), s89 (s := 16) (Or.inr (Or.inl rfl)) hB hS16 hwk, bL_l, e135_24, if_pos (ak_29 (by omega)), nI_clamp (by omega)]
    have e1' := l135i (d := d) (L := zup L 29 k (lN (mk (tn R S f g cs p k a) p))) (I := I) (ru := ru) (dr := dr) (sr := sr) (rd := rd) (rl := rl) (x := x) (M := fun j => mk (tn R S f g cs p j a) p) (k := k) (by omega) hL2 hM k 0 (by omega) (fun i hi => absurd hi (Nat.not_lt_zero _))
    rw [e0, e1']
    unfold rnd
    by_cases z : fa_first (fun j => (fun j k => decide (mk (tn R S f g cs p j a) p = mk (tn R S f g cs p k a) p)) j k) k < k
    · rw [if_pos z]
      obtain ⟨I3, e3, h3, f3⟩ := s101 (d := d) (L := zup L 29 k (lN (mk (tn R S f g cs p k a) p))) (ru := ru) (dr := dr) (sr := sr) (rd := rd) (rl := rl) (x := x) (I := I)
      obtain ⟨I4, L4, e4, h4, f4, g4⟩ := s102 (d := d) (v := lN (fa_first (fun j => (fun j k => decide (mk (tn R S f g cs p j a) p = mk (tn R S f g cs p k a) p)) j k) k)) (ru := ru) (dr := dr) (sr := sr) (rd := rd) (rl := rl) (x := x) h3 (by decide)
      refine ⟨I4, L4, (f3.tr f4).mono (by decide), ?_, h4⟩
      rw [if_pos z, e3, bV_n, e135_43, nI_l (show fa_first (fun j => (fun j k => decide (mk (tn R S f g cs p j a) p = mk (tn R S f g cs p k a) p)) j k) k < 2 ^ 31 by omega), e4, bV_n, e135_48]
    · rw [if_neg z]
      obtain ⟨I1, e1, h1, f1⟩ := s86 (d := d) (L := zup L 29 k (lN (mk (tn R S f g cs p k a) p))) (ru := ru) (dr := dr) (sr := sr) (rd := rd) (rl := rl) (x := x) (s := 16) hc hI (Or.inr (Or.inl rfl)) hB hwk hqq hp0 hR
      rw [← tn_s] at h1
      obtain ⟨I2, L2, f2, h2⟩ := l135 hc hw hp0 hqq hT1 n (k + 1) I1 (zup L 29 k (lN (mk (tn R S f g cs p k a) p))) (.int (nI k)) (by omega) (f1.ct hI (by decide)) h1 (f1.cs hqq hR (by rcases hqq with rfl | rfl <;> decide)) (fun j hj => hL2 j (by omega))
      refine ⟨I2, L2, (f1.mono (by decide)).tr f2, ?_⟩
      rw [if_neg z, e1, bI_i, e135_57, nI_add]
      cases y : rnd (fun j k => decide (mk (tn R S f g cs p j a) p = mk (tn R S f g cs p k a) p)) n (k + 1) with
      | none => rw [y] at h2; exact ⟨h2.1.trans (zup_ne _ _ _ (by decide)), f1.tr h2.2.1, h2.2.2⟩
      | some e => rw [y] at h2; exact h2
theorem o135 (h : cInv I L ru dr R S f g p a n t l u kp cl si cs) (hw : wInv R S f g p a T u kp) (hT1 : T + 100 < 2 ^ 24) : ∃ I' L', cal d 135 [.ref 1] (I, L, rR ru dr sr rd rl, 65, x) = some (some (.int (rdA R S f g cs p a).1), (I', L', rR ru dr sr rd rl, 65, x)) ∧ cInv I' L' ru dr R S f g p a n t ((rdA R S f g cs p a).2.getD l) u kp cl si cs := by
  have h0 := h
  obtain ⟨hI, hA, hT, hO, hP, hC, hS, hQ, hR⟩ := h
  obtain ⟨hc, hw, hu, hk⟩ := hw
  have hp := hw.1
  unfold rdA
  rw [k135, s68 (s := 14) (Or.inl rfl) hA, bI_i, e135_3]
  by_cases y : p = 0
  · rw [if_pos ((nI_z (by omega)).mpr y), if_pos y]
    exact ⟨I, L, rfl, h0⟩
  · obtain ⟨I1, e1, h1, f1⟩ := s65 (d := d) (L := L) (ru := ru) (dr := dr) (sr := sr) (rd := rd) (rl := rl) (x := x) (s0 := 16) (s := 14) (Or.inr (Or.inl rfl)) (Or.inl rfl) hA
    obtain ⟨I2, L2, f2, h2⟩ := l135 (d := d) (ru := ru) (dr := dr) (sr := sr) (rd := rd) (rl := rl) (x := x) hc hw (by omega) (zRD.q hQ) hT1 100 0 I1 L .null (by omega) (f1.ct hI (by decide)) h1 (f1.cs (zRD.q hQ) hR (zRD.nn hQ (by decide))) (fun j hj => absurd hj (Nat.not_lt_zero _))
    rw [if_neg (by rw [nI_z (by omega)]; exact y), e1, bV_n, e135_11, if_neg y]
    cases w : rnd (fun j k => decide (mk (tn R S f g cs p j a) p = mk (tn R S f g cs p k a) p)) 100 0 with
    | none =>
      rw [w] at h2
      have f3 : fW [17] I I2 := f1.tr h2.2.1
      exact ⟨I2, L2, h2.2.2, ⟨f3.ct hI (by decide), f3.st (Or.inl rfl) hA (by decide), f3.tx hT (by decide), f3.to hO (by decide) h2.1, f3.pa hP (by decide), f3.clu hC (by decide), f3.sig hS (by decide), hQ, f3.cs (zRD.q hQ) hR (zRD.nn hQ (by decide))⟩⟩
    | some e =>
      rw [w] at h2
      have f3 : fW [4, 17] I I2 := (f1.mono (by decide)).tr f2
      exact ⟨I2, L2, h2.1, ⟨f3.ct hI (by decide), f3.st (Or.inl rfl) hA (by decide), f3.tx hT (by decide), h2.2, f3.pa hP (by decide), f3.clu hC (by decide), f3.sig hS (by decide), hQ, f3.cs (zRD.q hQ) hR (zRD.nn hQ (by decide))⟩⟩
/-! order -/
def oin (r : Nat → Nat) (h : Nat) : Nat → List Int64
  | 0 => []
  | q + 1 => if r q = h then oin r h q ++ [lN q] else oin r h q
def oou (r : Nat → Nat) (p : Nat) : Nat → List Int64
  | 0 => []
  | h + 1 => oou r p h ++ oin r h p
theorem oin_len (r : Nat → Nat) (h : Nat) : ∀ q, (oin r h q).length = fb_ct (fun x => decide (r x = h)) q
  | 0 => rfl
  | q + 1 => by
    rw [oin, fb_ct_succ]
    by_cases z : r q = h
    · rw [if_pos z, decide_eq_true z, if_pos rfl, List.length_append, oin_len r h q]; rfl
    · rw [if_neg z, decide_eq_false z, if_neg Bool.false_ne_true, oin_len r h q]; rfl
theorem oou_len (r : Nat → Nat) (p : Nat) : ∀ h, (oou r p h).length = fb_ct (fun x => decide (r x < h)) p
  | 0 => by
    rw [fb_ct_zero.mpr fun k _ => decide_eq_false (Nat.not_lt_zero _)]; rfl
  | h + 1 => by
    rw [oou, List.length_append, oou_len r p h, oin_len r h p, ← fb_ct_or fun k _ hk => by
      have h1 := of_decide_eq_true hk.1
      have h2 := of_decide_eq_true hk.2
      omega]
    refine fb_ct_cong fun k _ => ?_
    by_cases z : r k < h
    · rw [decide_eq_true z, decide_eq_true (by omega : r k < h + 1)]; rfl
    · by_cases y : r k = h
      · rw [decide_eq_false z, decide_eq_true y, decide_eq_true (by omega : r k < h + 1)]; rfl
      · rw [decide_eq_false z, decide_eq_false y, decide_eq_false (by omega : ¬ r k < h + 1)]; rfl
theorem oo_le (r : Nat → Nat) {p h q : Nat} (hq : q ≤ p) : (oou r p h ++ oin r h q).length ≤ p := by
  have h1 := oou_len r p (h + 1)
  rw [oou, List.length_append, oin_len] at h1
  have h2 := fb_ct_le (fun x => decide (r x < h + 1)) p
  rw [List.length_append, oin_len]
  have := fb_ct_mono (fun x => decide (r x = h)) hq
  omega
def rk (a : zP) (p q : Nat) : Nat := fb_ct (fun o => ahd a o q) p
theorem l136i {hd : Nat} (hS16 : S ≤ 16) (hw : zWf p S T a) (hh : hd < 4) : ∀ n q (I : Nat → Nat → Int32) (L : Nat → Nat → Int64), q + n = p → cSt I 15 p a → cTo I L (oou (rk a p) p hd ++ oin (rk a p) hd q) → ∃ I' L', res d 136 14 [.ref 1, .int (nI p), .int (nI hd), .int (nI q)] [] (I, L, rR ru dr sr rd rl, 65, x) = res d 136 9 [.ref 1, .int (nI p), .int (nI (hd + 1)), .int (nI p)] [] (I', L', rR ru dr sr rd rl, 65, x) ∧ cTo I' L' (oou (rk a p) p (hd + 1)) ∧ fW [4] I I'
  | 0, q, I, L, hq, hA, hO => by
    have hp := hw.1
    have : q = p := by omega
    subst this
    exact ⟨I, L, by rw [l136_14, if_pos (by rw [nI_leI (by omega) (by omega)]; omega), nI_add], hO, fW.rf⟩
  | n + 1, q, I, L, hq, hA, hO => by
    have hp := hw.1
    have hrl : rk a p q ≤ p := fb_ct_le _ _
    rw [l136_14, if_neg (by rw [nI_leI (by omega) (by omega)]; omega), s90 (s := 14) (Or.inl rfl) hA hS16 hw (by omega), bI_i, e136_21, show fb_ct (fun o => ahd a o q) p = rk a p q from rfl]
    by_cases z : rk a p q = hd
    · have hle := oo_le (rk a p) (p := p) (h := hd) (q := q) (by omega)
      obtain ⟨I1, L1, e1, h1, f1, g1⟩ := s102 (d := d) (v := lN q) (ru := ru) (dr := dr) (sr := sr) (rd := rd) (rl := rl) (x := x) hO (by omega)
      have eo : oin (rk a p) hd (q + 1) = oin (rk a p) hd q ++ [lN q] := by rw [oin, if_pos z]
      rw [List.append_assoc, ← eo] at h1
      obtain ⟨I2, L2, e2, h2, f2⟩ := l136i hS16 hw hh n (q + 1) I1 L1 (by omega) (f1.st (s := 14) (Or.inl rfl) hA (by decide)) h1
      refine ⟨I2, L2, ?_, h2, f1.tr f2⟩
      rw [if_pos (by rw [z]), nI_l (by omega), e1, bV_n, e136_28, nI_add, e2]
    · have eo : oin (rk a p) hd (q + 1) = oin (rk a p) hd q := by rw [oin, if_neg z]
      rw [← eo] at hO
      obtain ⟨I2, L2, e2, h2, f2⟩ := l136i hS16 hw hh n (q + 1) I L (by omega) hA hO
      refine ⟨I2, L2, ?_, h2, f2⟩
      rw [if_neg (by rw [nI_eq (by omega) (by omega)]; exact z), e136_28, nI_add, e2]
theorem l136 (hS16 : S ≤ 16) (hw : zWf p S T a) : ∀ n hd (I : Nat → Nat → Int32) (L : Nat → Nat → Int64) (w3 : Value), hd + n = p → cSt I 15 p a → cTo I L (oou (rk a p) p hd) → ∃ I' L', res d 136 9 [.ref 1, .int (nI p), .int (nI hd), w3] [] (I, L, rR ru dr sr rd rl, 65, x) = some (some (.int (nI p)), (I', L', rR ru dr sr rd rl, 65, x)) ∧ cTo I' L' (oou (rk a p) p p) ∧ fW [4] I I'
  | 0, hd, I, L, w3, hh, hA, hO => by
    have hp := hw.1
    have : hd = p := by omega
    subst this
    exact ⟨I, L, by rw [l136_9, if_pos (by rw [nI_leI (by omega) (by omega)]; omega)], hO, fW.rf⟩
  | n + 1, hd, I, L, w3, hh, hA, hO => by
    have hp := hw.1
    obtain ⟨I1, L1, e1, h1, f1⟩ := l136i (d := d) (ru := ru) (dr := dr) (sr := sr) (rd := rd) (rl := rl) (x := x) (hd := hd) hS16 hw (by omega) p 0 I L (by omega) hA (by rw [show oin (rk a p) hd 0 = [] from rfl, List.append_nil]; exact hO)
    obtain ⟨I2, L2, e2, h2, f2⟩ := l136 hS16 hw n (hd + 1) I1 L1 (.int (nI p)) (by omega) (f1.st (s := 14) (Or.inl rfl) hA (by decide)) h1
    refine ⟨I2, L2, ?_, h2, f1.tr f2⟩
    rw [l136_9, if_neg (by rw [nI_leI (by omega) (by omega)]; omega), e1, e2]
theorem o136 (h : cInv I L ru dr R S f g p a n t l u kp cl si cs) (hw : wInv R S f g p a T u kp) : ∃ I' L', cal d 136 [.ref 1] (I, L, rR ru dr sr rd rl, 65, x) = some (some (.int (nI p)), (I', L', rR ru dr sr rd rl, 65, x)) ∧ cInv I' L' ru dr R S f g p a n t (oou (rk a p) p p) u kp cl si cs := by
  obtain ⟨hI, hA, hT, hO, hP, hC, hS, hQ, hR⟩ := h
  obtain ⟨hc, hw, hu, hk⟩ := hw
  obtain ⟨I1, e1, h1, f1⟩ := s101 (d := d) (L := L) (ru := ru) (dr := dr) (sr := sr) (rd := rd) (rl := rl) (x := x) (I := I)
  have hA1 : cSt I1 15 p a := f1.st (s := 14) (Or.inl rfl) hA (by decide)
  obtain ⟨I2, L2, e2, h2, f2⟩ := l136 (d := d) (ru := ru) (dr := dr) (sr := sr) (rd := rd) (rl := rl) (x := x) hc.S16 hw p 0 I1 L .null (by omega) hA1 h1
  have f3 : fW [4] I I2 := f1.tr f2
  exact ⟨I2, L2, by rw [k136, e1, bV_n, e136_3, s68 (s := 14) (Or.inl rfl) hA1, bI_i, e136_6, e2], ⟨f3.ct hI (by decide), f3.st (Or.inl rfl) hA (by decide), f3.tx hT (by decide), h2, f3.pa hP (by decide), f3.clu hC (by decide), f3.sig hS (by decide), hQ, f3.cs (zRD.q hQ) hR (zRD.nn hQ (by decide))⟩⟩

end
