section
variable {I : Nat → Nat → Int32} {L : Nat → Nat → Int64} {ru dr : Nat} {sr : Nat → Option Nat} {rd : Option Nat} {rl x : Nat}
variable {d R S p n T : Nat} {f g : Nat → Nat} {a : zP} {t : Nat → Nat} {l : List Int64} {u : List zP} {kp : Nat → Option zP} {cl : List (Nat × Nat)} {si : List (Nat × Int32)} {cs : zC}

theorem lN_tI {n : Nat} (h : n < 2 ^ 63) : (lN n).toInt = (n : Int) := lg_ofNat_toInt (by omega)
theorem lN_div {a b : Nat} (ha : a < 2 ^ 63) (hb : b < 2 ^ 63) : lN a / lN b = lN (a / b) := by
  have h1 : a / b < 2 ^ 63 := Nat.lt_of_le_of_lt (Nat.div_le_self _ _) ha
  refine Int64.toInt_inj.mp ?_
  rw [Int64.toInt_div_of_ne_right _ _ (fun q => by
    have := congrArg Int64.toInt q
    rw [lN_tI hb] at this
    have h2 : (-1 : Int64).toInt = -1 := by decide
    omega), lN_tI ha, lN_tI hb, lN_tI h1, Int.ofNat_tdiv]
theorem lN_rem {a b : Nat} (ha : a < 2 ^ 63) (hb : b < 2 ^ 63) : lN a - lN a / lN b * lN b = lN (a % b) := by
  have h := Nat.div_add_mod a b
  rw [Nat.mul_comm] at h
  rw [lN_div ha hb, lN_mul, lN_sub (by omega)]
  congr 1
  omega
theorem lN_z {a : Nat} (ha : a < 2 ^ 63) : lN a = 0 ↔ a = 0 := fb_lN_inj ha (by decide)
theorem l170 {b m : Nat} (hb : b < 2 ^ 31) (hm : m < 1000) : ∀ n i, i + n = m → res d 170 4 [.int (nI b), .int (nI m), .long (lN (b ^ i)), .null, .int (nI i)] [] (I, L, rR ru dr sr rd rl, 65, x) = some (some (.long (lN (b ^ m))), (I, L, rR ru dr sr rd rl, 65, x))
  | 0, i, h => by rw [l170_4, if_pos (by rw [nI_leI (by omega) (by omega)]; omega), show i = m by omega]
  | n + 1, i, h => by
    rw [l170_4, if_neg (by rw [nI_leI (by omega) (by omega)]; omega), nI_l hb, lN_mul, nI_add, ← Nat.pow_succ]
    exact l170 hb hm n (i + 1) (by omega)
theorem s170 {b m : Nat} (hb : b < 2 ^ 31) (hm : m < 1000) : cal d 170 [.int (nI b), .int (nI m)] (I, L, rR ru dr sr rd rl, 65, x) = some (some (.long (lN (b ^ m))), (I, L, rR ru dr sr rd rl, 65, x)) := by
  rw [k170]
  exact l170 hb hm m 0 (by omega)
/-- Euclid's rests end -/
def eu : Nat → Nat → Nat → Prop
  | 0, _, r => r = 0
  | j + 1, d, r => r = 0 ∨ eu j r (d % r)
theorem eu_0 : ∀ j d, eu j d 0
  | 0, _ => rfl
  | _ + 1, _ => Or.inl rfl
theorem eu_ok : ∀ e j d r, r < 2 ^ e → 2 * e ≤ j → eu j d r
  | 0, j, d, r, hr, _ => by
    rw [show r = 0 by rw [Nat.pow_zero] at hr; omega]
    exact eu_0 j d
  | e + 1, j, d, r, hr, hj => by
    obtain ⟨i, rfl⟩ : ∃ i, j = i + 2 := ⟨j - 2, by omega⟩
    by_cases z : r = 0
    · rw [z]; exact eu_0 _ _
    · refine Or.inr ?_
      by_cases y : d % r = 0
      · rw [y]; exact eu_0 _ _
      · refine Or.inr (eu_ok e i _ _ ?_ (by omega))
        have h1 : d % r < r := Nat.mod_lt _ (by omega)
        have h2 : r % (d % r) < d % r := Nat.mod_lt _ (by omega)
        have h3 := Nat.div_add_mod r (d % r)
        have h4 : 1 ≤ r / (d % r) := (Nat.one_le_div_iff (by omega)).mpr (by omega)
        have h5 : d % r ≤ d % r * (r / (d % r)) := Nat.le_mul_of_pos_right _ h4
        rw [Nat.pow_succ] at hr
        omega
theorem l171 {v1 v3 : Int64} : ∀ j i dd r (w10 w11 : Value), i + j = 100 → eu j dd r → dd < 2 ^ 63 → r < 2 ^ 63 → ∃ i' w10' w11', res d 171 6 [.ref 1, .long v1, .null, .long v3, .null, .long (lN dd), .null, .long (lN r), .null, .int (nI i), w10, w11] [] (I, L, rR ru dr sr rd rl, 65, x) = res d 171 23 [.ref 1, .long v1, .null, .long v3, .null, .long (lN (Nat.gcd dd r)), .null, .long (lN 0), .null, .int i', w10', w11'] [] (I, L, rR ru dr sr rd rl, 65, x)
  | 0, i, dd, r, w10, w11, hi, he, hd, hr => by
    have he : r = 0 := he
    subst he
    exact ⟨_, _, _, by rw [l171_6, if_pos (by rw [nI_leI (by omega) (by omega)]; omega), Nat.gcd_zero_right]⟩
  | j + 1, i, dd, r, w10, w11, hi, he, hd, hr => by
    by_cases z : r = 0
    · subst z
      exact ⟨_, _, _, by rw [l171_6, if_neg (by rw [nI_leI (by omega) (by omega)]; omega), if_pos ((lg_cmp_eq _ _).mpr rfl), Nat.gcd_zero_right]⟩
    · have hm : dd % r < 2 ^ 63 := Nat.lt_of_le_of_lt (Nat.mod_le _ _) hd
      obtain ⟨i2, w2, w3, e2⟩ := l171 (v1 := v1) (v3 := v3) j (i + 1) r (dd % r) (.long (lN (dd % r))) .null (by omega) (he.resolve_left z) hr hm
      refine ⟨i2, w2, w3, ?_⟩
      rw [l171_6, if_neg (by rw [nI_leI (by omega) (by omega)]; omega), if_neg (fun q => z ((fb_lN_inj hr (by decide)).mp ((lg_cmp_eq _ _).mp q))), if_neg (fun q => z ((lN_z hr).mp q)), lN_rem hd hr, nI_add, e2, Nat.gcd_comm r (dd % r), ← Nat.gcd_rec, Nat.gcd_comm r dd]
def frc (u w : Nat) : List Int64 := [lN (u / Nat.gcd w u), lN (w / Nat.gcd w u)]
theorem s171 {u' w' : Nat} (hu : u' < 2 ^ 40) (hw' : w' < 2 ^ 40) (h0 : 0 < w') : ∃ I' L', cal d 171 [.ref 1, .long (lN u'), .long (lN w')] (I, L, rR ru dr sr rd rl, 65, x) = some (none, (I', L', rR ru dr sr rd rl, 65, x)) ∧ cTo I' L' (frc u' w') ∧ fW [4] I I' := by
  obtain ⟨i1, w1, w2, e1⟩ := l171 (d := d) (L := L) (ru := ru) (dr := dr) (sr := sr) (rd := rd) (rl := rl) (x := x) (I := I) (v1 := lN u') (v3 := lN w') 100 0 w' u' .null .null (by omega) (eu_ok 40 100 _ _ hu (by omega)) (by omega) (by omega)
  have hg : 0 < Nat.gcd w' u' := Nat.gcd_pos_of_pos_left _ h0
  have hgl : Nat.gcd w' u' < 2 ^ 63 := Nat.lt_of_le_of_lt (Nat.le_of_dvd h0 (Nat.gcd_dvd_left _ _)) (by omega)
  have hz : lN (Nat.gcd w' u') ≠ 0 := fun q => by rw [lN_z hgl] at q; omega
  have hc : ¬ lg_cmp (lN (Nat.gcd w' u')) (lN 0) = 0 := fun q => hz ((lg_cmp_eq _ _).mp q)
  obtain ⟨I3, e3, h3, f3⟩ := s101 (d := d) (L := L) (ru := ru) (dr := dr) (sr := sr) (rd := rd) (rl := rl) (x := x) (I := I)
  obtain ⟨I4, L4, e4, h4, f4, g4⟩ := s102 (d := d) (v := lN (u' / Nat.gcd w' u')) (ru := ru) (dr := dr) (sr := sr) (rd := rd) (rl := rl) (x := x) h3 (by decide)
  obtain ⟨I5, L5, e5, h5, f5, g5⟩ := s102 (d := d) (v := lN (w' / Nat.gcd w' u')) (ru := ru) (dr := dr) (sr := sr) (rd := rd) (rl := rl) (x := x) h4 (show 1 < 8 by decide)
  refine ⟨I5, L5, ?_, h5, f3.tr (f4.tr f5)⟩
  rw [k171, e1, e171_23, e3, bV_n, e171_26, if_neg hc, if_neg hz, lN_div (by omega) hgl, e171_37, e4, bV_n, e171_38, if_neg hc, if_neg hz, lN_div (by omega) hgl, e171_49, e5, bV_n, e171_50]
/-! luck -/
def lkS (R S : Nat) (f : Nat → Nat) (q : Nat) (a : zP) : Nat → zP
  | 0 => a
  | i + 1 => if rgt R S f (lkS R S f q a i) q = true then goR S (lkS R S f q a i) q else lkS R S f q a i
def lkO (R S : Nat) (f : Nat → Nat) (q : Nat) (a : zP) : Nat → Bool
  | 0 => true
  | i + 1 => lkO R S f q a i && rgt R S f (lkS R S f q a i) q
theorem lkS_wf (hc : zCt R S f g) (hw : zWf p S T a) {q : Nat} (hq : q < p) : ∀ i, zWf p S T (lkS R S f q a i)
  | 0 => hw
  | i + 1 => by
    unfold lkS
    split
    · exact goR_wf hc (lkS_wf hc hw hq i) hq
    · exact lkS_wf hc hw hq i
def lkU (R S : Nat) (f : Nat → Nat) (q : Nat) (a : zP) (P i : Nat) : Nat := if lkO R S f q a i = true then P ^ i else 0
theorem lkU_le (R S : Nat) (f : Nat → Nat) (q : Nat) (a : zP) {P i : Nat} (hP : P ≤ 10) (hi : i ≤ 8) : lkU R S f q a P i ≤ 10 ^ 8 := by
  unfold lkU
  split
  · exact Nat.le_trans (Nat.pow_le_pow_left hP i) (Nat.pow_le_pow_right (by decide) hi)
  · exact Nat.zero_le _
theorem l145 {q k P : Nat} (hc : zCt R S f g) (hw : zWf p S T a) (hq : q < p) (hk : k ≤ 8) (hP : P ≤ 10) : ∀ j i (I : Nat → Nat → Int32), i + j = k → cCt I R S f g → cSt I 17 p (lkS R S f q a i) → ∃ I', res d 145 26 [.ref 1, .int (nI q), .int (nI k), .int (nI P), .long (lN (lkU R S f q a P i)), .null, .int (nI i)] [] (I, L, rR ru dr sr rd rl, 65, x) = res d 145 26 [.ref 1, .int (nI q), .int (nI k), .int (nI P), .long (lN (lkU R S f q a P k)), .null, .int (nI k)] [] (I', L, rR ru dr sr rd rl, 65, x) ∧ fW [17] I I'
  | 0, i, I, hi, hI, hB => by
    have : i = k := by omega
    subst this
    exact ⟨I, rfl, fW.rf⟩
  | j + 1, i, I, hi, hI, hB => by
    obtain ⟨I1, e1, h1, f1'⟩ := s87 (d := d) (L := L) (ru := ru) (dr := dr) (sr := sr) (rd := rd) (rl := rl) (x := x) (s := 16) hc hI (Or.inr (Or.inl rfl)) hB (lkS_wf hc hw hq i) (q := q) hq
    have f1 : fW [17] I I1 := f1'.W (Or.inr (Or.inl rfl)) (by decide)
    obtain ⟨I2, e2, f2⟩ := l145 hc hw hq hk hP j (i + 1) I1 (by omega) (f1.ct hI (by decide)) h1
    refine ⟨I2, ?_, f1.tr f2⟩
    rw [← e2, l145_26, if_neg (by rw [nI_leI (by omega) (by omega)]; omega), e1, bI_i, e145_33]
    unfold lkU
    rw [lkO]
    cases z : rgt R S f (lkS R S f q a i) q with
    | false =>
      rw [if_pos (show nI (if false = true then 1 else 0) = 0 from rfl), Bool.and_false, if_neg Bool.false_ne_true, nI_add]
    | true =>
      rw [if_neg (show ¬ nI (if true = true then 1 else 0) = 0 by decide), Bool.and_true, nI_l (by omega), lN_mul, nI_add]
      cases lkO R S f q a i with
      | true => rw [if_pos rfl, if_pos rfl, Nat.pow_succ]
      | false => rw [if_neg Bool.false_ne_true, if_neg Bool.false_ne_true, Nat.zero_mul]
def lcA (R S : Nat) (f : Nat → Nat) (p : Nat) (a : zP) (v w y : Int32) : Int32 × Option (List Int64) := match inr p v, inr 9 w, inr 11 y with
  | some q, some k, some P => (nI 0, some (frc (lkU R S f q a P k) (10 ^ k)))
  | _, _, _ => (-(nI 1), none)
theorem o145 {v w y : Int32} (h : cInv I L ru dr R S f g p a n t l u kp cl si cs) (hw : wInv R S f g p a T u kp) : ∃ I' L', cal d 145 [.ref 1, .int v, .int w, .int y] (I, L, rR ru dr sr rd rl, 65, x) = some (some (.int (lcA R S f p a v w y).1), (I', L', rR ru dr sr rd rl, 65, x)) ∧ cInv I' L' ru dr R S f g p a n t ((lcA R S f p a v w y).2.getD l) u kp cl si cs := by
  have h0 := h
  obtain ⟨hI, hA, hT, hO, hP, hC, hS, hQ, hR⟩ := h
  obtain ⟨hc, hw, hu, hk⟩ := hw
  have hp := hw.1
  unfold lcA
  cases z1 : inr p v with
  | none =>
    refine ⟨I, L, ?_, h0⟩
    rw [k145, s71f (s := 14) (Or.inl rfl) hA hp (inr_n (by omega) z1), bI_i, e145_4, if_pos (show nI 0 = 0 from rfl)]
  | some q =>
    obtain ⟨hq, rfl⟩ := inr_s (by omega) z1
    rw [k145, s71t (s := 14) (Or.inl rfl) hA hp hq, bI_i, e145_4, if_neg (by decide)]
    cases z2 : inr 9 w with
    | none =>
      refine ⟨I, L, ?_, h0⟩
      have hn := inr_n (by omega) z2
      by_cases y1 : w < 0
      · rw [if_pos y1]
      · obtain ⟨j, hj, rfl⟩ := nI_of y1
        rw [if_neg y1, if_pos (by rw [nI_ltI (by omega) hj]; exact Nat.lt_of_not_le fun e => hn j (by omega) rfl)]
    | some k =>
      obtain ⟨hk', rfl⟩ := inr_s (by omega) z2
      rw [if_neg (nI_pos (by omega)), if_neg (by rw [nI_ltI (by omega) (by omega)]; omega)]
      cases z3 : inr 11 y with
      | none =>
        refine ⟨I, L, ?_, h0⟩
        have hn := inr_n (by omega) z3
        by_cases y1 : y < 0
        · rw [if_pos y1]
        · obtain ⟨j, hj, rfl⟩ := nI_of y1
          rw [if_neg y1, if_neg (by rw [nI_leI hj (by omega)]; exact fun e => hn j (by omega) rfl)]
      | some P =>
        obtain ⟨hPP, rfl⟩ := inr_s (by omega) z3
        obtain ⟨I1, e1, h1, f1⟩ := s65 (d := d) (L := L) (ru := ru) (dr := dr) (sr := sr) (rd := rd) (rl := rl) (x := x) (s0 := 16) (s := 14) (Or.inr (Or.inl rfl)) (Or.inl rfl) hA
        obtain ⟨I2, e2, f2⟩ := l145 (d := d) (L := L) (ru := ru) (dr := dr) (sr := sr) (rd := rd) (rl := rl) (x := x) (P := P) (k := k) hc hw hq (by omega) (by omega) k 0 I1 (by omega) (f1.ct hI (by decide)) h1
        have hU := lkU_le R S f q a (P := P) (i := k) (by omega) (by omega)
        have h10 : 10 ^ k ≤ 10 ^ 8 := Nat.pow_le_pow_right (by decide) (by omega)
        obtain ⟨I3, L3, e3, h3, f3⟩ := s171 (d := d) (L := L) (ru := ru) (dr := dr) (sr := sr) (rd := rd) (rl := rl) (x := x) (I := I2) (u' := lkU R S f q a P k) (w' := 10 ^ k) (by omega) (by omega) (Nat.pow_pos (by decide))
        have f4 : fW [4, 17] I I3 := ((f1.tr f2).mono (by decide)).tr (f3.mono (by decide))
        rw [show lkU R S f q a P 0 = 1 from rfl] at e2
        rw [if_neg (nI_pos (by omega)), if_pos (by rw [nI_leI (by omega) (by omega)]; omega), e1, bV_n, e145_22, e2, l145_26, if_pos (by rw [nI_leI (by omega) (by omega)]; omega), s170 (by omega) (by omega), bL_l, e145_48, e3, bV_n, e145_49]
        exact ⟨I3, L3, rfl, ⟨f4.ct hI (by decide), f4.st (Or.inl rfl) hA (by decide), f4.tx hT (by decide), h3, f4.pa hP (by decide), f4.clu hC (by decide), f4.sig hS (by decide), hQ, f4.cs (zRD.q hQ) hR (zRD.nn hQ (by decide))⟩⟩
/-! hits -/
def cho (b : Nat) : Nat → Nat
  | 0 => 1
  | i + 1 => cho b i * (b + (i + 1)) / (i + 1)
theorem cho_le : ∀ b, b ≤ 8 → ∀ i, i ≤ 8 - b → cho b i ≤ 70 := by decide +kernel
def htU (k m P : Nat) : Nat := cho (k - m) m * P ^ m * (10 - P) ^ (k - m)
theorem htU_lt {k m P : Nat} (hk : k ≤ 8) (hm : m ≤ k) (hP : P ≤ 10) : htU k m P < 2 ^ 40 := by
  have h1 := cho_le (k - m) (by omega) m (by omega)
  have h2 : P ^ m ≤ 10 ^ m := Nat.pow_le_pow_left hP m
  have h3 : (10 - P) ^ (k - m) ≤ 10 ^ (k - m) := Nat.pow_le_pow_left (by omega) _
  have h4 : P ^ m * (10 - P) ^ (k - m) ≤ 10 ^ m * 10 ^ (k - m) := Nat.mul_le_mul h2 h3
  rw [← Nat.pow_add, show m + (k - m) = k by omega] at h4
  have h5 : 10 ^ k ≤ 10 ^ 8 := Nat.pow_le_pow_right (by decide) hk
  unfold htU
  rw [Nat.mul_assoc]
  have h6 : cho (k - m) m * (P ^ m * (10 - P) ^ (k - m)) ≤ 70 * 10 ^ 8 := Nat.mul_le_mul h1 (Nat.le_trans h4 h5)
  omega
theorem l146 {k m P : Nat} (hk : k ≤ 8) (hm : m ≤ k) : ∀ j i, i + j = m → res d 146 21 [.ref 1, .int (nI k), .int (nI m), .int (nI P), .long (lN (cho (k - m) i)), .null, .int (nI (i + 1))] [] (I, L, rR ru dr sr rd rl, 65, x) = bL (cal d 170 [.int (nI P), .int (nI m)] (I, L, rR ru dr sr rd rl, 65, x)) fun r1 h1 => res d 146 43 [.ref 1, .int (nI k), .int (nI m), .int (nI P), .long (lN (cho (k - m) m)), .null, .int (nI (m + 1))] [.long r1, .long (lN (cho (k - m) m)), .ref 1] h1
  | 0, i, hi => by rw [l146_21, if_pos (by rw [nI_ltI (by omega) (by omega)]; omega), show i = m by omega]
  | j + 1, i, hi => by
    have h1 := cho_le (k - m) (by omega) i (by omega)
    have h2 : cho (k - m) i * (k - m + (i + 1)) ≤ 70 * 8 := Nat.mul_le_mul h1 (by omega)
    rw [l146_21, if_neg (by rw [nI_ltI (by omega) (by omega)]; omega), nI_l (by omega), if_neg (fun q => by rw [lN_z (by omega)] at q; omega), zsub (by omega), nI_add, nI_l (by omega), lN_mul, lN_div (by omega) (by omega), nI_add]
    exact l146 hk hm j (i + 1) (by omega)
def htA (v w y : Int32) : Int32 × Option (List Int64) := match inr 9 v with
  | some k => (match inr (k + 1) w, inr 11 y with
    | some m, some P => (nI 0, some (frc (htU k m P) (10 ^ k)))
    | _, _ => (-(nI 1), none))
  | none => (-(nI 1), none)
theorem o146 {v w y : Int32} (h : cInv I L ru dr R S f g p a n t l u kp cl si cs) (hw : wInv R S f g p a T u kp) : ∃ I' L', cal d 146 [.ref 1, .int v, .int w, .int y] (I, L, rR ru dr sr rd rl, 65, x) = some (some (.int (htA v w y).1), (I', L', rR ru dr sr rd rl, 65, x)) ∧ cInv I' L' ru dr R S f g p a n t ((htA v w y).2.getD l) u kp cl si cs := by
  have h0 := h
  obtain ⟨hI, hA, hT, hO, hP, hC, hS, hQ, hR⟩ := h
  obtain ⟨hc, hw, hu, hk⟩ := hw
  unfold htA
  rw [k146]
  cases z1 : inr 9 v with
  | none =>
    refine ⟨I, L, ?_, h0⟩
    have hn := inr_n (by omega) z1
    by_cases y1 : v < 0
    · rw [if_pos y1]
    · obtain ⟨j, hj, rfl⟩ := nI_of y1
      rw [if_neg y1, if_pos (by rw [nI_ltI (by omega) hj]; exact Nat.lt_of_not_le fun e => hn j (by omega) rfl)]
  | some k =>
    obtain ⟨hk', rfl⟩ := inr_s (by omega) z1
    rw [if_neg (nI_pos (by omega)), if_neg (by rw [nI_ltI (by omega) (by omega)]; omega)]
    dsimp only
    cases z2 : inr (k + 1) w with
    | none =>
      refine ⟨I, L, ?_, h0⟩
      have hn := inr_n (by omega) z2
      by_cases y1 : w < 0
      · rw [if_pos y1]
      · obtain ⟨j, hj, rfl⟩ := nI_of y1
        rw [if_neg y1, if_pos (by rw [nI_ltI (by omega) hj]; exact Nat.lt_of_not_le fun e => hn j (by omega) rfl)]
    | some m =>
      obtain ⟨hm, rfl⟩ := inr_s (by omega) z2
      rw [if_neg (nI_pos (by omega)), if_neg (by rw [nI_ltI (by omega) (by omega)]; omega)]
      cases z3 : inr 11 y with
      | none =>
        refine ⟨I, L, ?_, h0⟩
        have hn := inr_n (by omega) z3
        by_cases y1 : y < 0
        · rw [if_pos y1]
        · obtain ⟨j, hj, rfl⟩ := nI_of y1
          rw [if_neg y1, if_neg (by rw [nI_leI hj (by omega)]; exact fun e => hn j (by omega) rfl)]
      | some P =>
        obtain ⟨hPP, rfl⟩ := inr_s (by omega) z3
        have h10 : 10 ^ k ≤ 10 ^ 8 := Nat.pow_le_pow_right (by decide) (by omega)
        have e1 := l146 (d := d) (L := L) (ru := ru) (dr := dr) (sr := sr) (rd := rd) (rl := rl) (x := x) (I := I) (k := k) (m := m) (P := P) (by omega) (by omega) m 0 (by omega)
        rw [show cho (k - m) 0 = 1 from rfl] at e1
        have hlt := htU_lt (k := k) (m := m) (P := P) (by omega) (by omega) (by omega)
        obtain ⟨I3, L3, e3, h3, f3⟩ := s171 (d := d) (L := L) (ru := ru) (dr := dr) (sr := sr) (rd := rd) (rl := rl) (x := x) (I := I) (u' := htU k m P) (w' := 10 ^ k) hlt (by omega) (Nat.pow_pos (by decide))
        rw [if_neg (nI_pos (by omega)), if_pos (by rw [nI_leI (by omega) (by omega)]; omega), e1, s170 (by omega) (by omega), bL_l, e146_43, lN_mul, zsub (by omega), zsub (by omega), s170 (by omega) (by omega), bL_l, e146_51, lN_mul, s170 (by omega) (by omega), bL_l, e146_55, show cho (k - m) m * P ^ m * (10 - P) ^ (k - m) = htU k m P from rfl, e3, bV_n, e146_56]
        exact ⟨I3, L3, rfl, ⟨f3.ct hI (by decide), f3.st (Or.inl rfl) hA (by decide), f3.tx hT (by decide), h3, f3.pa hP (by decide), f3.clu hC (by decide), f3.sig hS (by decide), hQ, f3.cs (zRD.q hQ) hR (zRD.nn hQ (by decide))⟩⟩
/-! rests -/
def chW (x y v : Nat) : Int32 := nI 3 * nI x - (if x + y ≤ v then nI 0 else nI 2 * nI y) + (if y ≤ x then nI 0 else nI 1)
theorem s173 {x' y v : Nat} (hx : x' < 100) (hy : y < 100) (hv : v < 100) : cal d 173 [.int (nI x'), .int (nI y), .int (nI v)] (I, L, rR ru dr sr rd rl, 65, x) = some (some (.int (chW x' y v)), (I, L, rR ru dr sr rd rl, 65, x)) := by
  unfold chW
  rw [k173, nI_add]
  by_cases z : x' + y ≤ v
  · rw [if_pos (by rw [nI_leI (by omega) (by omega)]; exact z), if_pos z, e173_10]
    by_cases w : y ≤ x'
    · rw [if_pos (by rw [nI_leI (by omega) (by omega)]; exact w), if_pos w]
    · rw [if_neg (by rw [nI_leI (by omega) (by omega)]; exact w), if_neg w]
  · rw [if_neg (by rw [nI_leI (by omega) (by omega)]; exact z), if_neg z, e173_10]
    by_cases w : y ≤ x'
    · rw [if_pos (by rw [nI_leI (by omega) (by omega)]; exact w), if_pos w]
    · rw [if_neg (by rw [nI_leI (by omega) (by omega)]; exact w), if_neg w]
def alb (P : Nat → Bool) : Nat → Nat → Bool
  | 0, _ => true
  | n + 1, k => P k && alb P n (k + 1)
def bch (v x y : Nat) : Bool := alb (fun z => decide (chW z y v ≤ chW x y v)) 10 0
theorem l174 {x' y v : Nat} (hx : x' < 100) (hy : y < 100) (hv : v < 100) : ∀ n k, k + n = 10 → res d 174 7 [.int (nI x'), .int (nI y), .int (nI v), .int (chW x' y v), .int (nI k)] [] (I, L, rR ru dr sr rd rl, 65, x) = some (some (.int (nI (if alb (fun z => decide (chW z y v ≤ chW x' y v)) n k = true then 1 else 0))), (I, L, rR ru dr sr rd rl, 65, x))
  | 0, k, h => by rw [l174_7, if_pos (by rw [nI_ltI (by omega) (by omega)]; omega), if_pos zb1]; rfl
  | n + 1, k, h => by
    have ih := l174 hx hy hv n (k + 1) (by omega)
    rw [l174_7, if_neg (by rw [nI_ltI (by omega) (by omega)]; omega), s173 (by omega) hy hv, bI_i, e174_14]
    unfold alb
    by_cases z : chW k y v ≤ chW x' y v
    · rw [if_pos z, decide_eq_true z, Bool.true_and, nI_add]; exact ih
    · rw [if_neg z, decide_eq_false z, Bool.false_and, if_pos zb0, if_neg Bool.false_ne_true]
theorem s174 {x' y v : Nat} (hx : x' < 100) (hy : y < 100) (hv : v < 100) : cal d 174 [.int (nI x'), .int (nI y), .int (nI v)] (I, L, rR ru dr sr rd rl, 65, x) = some (some (.int (nI (if bch v x' y = true then 1 else 0))), (I, L, rR ru dr sr rd rl, 65, x)) := by
  rw [k174, s173 hx hy hv, bI_i, e174_4]
  exact l174 hx hy hv 10 0 (by omega)
def rsP (v k : Nat) : Bool := bch v (k / 10) (k % 10) && bch v (k % 10) (k / 10)
theorem l148i {v b : Nat} (hv : v ≤ 18) (hb : b < 10) : ∀ j c (I : Nat → Nat → Int32) (L : Nat → Nat → Int64), c + j = 10 → cTo I L (gtl (rsP v) (fun k => k / 10) (fun k => k % 10) (10 * b + c)) → ∃ I' L', res d 148 19 [.ref 1, .int (nI v), .int (nI (fb_ct (rsP v) (10 * b + c))), .int (nI b), .int (nI c)] [] (I, L, rR ru dr sr rd rl, 65, x) = res d 148 14 [.ref 1, .int (nI v), .int (nI (fb_ct (rsP v) (10 * (b + 1)))), .int (nI (b + 1)), .int (nI 10)] [] (I', L', rR ru dr sr rd rl, 65, x) ∧ cTo I' L' (gtl (rsP v) (fun k => k / 10) (fun k => k % 10) (10 * (b + 1))) ∧ fW [4] I I'
  | 0, c, I, L, hc, hO => by
    have : c = 10 := by omega
    subst this
    exact ⟨I, L, by rw [l148_19, if_pos (by decide), nI_add, show 10 * (b + 1) = 10 * b + 10 by omega], by rw [show 10 * (b + 1) = 10 * b + 10 by omega]; exact hO, fW.rf⟩
  | j + 1, c, I, L, hc, hO => by
    have hct := fb_ct_le (rsP v) (10 * b + c)
    have e7 : (10 * b + c) / 10 = b := by omega
    have e8 : (10 * b + c) % 10 = c := by omega
    have eP : rsP v (10 * b + c) = (bch v b c && bch v c b) := by unfold rsP; rw [e7, e8]
    have ec : fb_ct (rsP v) (10 * b + (c + 1)) = fb_ct (rsP v) (10 * b + c) + if rsP v (10 * b + c) = true then 1 else 0 := rfl
    have eg : gtl (rsP v) (fun k => k / 10) (fun k => k % 10) (10 * b + (c + 1)) = if rsP v (10 * b + c) = true ∧ fb_ct (rsP v) (10 * b + c) = 0 then [lN ((10 * b + c) / 10), lN ((10 * b + c) % 10)] else gtl (rsP v) (fun k => k / 10) (fun k => k % 10) (10 * b + c) := rfl
    rw [e7, e8] at eg
    have hno : rsP v (10 * b + c) = false → ∃ I' L', res d 148 19 [.ref 1, .int (nI v), .int (nI (fb_ct (rsP v) (10 * b + c))), .int (nI b), .int (nI (c + 1))] [] (I, L, rR ru dr sr rd rl, 65, x) = res d 148 14 [.ref 1, .int (nI v), .int (nI (fb_ct (rsP v) (10 * (b + 1)))), .int (nI (b + 1)), .int (nI 10)] [] (I', L', rR ru dr sr rd rl, 65, x) ∧ cTo I' L' (gtl (rsP v) (fun k => k / 10) (fun k => k % 10) (10 * (b + 1))) ∧ fW [4] I I' := fun z => by
      rw [z, if_neg Bool.false_ne_true] at ec
      rw [z, if_neg (fun q => Bool.false_ne_true q.1)] at eg
      rw [← eg] at hO
      obtain ⟨I2, L2, e2, h2, f2⟩ := l148i hv hb j (c + 1) I L (by omega) hO
      rw [ec] at e2
      exact ⟨I2, L2, e2, h2, f2⟩
    rw [l148_19, if_neg (by rw [nI_ltI (by omega) (by omega)]; omega), s174 (by omega) (by omega) (by omega), bI_i, e148_26]
    cases z : bch v b c with
    | false =>
      rw [if_pos (show nI (if false = true then 1 else 0) = 0 from rfl), nI_add]
      exact hno (by rw [eP, z, Bool.false_and])
    | true =>
      rw [if_neg (show ¬ nI (if true = true then 1 else 0) = 0 by decide), s174 (by omega) (by omega) (by omega), bI_i, e148_31]
      cases z2 : bch v c b with
      | false =>
        rw [if_pos (show nI (if false = true then 1 else 0) = 0 from rfl), nI_add]
        exact hno (by rw [eP, z, z2, Bool.and_false])
      | true =>
        have hP : rsP v (10 * b + c) = true := by rw [eP, z, z2]; rfl
        rw [hP, if_pos rfl] at ec
        rw [if_neg (show ¬ nI (if true = true then 1 else 0) = 0 by decide)]
        by_cases y : fb_ct (rsP v) (10 * b + c) = 0
        · rw [hP, if_pos ⟨rfl, y⟩] at eg
          rw [gtl_nil y] at hO
          obtain ⟨I1, L1, e1, h1, f1, g1⟩ := s102 (d := d) (v := lN b) (ru := ru) (dr := dr) (sr := sr) (rd := rd) (rl := rl) (x := x) hO (by decide)
          obtain ⟨I3, L3, e3, h3, f3, g3⟩ := s102 (d := d) (v := lN c) (ru := ru) (dr := dr) (sr := sr) (rd := rd) (rl := rl) (x := x) h1 (show 1 < 8 by decide)
          have h3' : cTo I3 L3 (gtl (rsP v) (fun k => k / 10) (fun k => k % 10) (10 * b + (c + 1))) := by rw [eg]; exact h3
          obtain ⟨I2, L2, e2, h2, f2⟩ := l148i hv hb j (c + 1) I3 L3 (by omega) h3'
          refine ⟨I2, L2, ?_, h2, f1.tr (f3.tr f2)⟩
          rw [if_pos (by rw [y]; rfl), nI_l (by omega), e1, bV_n, e148_39, nI_l (by omega), e3, bV_n, e148_44, nI_add, nI_add]
          rw [ec] at e2
          exact e2
        · rw [hP, if_neg (fun q => y q.2)] at eg
          rw [← eg] at hO
          obtain ⟨I2, L2, e2, h2, f2⟩ := l148i hv hb j (c + 1) I L (by omega) hO
          refine ⟨I2, L2, ?_, h2, f2⟩
          rw [if_neg (by rw [nI_z (by omega)]; exact y), e148_44, nI_add, nI_add]
          rw [ec] at e2
          exact e2
theorem l148 {v : Nat} (hv : v ≤ 18) : ∀ j b (I : Nat → Nat → Int32) (L : Nat → Nat → Int64) (w4 : Value), b + j = 10 → cTo I L (gtl (rsP v) (fun k => k / 10) (fun k => k % 10) (10 * b)) → ∃ I' L', res d 148 14 [.ref 1, .int (nI v), .int (nI (fb_ct (rsP v) (10 * b))), .int (nI b), w4] [] (I, L, rR ru dr sr rd rl, 65, x) = some (some (.int (nI (fb_ct (rsP v) 100))), (I', L', rR ru dr sr rd rl, 65, x)) ∧ cTo I' L' (gtl (rsP v) (fun k => k / 10) (fun k => k % 10) 100) ∧ fW [4] I I'
  | 0, b, I, L, w4, hb, hO => by
    have : b = 10 := by omega
    subst this
    exact ⟨I, L, by rw [l148_14, if_pos (by decide)], hO, fW.rf⟩
  | j + 1, b, I, L, w4, hb, hO => by
    obtain ⟨I1, L1, e1, h1, f1⟩ := l148i (d := d) (ru := ru) (dr := dr) (sr := sr) (rd := rd) (rl := rl) (x := x) (b := b) hv (by omega) 10 0 I L (by omega) hO
    obtain ⟨I2, L2, e2, h2, f2⟩ := l148 hv j (b + 1) I1 L1 (.int (nI 10)) (by omega) h1
    refine ⟨I2, L2, ?_, h2, f1.tr f2⟩
    rw [Nat.add_zero] at e1
    rw [l148_14, if_neg (by rw [nI_ltI (by omega) (by omega)]; omega), e1, e2]
def rsA (v : Int32) : Int32 × Option (List Int64) := match inr 19 v with
  | some k => (nI (fb_ct (rsP k) 100), some (gtl (rsP k) (fun k => k / 10) (fun k => k % 10) 100))
  | none => (-(nI 1), none)
theorem o148 {v : Int32} (h : cInv I L ru dr R S f g p a n t l u kp cl si cs) (hw : wInv R S f g p a T u kp) : ∃ I' L', cal d 148 [.ref 1, .int v] (I, L, rR ru dr sr rd rl, 65, x) = some (some (.int (rsA v).1), (I', L', rR ru dr sr rd rl, 65, x)) ∧ cInv I' L' ru dr R S f g p a n t ((rsA v).2.getD l) u kp cl si cs := by
  have h0 := h
  obtain ⟨hI, hA, hT, hO, hP, hC, hS, hQ, hR⟩ := h
  obtain ⟨hc, hw, hu, hk⟩ := hw
  unfold rsA
  rw [k148]
  cases z1 : inr 19 v with
  | none =>
    refine ⟨I, L, ?_, h0⟩
    have hn := inr_n (by omega) z1
    by_cases y1 : v < 0
    · rw [if_pos y1]
    · obtain ⟨j, hj, rfl⟩ := nI_of y1
      rw [if_neg y1, if_neg (by rw [nI_leI hj (by omega)]; exact fun e => hn j (by omega) rfl)]
  | some k =>
    obtain ⟨hk', rfl⟩ := inr_s (by omega) z1
    obtain ⟨I1, e1, h1, f1⟩ := s101 (d := d) (L := L) (ru := ru) (dr := dr) (sr := sr) (rd := rd) (rl := rl) (x := x) (I := I)
    obtain ⟨I2, L2, e2, h2, f2⟩ := l148 (d := d) (ru := ru) (dr := dr) (sr := sr) (rd := rd) (rl := rl) (x := x) (v := k) (by omega) 10 0 I1 L .null (by omega) h1
    have f3 : fW [4] I I2 := f1.tr f2
    rw [if_neg (nI_pos (by omega)), if_pos (by rw [nI_leI (by omega) (by omega)]; omega), e1, bV_n, e148_10]
    exact ⟨I2, L2, e2, ⟨f3.ct hI (by decide), f3.st (Or.inl rfl) hA (by decide), f3.tx hT (by decide), h2, f3.pa hP (by decide), f3.clu hC (by decide), f3.sig hS (by decide), hQ, f3.cs (zRD.q hQ) hR (zRD.nn hQ (by decide))⟩⟩

end
