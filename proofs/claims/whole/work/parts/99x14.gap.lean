section
variable {I : Nat → Nat → Int32} {L : Nat → Nat → Int64} {ru dr : Nat} {sr : Nat → Option Nat} {rd : Option Nat} {rl x : Nat}
variable {d R S p n T : Nat} {f g : Nat → Nat} {a : zP} {t : Nat → Nat} {l : List Int64} {u : List zP} {kp : Nat → Option zP} {cl : List (Nat × Nat)} {si : List (Nat × Int32)} {cs : zC}

/-- the longest run of what is so: how long, where it begins (from b on), how long the last one is -/
def lrs (P : Nat → Bool) (b : Nat) : Nat → Nat × Nat × Nat
  | 0 => (0, 0, 0)
  | i + 1 => if (if P i = true then (lrs P b i).2.2 + 1 else 0) ≤ (lrs P b i).1 then ((lrs P b i).1, (lrs P b i).2.1, if P i = true then (lrs P b i).2.2 + 1 else 0) else (if P i = true then (lrs P b i).2.2 + 1 else 0, b + i + 1 - (if P i = true then (lrs P b i).2.2 + 1 else 0), if P i = true then (lrs P b i).2.2 + 1 else 0)
theorem lrs_le (P : Nat → Bool) (b : Nat) : ∀ i, (lrs P b i).1 ≤ i ∧ (lrs P b i).2.2 ≤ i ∧ (lrs P b i).2.1 ≤ b + i
  | 0 => ⟨Nat.le_refl _, Nat.le_refl _, Nat.zero_le _⟩
  | i + 1 => by
    obtain ⟨h1, h2, h3⟩ := lrs_le P b i
    unfold lrs
    by_cases z : P i = true
    · rw [if_pos z]
      split
      · exact ⟨by show (lrs P b i).1 ≤ _; omega, by show (lrs P b i).2.2 + 1 ≤ _; omega, by show (lrs P b i).2.1 ≤ _; omega⟩
      · exact ⟨by show (lrs P b i).2.2 + 1 ≤ _; omega, by show (lrs P b i).2.2 + 1 ≤ _; omega, by show b + i + 1 - _ ≤ _; omega⟩
    · rw [if_neg z]
      split
      · exact ⟨by show (lrs P b i).1 ≤ _; omega, Nat.zero_le _, by show (lrs P b i).2.1 ≤ _; omega⟩
      · exact ⟨Nat.zero_le _, Nat.zero_le _, by show b + i + 1 - _ ≤ _; omega⟩
theorem zfst {i r : Nat} (h : r ≤ i + 1) : nI i - nI r + nI 1 = nI (i + 1 - r) := by
  rw [← zsub h, ← nI_add i 1, Int32.sub_eq_add_neg, Int32.sub_eq_add_neg, Int32.add_assoc, Int32.add_comm (-(nI r)), ← Int32.add_assoc]
theorem l127 {m : Nat} {v1 : Int32} (hc : zCt R S f g) (hI : cCt I R S f g) (hm : m < 65536) : ∀ j i, i + j = R → res d 127 21 [.ref 1, .int v1, .int (nI m), .int (nI (lrs (fun r => !m.testBit r) 0 i).1), .int (nI (lrs (fun r => !m.testBit r) 0 i).2.1), .int (nI (lrs (fun r => !m.testBit r) 0 i).2.2), .int (nI i)] [] (I, L, rR ru dr sr rd rl, 65, x) = bV (cal d 101 [.ref 4] (I, L, rR ru dr sr rd rl, 65, x)) fun h1 => res d 127 54 [.ref 1, .int v1, .int (nI m), .int (nI (lrs (fun r => !m.testBit r) 0 R).1), .int (nI (lrs (fun r => !m.testBit r) 0 R).2.1), .int (nI (lrs (fun r => !m.testBit r) 0 R).2.2), .int (nI R)] [] h1
  | 0, i, hi => by
    have := hc.2.1
    rw [l127_21, s14 hc hI, bI_i, e127_25, if_pos (by rw [nI_leI (by omega) (by omega)]; omega), show i = R by omega]
  | j + 1, i, hi => by
    have hR := hc.2.1
    have ih := l127 (v1 := v1) hc hI hm j (i + 1) (by omega)
    obtain ⟨h1, h2, h3⟩ := lrs_le (fun r => !m.testBit r) 0 i
    rw [l127_21, s14 hc hI, bI_i, e127_25, if_neg (by rw [nI_leI (by omega) (by omega)]; omega)]
    rw [lrs] at ih
    cases z : m.testBit i with
    | false =>
      have hP : (fun r => !m.testBit r) i = true := by show (!m.testBit i) = true; rw [z]; rfl
      rw [if_pos hP] at ih
      rw [if_pos ((zbitz (by omega) (by omega)).mpr z), nI_add, e127_37]
      by_cases y : (lrs (fun r => !m.testBit r) 0 i).2.2 + 1 ≤ (lrs (fun r => !m.testBit r) 0 i).1
      · rw [if_pos y] at ih
        rw [if_pos (by rw [nI_leI (by omega) (by omega)]; exact y), nI_add]
        exact ih
      · rw [if_neg y] at ih
        rw [if_neg (by rw [nI_leI (by omega) (by omega)]; exact y), zfst (by omega), nI_add]
        dsimp only at ih
        rw [Nat.zero_add] at ih
        exact ih
    | true =>
      have hP : ¬ (fun r => !m.testBit r) i = true := by show ¬ (!m.testBit i) = true; rw [z]; decide
      rw [if_neg hP, if_pos (Nat.zero_le _)] at ih
      rw [if_neg (by rw [zbitz (by omega) (by omega), z]; decide), e127_37, if_pos (by rw [nI_leI (by omega) (by omega)]; omega), nI_add]
      exact ih
def gpA (R S : Nat) (f : Nat → Nat) (p : Nat) (a : zP) (v : Int32) : Int32 × Option (List Int64) := match inr p v with
  | some q => (nI (lrs (fun r => !(rws f (zdif (2 ^ S - 1) (oth a q ||| 0)) R).testBit r) 0 R).1, some (if 0 < (lrs (fun r => !(rws f (zdif (2 ^ S - 1) (oth a q ||| 0)) R).testBit r) 0 R).1 then [lN (lrs (fun r => !(rws f (zdif (2 ^ S - 1) (oth a q ||| 0)) R).testBit r) 0 R).2.1] else []))
  | none => (-(nI 1), none)
theorem o127 {v : Int32} (h : cInv I L ru dr R S f g p a n t l u kp cl si cs) (hw : wInv R S f g p a T u kp) : ∃ I' L', cal d 127 [.ref 1, .int v] (I, L, rR ru dr sr rd rl, 65, x) = some (some (.int (gpA R S f p a v).1), (I', L', rR ru dr sr rd rl, 65, x)) ∧ cInv I' L' ru dr R S f g p a n t ((gpA R S f p a v).2.getD l) u kp cl si cs := by
  have h0 := h
  obtain ⟨hI, hA, hT, hO, hP, hC, hS, hQ, hR⟩ := h
  obtain ⟨hc, hw, hu, hk⟩ := hw
  have hp := hw.1
  have hR8 := hc.2.1
  unfold gpA
  cases z : inr p v with
  | none =>
    refine ⟨I, L, ?_, h0⟩
    rw [k127, s71f (s := 14) (Or.inl rfl) hA hp (inr_n (by omega) z), bI_i, e127_4, if_pos (show nI 0 = 0 from rfl)]
  | some q =>
    obtain ⟨hq, rfl⟩ := inr_s (by omega) z
    have h8 := rws8 hR8 f (zdif (2 ^ S - 1) (oth a q ||| 0))
    obtain ⟨i1, i2, i3⟩ := lrs_le (fun r => !(rws f (zdif (2 ^ S - 1) (oth a q ||| 0)) R).testBit r) 0 R
    have e1 := l127 (d := d) (L := L) (ru := ru) (dr := dr) (sr := sr) (rd := rd) (rl := rl) (x := x) (v1 := nI q) (m := (rws f (zdif (2 ^ S - 1) (oth a q ||| 0)) R)) hc hI (by omega) R 0 (by omega)
    obtain ⟨I2, e2, h2, f2⟩ := s101 (d := d) (L := L) (ru := ru) (dr := dr) (sr := sr) (rd := rd) (rl := rl) (x := x) (I := I)
    rw [k127, s71t (s := 14) (Or.inl rfl) hA hp hq, bI_i, e127_4, if_neg (by decide), s81 (s := 14) hc hI (Or.inl rfl) hA (by omega), bI_i, e127_12]
    rw [show (lrs (fun r => !(rws f (zdif (2 ^ S - 1) (oth a q ||| 0)) R).testBit r) 0 0) = (0, 0, 0) from rfl] at e1
    rw [e1, e2, bV_n, e127_54]
    dsimp only
    by_cases y : 0 < (lrs (fun r => !(rws f (zdif (2 ^ S - 1) (oth a q ||| 0)) R).testBit r) 0 R).1
    · obtain ⟨I3, L3, e3, h3, f3, g3⟩ := s102 (d := d) (v := lN (lrs (fun r => !(rws f (zdif (2 ^ S - 1) (oth a q ||| 0)) R).testBit r) 0 R).2.1) (ru := ru) (dr := dr) (sr := sr) (rd := rd) (rl := rl) (x := x) h2 (by decide)
      have f4 : fW [4] I I3 := f2.tr f3
      rw [if_neg (by rw [nI_l0 (by omega)]; omega), nI_l (by omega), e3, bV_n, e127_61, if_pos y]
      exact ⟨I3, L3, rfl, ⟨f4.ct hI (by decide), f4.st (Or.inl rfl) hA (by decide), f4.tx hT (by decide), h3, f4.pa hP (by decide), f4.clu hC (by decide), f4.sig hS (by decide), hQ, f4.cs (zRD.q hQ) hR (zRD.nn hQ (by decide))⟩⟩
    · rw [if_pos (by rw [nI_l0 (by omega)]; omega), e127_61, if_neg y]
      exact ⟨I2, L, rfl, ⟨f2.ct hI (by decide), f2.st (Or.inl rfl) hA (by decide), f2.tx hT (by decide), h2, f2.pa hP (by decide), f2.clu hC (by decide), f2.sig hS (by decide), hQ, f2.cs (zRD.q hQ) hR (zRD.nn hQ (by decide))⟩⟩
/-! gates -/
def gts (R S : Nat) (f : Nat → Nat) (a : zP) (q n : Nat) : Nat := orl (fun s => if (oth a 4).testBit s = false ∧ can R S f a q (2 ^ s) (a (4 + q)) = false then 2 ^ s else 0) n
theorem gts_lt (R S : Nat) (f : Nat → Nat) (a : zP) (q n : Nat) : gts R S f a q n < 2 ^ n := orl_lt fun o ho => by
  split
  · exact Nat.pow_lt_pow_right (by decide) ho
  · exact Nat.two_pow_pos n
theorem nob_tb {S s : Nat} (a : zP) (hs : s < S) : (zdif (2 ^ S - 1) (oth a 4)).testBit s = !(oth a 4).testBit s := by
  rw [zdif_tb, Nat.testBit_two_pow_sub_one, decide_eq_true hs, Bool.true_and]
theorem l128 {q : Nat} (hc : zCt R S f g) (hw : zWf p S T a) (hq : q < p) : ∀ j s (I : Nat → Nat → Int32) (w6 : Value), s + j = S → cCt I R S f g → cSt I 15 p a → ∃ I' w', res d 128 21 [.ref 1, .int (nI q), .int (nI (gts R S f a q s)), .int (nI (zdif (2 ^ S - 1) (oth a 4))), .int (nI (a (4 + q))), .int (nI s), w6] [] (I, L, rR ru dr sr rd rl, 65, x) = bI (cal d 168 [.ref 1, .int (nI (gts R S f a q S))] (I', L, rR ru dr sr rd rl, 65, x)) (fun r1 h1 => res d 128 50 [.ref 1, .int (nI q), .int (nI (gts R S f a q S)), .int (nI (zdif (2 ^ S - 1) (oth a 4))), .int (nI (a (4 + q))), .int (nI S), w'] [.int r1] h1) ∧ fP I I'
  | 0, s, I, w6, hs, hI, hA => by
    have := hc.S16
    refine ⟨I, w6, ?_, fP.rf I⟩
    rw [l128_21, s15 hc hI, bI_i, e128_25, if_pos (by rw [nI_leI (by omega) (by omega)]; omega), show s = S by omega]
  | j + 1, s, I, w6, hs, hI, hA => by
    have hS16 := hc.S16
    have hp := hw.1
    have hr := (hw.2.1 q (by omega)).2.1
    have hnl : (zdif (2 ^ S - 1) (oth a 4)) < 2 ^ 31 := Nat.lt_of_le_of_lt (zdif_le _ _) (by have := Nat.pow_le_pow_right (n := 2) (by decide) hS16; omega)
    have eg : gts R S f a q (s + 1) = gts R S f a q s ||| if (oth a 4).testBit s = false ∧ can R S f a q (2 ^ s) (a (4 + q)) = false then 2 ^ s else 0 := rfl
    rw [l128_21, s15 hc hI, bI_i, e128_25, if_neg (by rw [nI_leI (by omega) (by omega)]; omega), zshl1 (by omega)]
    cases z : (oth a 4).testBit s with
    | true =>
      rw [z, if_neg (fun h => by cases h.1), Nat.or_zero] at eg
      obtain ⟨I2, w2, e2, f2⟩ := l128 hc hw hq j (s + 1) I (.int (nI (2 ^ s))) (by omega) hI hA
      refine ⟨I2, w2, ?_, f2⟩
      rw [if_pos (by rw [fa_bit (by omega), nob_tb a (by omega), z]; rfl), nI_add, ← eg]
      exact e2
    | false =>
      obtain ⟨I1, e1, -, f1⟩ := s82 (d := d) (L := L) (ru := ru) (dr := dr) (sr := sr) (rd := rd) (rl := rl) (x := x) (s := 14) hc hI (Or.inl rfl) hA hw (q := q) (m := 2 ^ s) (k := a (4 + q)) (by omega) (by omega)
      obtain ⟨I2, w2, e2, f2⟩ := l128 hc hw hq j (s + 1) I1 (.int (nI (2 ^ s))) (by omega) (f1.ct hI) (f1.st (s := 14) (Or.inl rfl) hA)
      refine ⟨I2, w2, ?_, f1.tr f2⟩
      rw [if_neg (by rw [fa_bit (by omega), nob_tb a (by omega), z]; decide), e1, bI_i, e128_40]
      cases y : can R S f a q (2 ^ s) (a (4 + q)) with
      | true =>
        rw [z, y, if_neg (fun h => by cases h.2), Nat.or_zero] at eg
        rw [if_neg (show ¬ nI (if true = true then 1 else 0) = 0 by decide), nI_add, ← eg]
        exact e2
      | false =>
        rw [z, y, if_pos ⟨rfl, rfl⟩] at eg
        rw [if_pos (show nI (if false = true then 1 else 0) = 0 from rfl), nI_add, fa_or, ← eg]
        exact e2
def gtA (R S : Nat) (f : Nat → Nat) (p : Nat) (a : zP) (v : Int32) : Int32 × Option (List Int64) := match inr p v with
  | some q => (nI (gts R S f a q S), some [lN (pc (gts R S f a q S))])
  | none => (-(nI 1), none)
theorem o128 {v : Int32} (h : cInv I L ru dr R S f g p a n t l u kp cl si cs) (hw : wInv R S f g p a T u kp) : ∃ I' L', cal d 128 [.ref 1, .int v] (I, L, rR ru dr sr rd rl, 65, x) = some (some (.int (gtA R S f p a v).1), (I', L', rR ru dr sr rd rl, 65, x)) ∧ cInv I' L' ru dr R S f g p a n t ((gtA R S f p a v).2.getD l) u kp cl si cs := by
  have h0 := h
  obtain ⟨hI, hA, hT, hO, hP, hC, hS, hQ, hR⟩ := h
  obtain ⟨hc, hw, hu, hk⟩ := hw
  have hp := hw.1
  have hS16 := hc.S16
  unfold gtA
  cases z : inr p v with
  | none =>
    refine ⟨I, L, ?_, h0⟩
    rw [k128, s71f (s := 14) (Or.inl rfl) hA hp (inr_n (by omega) z), bI_i, e128_4, if_pos (show nI 0 = 0 from rfl)]
  | some q =>
    obtain ⟨hq, rfl⟩ := inr_s (by omega) z
    obtain ⟨I1, w1, e1, f1⟩ := l128 (d := d) (L := L) (ru := ru) (dr := dr) (sr := sr) (rd := rd) (rl := rl) (x := x) hc hw hq S 0 I .null (by omega) hI hA
    obtain ⟨I2, L2, e2, h2, f2, g2⟩ := s168 (d := d) (L := L) (ru := ru) (dr := dr) (sr := sr) (rd := rd) (rl := rl) (x := x) (I := I1) (m := gts R S f a q S) (p16 hS16 (gts_lt _ _ _ _ _ _))
    have f3 : fW [4] I I2 := f1.W.tr f2
    rw [show gts R S f a q 0 = 0 from rfl] at e1
    rw [k128, s71t (s := 14) (Or.inl rfl) hA hp hq, bI_i, e128_4, if_neg (by decide), s77 (s := 14) hc hI (Or.inl rfl) hA, bI_i, e128_12, s72 (s := 14) (Or.inl rfl) hA (by omega), bI_i, cv_3 (by omega), e128_18, e1, e2, bI_i, e128_50]
    exact ⟨I2, L2, rfl, ⟨f3.ct hI (by decide), f3.st (Or.inl rfl) hA (by decide), f3.tx hT (by decide), h2, f3.pa hP (by decide), f3.clu hC (by decide), f3.sig hS (by decide), hQ, f3.cs (zRD.q hQ) hR (zRD.nn hQ (by decide))⟩⟩
/-! shuts -/
def lss (x y : Nat) : Bool := decide (pc x < pc y ∨ pc x = pc y ∧ x < y)
theorem s169 {x' y : Nat} (hx : x' < 65536) (hy : y < 65536) : cal d 169 [.int (nI x'), .int (nI y)] (I, L, rR ru dr sr rd rl, 65, x) = some (some (.int (nI (if lss x' y = true then 1 else 0))), (I, L, rR ru dr sr rd rl, 65, x)) := by
  have h1 := pc_le x'
  have h2 := pc_le y
  have hneg : nI (pc x') - nI (pc y) < 0 ↔ pc x' < pc y := by
    rw [fa_lt, fb_subI (by rw [nI_toInt (by omega), nI_toInt (by omega)]; omega) (by rw [nI_toInt (by omega), nI_toInt (by omega)]; omega), nI_toInt (by omega), nI_toInt (by omega)]
    show _ < (0 : Int) ↔ _
    omega
  rw [k169, s296 hx, bI_i, e169_2, s296 hy, bI_i, e169_4]
  unfold lss
  by_cases z : pc x' < pc y
  · rw [if_pos (hneg.mpr z), if_pos zb1, decide_eq_true (Or.inl z), if_pos rfl]
  · rw [if_neg (fun e => z (hneg.mp e))]
    by_cases w : pc x' = pc y
    · rw [if_pos ((zsub_z (by omega) (by omega)).mpr w)]
      by_cases v : x' < y
      · rw [if_neg (by rw [nI_leI (by omega) (by omega)]; omega), if_pos zb1, decide_eq_true (by omega), if_pos rfl]
      · rw [if_pos (by rw [nI_leI (by omega) (by omega)]; omega), if_pos zb0, decide_eq_false (by omega), if_neg Bool.false_ne_true]
    · rw [if_neg (by rw [zsub_z (by omega) (by omega)]; exact w), if_pos zb0, decide_eq_false (by omega), if_neg Bool.false_ne_true]
/-- squares taken with a set of rows -/
def tkn (R S : Nat) (f : Nat → Nat) (a : zP) (i : Nat) : Nat := sqo f i R &&& (zdif (2 ^ S - 1) (oth a 4))
def shQ (x : Nat) (o : Option Nat) : Bool := match o with
  | none => true
  | some b => lss x b
def shl (R S : Nat) (f : Nat → Nat) (a : zP) (q : Nat) : Nat → Option Nat
  | 0 => none
  | i + 1 => if (!can R S f a q (tkn R S f a i) (a (4 + q)) && shQ (tkn R S f a i) (shl R S f a q i)) = true then some (tkn R S f a i) else shl R S f a q i
theorem tkn_lt (hc : zCt R S f g) (i : Nat) : tkn R S f a i < 65536 := Nat.lt_of_le_of_lt Nat.and_le_left (sqo_lt hc i R (Nat.le_refl _))
theorem shl_lt (hc : zCt R S f g) {q : Nat} : ∀ {i b}, shl R S f a q i = some b → b < 65536
  | 0, b, h => by cases h
  | i + 1, b, h => by
    rw [shl] at h
    by_cases z : (!can R S f a q (tkn R S f a i) (a (4 + q)) && shQ (tkn R S f a i) (shl R S f a q i)) = true
    · rw [if_pos z] at h; cases h; exact tkn_lt hc i
    · rw [if_neg z] at h; exact shl_lt hc h
def s01 (o : Option Nat) : Nat := match o with
  | none => 0
  | some _ => 1
theorem l129 {q : Nat} (hc : zCt R S f g) (hw : zWf p S T a) (hq : q < p) : ∀ j i (I : Nat → Nat → Int32) (w7 : Value), i + j = 2 ^ R → cCt I R S f g → cSt I 15 p a → ∃ I' w', res d 129 23 [.ref 1, .int (nI q), .int (nI (s01 (shl R S f a q i))), .int (nI ((shl R S f a q i).getD 0)), .int (nI (zdif (2 ^ S - 1) (oth a 4))), .int (nI (a (4 + q))), .int (nI i), w7] [] (I, L, rR ru dr sr rd rl, 65, x) = (if nI (s01 (shl R S f a q (2 ^ R))) = 0 then some (some (.int (-(nI 2))), (I', L, rR ru dr sr rd rl, 65, x)) else bV (cal d 101 [.ref 4] (I', L, rR ru dr sr rd rl, 65, x)) fun h1 => res d 129 63 [.ref 1, .int (nI q), .int (nI (s01 (shl R S f a q (2 ^ R)))), .int (nI ((shl R S f a q (2 ^ R)).getD 0)), .int (nI (zdif (2 ^ S - 1) (oth a 4))), .int (nI (a (4 + q))), .int (nI (2 ^ R)), w'] [] h1) ∧ fP I I'
  | 0, i, I, w7, hi, hI, hA => by
    have hR := hc.2.1
    have h256 : 2 ^ R ≤ 256 := Nat.pow_le_pow_right (n := 2) (by decide) hR
    refine ⟨I, w7, ?_, fP.rf I⟩
    rw [l129_23, s14 hc hI, bI_i, e129_28, zshl1 (by omega), if_pos (by rw [nI_leI (by omega) (by omega)]; omega), show i = 2 ^ R by omega]
  | j + 1, i, I, w7, hi, hI, hA => by
    have hR := hc.2.1
    have hp := hw.1
    have h256 : 2 ^ R ≤ 256 := Nat.pow_le_pow_right (n := 2) (by decide) hR
    have hr := (hw.2.1 q (by omega)).2.1
    obtain ⟨I1, e1, -, f1⟩ := s82 (d := d) (L := L) (ru := ru) (dr := dr) (sr := sr) (rd := rd) (rl := rl) (x := x) (s := 14) hc hI (Or.inl rfl) hA hw (q := q) (m := tkn R S f a i) (k := a (4 + q)) (by omega) (by omega)
    obtain ⟨I2, w2, e2, f2⟩ := l129 hc hw hq j (i + 1) I1 (.int (nI (tkn R S f a i))) (by omega) (f1.ct hI) (f1.st (s := 14) (Or.inl rfl) hA)
    refine ⟨I2, w2, ?_, f1.tr f2⟩
    rw [l129_23, s14 hc hI, bI_i, e129_28, zshl1 (by omega), if_neg (by rw [nI_leI (by omega) (by omega)]; omega), s22 hc hI (by omega), bI_i, e129_34, fa_and, show sqo f i R &&& (zdif (2 ^ S - 1) (oth a 4)) = tkn R S f a i from rfl, e1, bI_i, e129_43]
    cases z : can R S f a q (tkn R S f a i) (a (4 + q)) with
    | true =>
      have es : shl R S f a q (i + 1) = shl R S f a q i := by rw [shl, z]; rfl
      rw [es] at e2
      rw [if_neg (show ¬ nI (if true = true then 1 else 0) = 0 by decide), nI_add]
      exact e2
    | false =>
      rw [if_pos (show nI (if false = true then 1 else 0) = 0 from rfl)]
      cases y : shl R S f a q i with
      | none =>
        have es : shl R S f a q (i + 1) = some (tkn R S f a i) := by rw [shl, z, y]; rfl
        rw [es] at e2
        rw [show nI (s01 none) = nI 0 from rfl, if_pos (show nI 0 = 0 from rfl), e129_50, nI_add]
        exact e2
      | some b =>
        have hb := shl_lt hc y
        rw [show nI (s01 (some b)) = nI 1 from rfl, if_neg (by decide), s169 (tkn_lt hc i) (show (some b).getD 0 < 65536 from hb), bI_i, e129_49]
        cases w : lss (tkn R S f a i) b with
        | true =>
          have es : shl R S f a q (i + 1) = some (tkn R S f a i) := by rw [shl, z, y, show shQ (tkn R S f a i) (some b) = lss (tkn R S f a i) b from rfl, w]; rfl
          rw [es] at e2
          rw [show lss (tkn R S f a i) ((some b).getD 0) = true from w, if_neg (show ¬ nI (if true = true then 1 else 0) = 0 by decide), e129_50, nI_add]
          exact e2
        | false =>
          have es : shl R S f a q (i + 1) = some b := by rw [shl, z, y, show shQ (tkn R S f a i) (some b) = lss (tkn R S f a i) b from rfl, w]; rfl
          rw [es] at e2
          rw [show lss (tkn R S f a i) ((some b).getD 0) = false from w, if_pos (show nI (if false = true then 1 else 0) = 0 from rfl), nI_add]
          exact e2
def stA (R S : Nat) (f : Nat → Nat) (p : Nat) (a : zP) (v : Int32) : Int32 × Option (List Int64) := match inr p v with
  | some q => (match shl R S f a q (2 ^ R) with
    | none => (-(nI 2), none)
    | some b => (nI (pc b), some [lN b]))
  | none => (-(nI 1), none)
theorem o129 {v : Int32} (h : cInv I L ru dr R S f g p a n t l u kp cl si cs) (hw : wInv R S f g p a T u kp) : ∃ I' L', cal d 129 [.ref 1, .int v] (I, L, rR ru dr sr rd rl, 65, x) = some (some (.int (stA R S f p a v).1), (I', L', rR ru dr sr rd rl, 65, x)) ∧ cInv I' L' ru dr R S f g p a n t ((stA R S f p a v).2.getD l) u kp cl si cs := by
  have h0 := h
  obtain ⟨hI, hA, hT, hO, hP, hC, hS, hQ, hR⟩ := h
  obtain ⟨hc, hw, hu, hk⟩ := hw
  have hp := hw.1
  unfold stA
  cases z : inr p v with
  | none =>
    refine ⟨I, L, ?_, h0⟩
    rw [k129, s71f (s := 14) (Or.inl rfl) hA hp (inr_n (by omega) z), bI_i, e129_4, if_pos (show nI 0 = 0 from rfl)]
  | some q =>
    obtain ⟨hq, rfl⟩ := inr_s (by omega) z
    obtain ⟨I1, w1, e1, f1⟩ := l129 (d := d) (L := L) (ru := ru) (dr := dr) (sr := sr) (rd := rd) (rl := rl) (x := x) hc hw hq (2 ^ R) 0 I .null (by omega) hI hA
    rw [show shl R S f a q 0 = none from rfl, show nI (s01 none) = nI 0 from rfl, show nI ((none : Option Nat).getD 0) = nI 0 from rfl] at e1
    rw [k129, s71t (s := 14) (Or.inl rfl) hA hp hq, bI_i, e129_4, if_neg (by decide), s77 (s := 14) hc hI (Or.inl rfl) hA, bI_i, e129_14, s72 (s := 14) (Or.inl rfl) hA (by omega), bI_i, cv_3 (by omega), e129_20, e1]
    dsimp only
    cases y : shl R S f a q (2 ^ R) with
    | none =>
      have f2 : fW [] I I1 := f1.W
      rw [show nI (s01 none) = nI 0 from rfl, if_pos (show nI 0 = 0 from rfl)]
      exact ⟨I1, L, rfl, ⟨f2.ct hI (by decide), f2.st (Or.inl rfl) hA (by decide), f2.tx hT (by decide), f2.to hO (by decide) rfl, f2.pa hP (by decide), f2.clu hC (by decide), f2.sig hS (by decide), hQ, f2.cs (zRD.q hQ) hR (zRD.nn hQ (by decide))⟩⟩
    | some b =>
      have hb := shl_lt hc y
      obtain ⟨I2, e2, h2, f2⟩ := s101 (d := d) (L := L) (ru := ru) (dr := dr) (sr := sr) (rd := rd) (rl := rl) (x := x) (I := I1)
      obtain ⟨I3, L3, e3, h3, f3, g3⟩ := s102 (d := d) (v := lN b) (ru := ru) (dr := dr) (sr := sr) (rd := rd) (rl := rl) (x := x) h2 (by decide)
      have f4 : fW [4] I I3 := f1.W.tr (f2.tr f3)
      rw [show nI (s01 (some b)) = nI 1 from rfl, if_neg (by decide), e2, bV_n, e129_63, show (some b).getD 0 = b from rfl, nI_l (by omega), e3, bV_n, e129_68, s296 hb, bI_i, e129_70]
      exact ⟨I3, L3, rfl, ⟨f4.ct hI (by decide), f4.st (Or.inl rfl) hA (by decide), f4.tx hT (by decide), h3, f4.pa hP (by decide), f4.clu hC (by decide), f4.sig hS (by decide), hQ, f4.cs (zRD.q hQ) hR (zRD.nn hQ (by decide))⟩⟩

end
