section
variable {I : Nat → Nat → Int32} {L : Nat → Nat → Int64} {ru dr : Nat} {sr : Nat → Option Nat} {rd : Option Nat} {rl x : Nat}

def tab (R S : Nat) (f : Nat → Nat) (a : Nat → Nat) (q m k : Nat) : Nat → N4 := hT R k (fun b => (2 * rws f (zdif (2 ^ S - 1) (oth a q ||| m)) R).testBit b) (fun b => (2 * rws f (a (12 + q)) R).testBit b)
def can (R S : Nat) (f : Nat → Nat) (a : Nat → Nat) (q m k : Nat) : Bool := decide (0 < (tab R S f a q m k 0).1)
def fP (I I' : Nat → Nat → Int32) : Prop := ∀ c, (c < 9 ∨ 13 < c) → I' c = I c
theorem fP.rf (I : Nat → Nat → Int32) : fP I I := fun _ _ => rfl
theorem fP.tr {I I1 I2 : Nat → Nat → Int32} (h : fP I I1) (h2 : fP I1 I2) : fP I I2 := fun c hc => (h2 c hc).trans (h c hc)
theorem fP.ct {I I' : Nat → Nat → Int32} (h : fP I I') {R S : Nat} {f g : Nat → Nat} (hI : cCt I R S f g) : cCt I' R S f g := hI.congr (h 6 (by omega)) (h 7 (by omega)) (h 8 (by omega))
theorem fP.st {I I' : Nat → Nat → Int32} (h : fP I I') {s p : Nat} {a : Nat → Nat} (hs : zS s) (hA : cSt I (s + 1) p a) : cSt I' (s + 1) p a := hA.congr (h (s + 1) (by rcases hs with rfl | rfl | rfl <;> omega))
theorem rws8 {R : Nat} (hR : R ≤ 8) (f : Nat → Nat) (m : Nat) : rws f m R < 256 := Nat.lt_of_lt_of_le (rws_lt f m R) (Nat.pow_le_pow_right (by decide) hR : 2 ^ R ≤ 2 ^ 8)
theorem s82 {R S d : Nat} {f g : Nat → Nat} (hc : zCt R S f g) (hI : cCt I R S f g) {s p : Nat} {a : Nat → Nat} (hs : zS s) (hA : cSt I (s + 1) p a) {T : Nat} (hw : zWf p S T a) {q m k : Nat} (hq : q < 4) (hk : k ≤ 100) : ∃ I', cal d 82 [.ref s, .int (nI q), .int (nI m), .int (nI k)] (I, L, rR ru dr sr rd rl, 65, x) = some (some (.int (nI (if can R S f a q m k = true then 1 else 0))), (I', L, rR ru dr sr rd rl, 65, x)) ∧ pInv I' R k (rws f (zdif (2 ^ S - 1) (oth a q ||| m)) R) (rws f (a (12 + q)) R) (tab R S f a q m k) 0 ∧ fP I I' := by
  have h1 := p16 hc.S16 (hw.2.1 q hq).2.2.2.1
  obtain ⟨I', e, h2, h3⟩ := s31 (I := I) (L := L) (ru := ru) (dr := dr) (sr := sr) (rd := rd) (rl := rl) (x := x) (d := d) hc.2.1 hk (rws8 hc.2.1 f (zdif (2 ^ S - 1) (oth a q ||| m))) (rws8 hc.2.1 f (a (12 + q)))
  refine ⟨I', ?_, h2, h3⟩
  simp (disch := omega) only [k82 hs, e82_6 hs, e82_7 hs, e82_13 hs, e82_17 hs, e82_20 hs, nI_leI, nI_ltI, nI_eq, nI_z, nI_n0, nI_0l, nI_l0, nI_0g, nI_m1, nI_clamp, nI_add, zb0, zb1, ite_true, ite_false, if_true, if_false, eq_self, bI_i, bL_l, bV_n, not_true, not_false_eq_true, s72 hs hA, cv_15, s21 hc hI, s14 hc hI, s81 hc hI hs hA]
  rw [e]
  simp (disch := omega) only [k82 hs, e82_6 hs, e82_7 hs, e82_13 hs, e82_17 hs, e82_20 hs, nI_leI, nI_ltI, nI_eq, nI_z, nI_n0, nI_0l, nI_l0, nI_0g, nI_m1, nI_clamp, nI_add, zb0, zb1, ite_true, ite_false, if_true, if_false, eq_self, bI_i, bL_l, bV_n, not_true, not_false_eq_true]
  unfold can tab
  by_cases z : 0 < (hT R k (fun b => (2 * rws f (zdif (2 ^ S - 1) (oth a q ||| m)) R).testBit b) (fun b => (2 * rws f (a (12 + q)) R).testBit b) 0).1
  · rw [if_pos z, if_pos zb1, decide_eq_true z, if_pos rfl]
  · rw [if_neg z, if_pos zb0, decide_eq_false z, if_neg (by decide)]
def trs (R S : Nat) (f : Nat → Nat) (a : Nat → Nat) (q k : Nat) : Nat := orl (fun s => if (oth a q).testBit s = false ∧ can R S f a q (2 ^ s) k = false then 2 ^ s else 0) S
theorem trs_lt (R S : Nat) (f : Nat → Nat) (a : Nat → Nat) (q k : Nat) : trs R S f a q k < 2 ^ S := orl_lt fun o ho => by
  split
  · exact Nat.pow_lt_pow_right (by decide) ho
  · exact Nat.two_pow_pos S
theorem l83 {R S d : Nat} {f g : Nat → Nat} (hc : zCt R S f g) {s p : Nat} {a : Nat → Nat} (hs : zS s) {T : Nat} (hw : zWf p S T a) {q k : Nat} (hq : q < 4) (hk : k ≤ 100) : ∀ n v (w : Value) (I : Nat → Nat → Int32), v + n = S → cCt I R S f g → cSt I (s + 1) p a → ∃ I', res d 83 8 [.ref s, .int (nI q), .int (nI k), .int (nI (oth a q)), .int (nI (orl (fun s => if (oth a q).testBit s = false ∧ can R S f a q (2 ^ s) k = false then 2 ^ s else 0) v)), .int (nI v), w] [] (I, L, rR ru dr sr rd rl, 65, x) = some (some (.int (nI (trs R S f a q k))), (I', L, rR ru dr sr rd rl, 65, x)) ∧ fP I I'
  | 0, v, w, I, e, hI, hA => by
    have := hc.S16
    refine ⟨I, ?_, fP.rf I⟩
    rw [l83_8 hs]
    simp (disch := omega) only [k83 hs, e83_3 hs, e83_12 hs, e83_17 hs, e83_27 hs, nI_leI, nI_ltI, nI_eq, nI_z, nI_n0, nI_0l, nI_l0, nI_0g, nI_m1, nI_clamp, nI_add, zb0, zb1, ite_true, ite_false, if_true, if_false, eq_self, bI_i, bL_l, bV_n, not_true, not_false_eq_true, s15 hc hI]
    rw [if_pos (by omega), trs, show v = S by omega]
  | n + 1, v, w, I, e, hI, hA => by
    have := hc.S16
    have hv : v < S := by omega
    rw [l83_8 hs]
    simp (disch := omega) only [k83 hs, e83_3 hs, e83_12 hs, e83_17 hs, e83_27 hs, nI_leI, nI_ltI, nI_eq, nI_z, nI_n0, nI_0l, nI_l0, nI_0g, nI_m1, nI_clamp, nI_add, zb0, zb1, ite_true, ite_false, if_true, if_false, eq_self, bI_i, bL_l, bV_n, not_true, not_false_eq_true, s15 hc hI, s18t hc hI hv, fa_bit]
    rw [if_neg (by omega)]
    cases z : (oth a q).testBit v with
    | true =>
      obtain ⟨I', h1, h2⟩ := l83 (d := d) hc hs hw hq hk n (v + 1) (.int (nI (2 ^ v))) I (by omega) hI hA
      refine ⟨I', ?_, h2⟩
      rw [orl, z] at h1
      simpa using h1
    | false =>
      obtain ⟨I1, e1, -, f1⟩ := s82 (d := d) (L := L) (ru := ru) (dr := dr) (sr := sr) (rd := rd) (rl := rl) (x := x) hc hI hs hA hw (m := 2 ^ v) hq hk
      obtain ⟨I', h1, h2⟩ := l83 (d := d) hc hs hw hq hk n (v + 1) (.int (nI (2 ^ v))) I1 (by omega) (f1.ct hI) (f1.st hs hA)
      refine ⟨I', ?_, f1.tr h2⟩
      rw [if_pos rfl, e1]
      simp (disch := omega) only [k83 hs, e83_3 hs, e83_12 hs, e83_17 hs, e83_27 hs, nI_leI, nI_ltI, nI_eq, nI_z, nI_n0, nI_0l, nI_l0, nI_0g, nI_m1, nI_clamp, nI_add, zb0, zb1, ite_true, ite_false, if_true, if_false, eq_self, bI_i, bL_l, bV_n, not_true, not_false_eq_true, fa_or]
      rw [orl, z] at h1
      cases y : can R S f a q (2 ^ v) k with
      | false => rw [y] at h1; simpa [nI_z] using h1
      | true => rw [y] at h1; simpa [show ¬ nI 1 = 0 by decide] using h1
theorem s83 {R S d : Nat} {f g : Nat → Nat} (hc : zCt R S f g) (hI : cCt I R S f g) {s p : Nat} {a : Nat → Nat} (hs : zS s) (hA : cSt I (s + 1) p a) {T : Nat} (hw : zWf p S T a) {q k : Nat} (hq : q < 4) (hk : k ≤ 100) : ∃ I', cal d 83 [.ref s, .int (nI q), .int (nI k)] (I, L, rR ru dr sr rd rl, 65, x) = some (some (.int (nI (trs R S f a q k))), (I', L, rR ru dr sr rd rl, 65, x)) ∧ fP I I' := by
  rw [k83 hs, s76 hs hA (by omega), bI_i, e83_3 hs]
  exact l83 hc hs hw hq hk S 0 _ I (by omega) hI hA
/-- the traps of all others -/
def trO (R S : Nat) (f : Nat → Nat) (a : Nat → Nat) (q n : Nat) : Nat := fb_sm (fun o => if o = q then 0 else pc (trs R S f a o (a (4 + o)))) n
theorem trO_le (R S : Nat) (f : Nat → Nat) (a : Nat → Nat) (q n : Nat) : trO R S f a q n ≤ n * 16 := fb_sm_bound fun o _ => by
  split
  · exact Nat.zero_le _
  · exact pc_le _
theorem l84 {R S d : Nat} {f g : Nat → Nat} (hc : zCt R S f g) {s p : Nat} {a : Nat → Nat} (hs : zS s) {T : Nat} (hw : zWf p S T a) {q : Nat} (hq : q < 4) : ∀ n v (I : Nat → Nat → Int32), v + n = p → cCt I R S f g → cSt I (s + 1) p a → ∃ I', res d 84 4 [.ref s, .int (nI q), .int (nI (trO R S f a q v)), .int (nI v)] [] (I, L, rR ru dr sr rd rl, 65, x) = some (some (.int (nI (trO R S f a q p))), (I', L, rR ru dr sr rd rl, 65, x)) ∧ fP I I'
  | 0, v, I, e, hI, hA => by
    have := hw.1
    refine ⟨I, ?_, fP.rf I⟩
    rw [l84_4 hs]
    simp (disch := omega) only [k84 hs, e84_7 hs, e84_18 hs hs, e84_19 hs, e84_20 hs, nI_leI, nI_ltI, nI_eq, nI_z, nI_n0, nI_0l, nI_l0, nI_0g, nI_m1, nI_clamp, nI_add, zb0, zb1, ite_true, ite_false, if_true, if_false, eq_self, bI_i, bL_l, bV_n, not_true, not_false_eq_true, s68 hs hA]
    rw [if_pos (by omega), show v = p by omega]
  | n + 1, v, I, e, hI, hA => by
    have := hw.1
    have hr := (hw.2.1 v (by omega)).2.1
    rw [l84_4 hs]
    simp (disch := omega) only [k84 hs, e84_7 hs, e84_18 hs hs, e84_19 hs, e84_20 hs, nI_leI, nI_ltI, nI_eq, nI_z, nI_n0, nI_0l, nI_l0, nI_0g, nI_m1, nI_clamp, nI_add, zb0, zb1, ite_true, ite_false, if_true, if_false, eq_self, bI_i, bL_l, bV_n, not_true, not_false_eq_true, s68 hs hA, s72 hs hA, cv_3]
    rw [if_neg (by omega)]
    by_cases z : v = q
    · obtain ⟨I', h1, h2⟩ := l84 (d := d) hc hs hw hq n (v + 1) I (by omega) hI hA
      refine ⟨I', ?_, h2⟩
      rw [trO, fb_sm_succ, if_pos z] at h1
      rw [if_pos z]
      exact h1
    · obtain ⟨I1, e1, f1⟩ := s83 (d := d) (L := L) (ru := ru) (dr := dr) (sr := sr) (rd := rd) (rl := rl) (x := x) hc hI hs hA hw (q := v) (k := a (4 + v)) (by omega) (by omega)
      obtain ⟨I', h1, h2⟩ := l84 (d := d) hc hs hw hq n (v + 1) I1 (by omega) (f1.ct hI) (f1.st hs hA)
      refine ⟨I', ?_, f1.tr h2⟩
      have := p16 hc.S16 (trs_lt R S f a v (a (4 + v)))
      rw [if_neg z, e1]
      simp (disch := omega) only [k84 hs, e84_7 hs, e84_18 hs hs, e84_19 hs, e84_20 hs, nI_leI, nI_ltI, nI_eq, nI_z, nI_n0, nI_0l, nI_l0, nI_0g, nI_m1, nI_clamp, nI_add, zb0, zb1, ite_true, ite_false, if_true, if_false, eq_self, bI_i, bL_l, bV_n, not_true, not_false_eq_true, s296]
      rw [trO, fb_sm_succ, if_neg z] at h1
      exact h1
theorem s84 {R S d : Nat} {f g : Nat → Nat} (hc : zCt R S f g) (hI : cCt I R S f g) {s p : Nat} {a : Nat → Nat} (hs : zS s) (hA : cSt I (s + 1) p a) {T : Nat} (hw : zWf p S T a) {q : Nat} (hq : q < 4) : ∃ I', cal d 84 [.ref s, .int (nI q)] (I, L, rR ru dr sr rd rl, 65, x) = some (some (.int (nI (trO R S f a q p))), (I', L, rR ru dr sr rd rl, 65, x)) ∧ fP I I' := by
  rw [k84 hs]
  exact l84 hc hs hw hq p 0 I (by omega) hI hA
theorem s79' {R S d : Nat} {f g : Nat → Nat} (hc : zCt R S f g) (hI : cCt I R S f g) {s p : Nat} {a : Nat → Nat} (hs : zS s) (hA : cSt I (s + 1) p a) {q : Nat} (hq : q < 4) (h1 : a (8 + q) ≤ S) (h2 : oth a q < 65536) : cal d 79 [.ref s, .int (nI q)] (I, L, rR ru dr sr rd rl, 65, x) = some (some (.int (nI (gol S a q))), (I, L, rR ru dr sr rd rl, 65, x)) := by
  have := hc.S16
  simp (disch := omega) only [k79 hs, e79_3 hs, e79_8 hs, e79_13 hs, e79_27 hs, nI_leI, nI_ltI, nI_eq, nI_z, nI_n0, nI_0l, nI_l0, nI_0g, nI_m1, nI_clamp, nI_add, zb0, zb1, ite_true, ite_false, if_true, if_false, eq_self, bI_i, bL_l, bV_n, not_true, not_false_eq_true, s76 hs hA, s72 hs hA, cv_11]
  exact l79 hc hI hs hA h2 (S - a (8 + q)) (a (8 + q)) (by omega)
/-- what a letter says of a player -/
def th (S : Nat) (g : Nat → Nat) (a : Nat → Nat) (q c : Nat) : Nat := if c = 97 then a q else if c = 102 then a (16 + q) else if c = 104 then pc (a (12 + q)) else if c = 105 then q else if c = 114 then g (gol S a q) else if c = 116 then gol S a q else a 25 % 7
theorem s85 {R S d : Nat} {f g : Nat → Nat} (hc : zCt R S f g) (hI : cCt I R S f g) {s p : Nat} {a : Nat → Nat} (hs : zS s) (hA : cSt I (s + 1) p a) {T : Nat} (hw : zWf p S T a) {q c : Nat} (hq : q < 4) (hc1 : c = 97 ∨ c = 116 ∨ c = 114 ∨ c = 104 ∨ c = 102 ∨ c = 105 ∨ c = 110) : cal d 85 [.ref s, .int (nI c), .int (nI q)] (I, L, rR ru dr sr rd rl, 65, x) = some (some (.int (nI (th S g a q c))), (I, L, rR ru dr sr rd rl, 65, x)) := by
  have h1 := p16 hc.S16 (hw.2.1 q hq).2.2.2.1
  have h2 := gol_le hw hq
  have h3 := hw.2.2.2.2.1
  have h4 := hw.2.2.2.2.2.1
  have hz : ¬ nI 7 = 0 := by decide
  rcases hc1 with rfl | rfl | rfl | rfl | rfl | rfl | rfl
  all_goals (rw [k85 hs]; simp (disch := omega) only [nI_leI, nI_ltI, nI_eq, nI_z, nI_n0, nI_0l, nI_l0, nI_0g, nI_m1, nI_clamp, nI_add, zb0, zb1, ite_true, ite_false, if_true, if_false, eq_self, bI_i, bL_l, bV_n, not_true, not_false_eq_true, nI_eq, Nat.reduceEqDiff, s72 hs hA, cv_7, cv_11, cv_15, cv_19, s79 hc hI hs hA hw, s70 hs hA, e85_6 hs, e85_10 hs, e85_16 hs, e85_17 hs, e85_22 hs, e85_23 hs, e85_28 hs, e85_33 hs, s296, s20 hc hI, hz, zrem]; rfl)

end
