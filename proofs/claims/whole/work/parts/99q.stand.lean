section
variable {I : Nat → Nat → Int32} {L : Nat → Nat → Int64} {ru dr : Nat} {sr : Nat → Option Nat} {rd : Option Nat} {rl x : Nat}

/-! ===== a standing ===== -/
def cv (p : Nat) (a : Nat → Nat) (k : Nat) : Nat := if k = 0 then p else if k = 1 then a 24 else if k = 2 then a 25 else if k < 7 then a (k + 1) else if k < 11 then a (k - 7) else a (k - 3)
def cSt (I : Nat → Nat → Int32) (c p : Nat) (a : Nat → Nat) : Prop := ∀ k, k < 27 → I c k = nI (cv p a k)
theorem cSt.congr {I I' : Nat → Nat → Int32} {c p : Nat} {a : Nat → Nat} (h : cSt I c p a) (e : I' c = I c) : cSt I' c p a := by
  unfold cSt
  rw [e]
  exact h
theorem cv_3 {p q : Nat} {a : Nat → Nat} (h : q < 4) : cv p a (3 + q) = a (4 + q) := by unfold cv; rw [if_neg (by omega), if_neg (by omega), if_neg (by omega), if_pos (by omega)]; congr 1; omega
theorem cv_7 {p q : Nat} {a : Nat → Nat} (h : q < 4) : cv p a (7 + q) = a q := by unfold cv; rw [if_neg (by omega), if_neg (by omega), if_neg (by omega), if_neg (by omega), if_pos (by omega)]; congr 1; omega
theorem cv_h {p k : Nat} {a : Nat → Nat} (h : 11 ≤ k) : cv p a k = a (k - 3) := by unfold cv; rw [if_neg (by omega), if_neg (by omega), if_neg (by omega), if_neg (by omega), if_neg (by omega)]
theorem cv_11 {p q : Nat} {a : Nat → Nat} : cv p a (11 + q) = a (8 + q) := by rw [cv_h (by omega)]; congr 1; omega
theorem cv_15 {p q : Nat} {a : Nat → Nat} : cv p a (15 + q) = a (12 + q) := by rw [cv_h (by omega)]; congr 1; omega
theorem cv_19 {p q : Nat} {a : Nat → Nat} : cv p a (19 + q) = a (16 + q) := by rw [cv_h (by omega)]; congr 1; omega
theorem cv_23 {p q : Nat} {a : Nat → Nat} : cv p a (23 + q) = a (20 + q) := by rw [cv_h (by omega)]; congr 1; omega
/-- what holds of a standing: p players, S squares, at most T throws -/
def zWf (p S T : Nat) (a : Nat → Nat) : Prop := p ≤ 4 ∧ (∀ q, q < 4 → a q ≤ 9 ∧ a (4 + q) ≤ 4 ∧ a (8 + q) < S ∧ a (12 + q) < 2 ^ S ∧ a (16 + q) ≤ 99 ∧ a (20 + q) ≤ 9) ∧ (∀ q, q < 4 → p ≤ q → a q = 0 ∧ a (4 + q) = 0 ∧ a (8 + q) = 0 ∧ a (12 + q) = 0 ∧ a (16 + q) = 0 ∧ a (20 + q) = 0) ∧ (a 24 < p ∨ p = 0 ∧ a 24 = 0) ∧ a 25 ≤ T ∧ T < 2 ^ 24 ∧ ∀ q r, q < 4 → r < 4 → q ≠ r → a (12 + q) &&& a (12 + r) = 0
def orl (h : Nat → Nat) : Nat → Nat
  | 0 => 0
  | n + 1 => orl h n ||| h n
theorem orl_tb (h : Nat → Nat) (i : Nat) : ∀ n, (orl h n).testBit i = true ↔ ∃ o, o < n ∧ (h o).testBit i = true
  | 0 => by rw [orl, Nat.zero_testBit]; exact ⟨fun q => (by cases q), fun ⟨_, q, _⟩ => absurd q (Nat.not_lt_zero _)⟩
  | n + 1 => by
    rw [orl, Nat.testBit_or, Bool.or_eq_true, orl_tb h i n]
    constructor
    · rintro (⟨o, a, b⟩ | q)
      · exact ⟨o, by omega, b⟩
      · exact ⟨n, by omega, q⟩
    · rintro ⟨o, a, b⟩
      rcases Nat.lt_or_ge o n with q | q
      · exact Or.inl ⟨o, q, b⟩
      · right; rw [show n = o by omega]; exact b
theorem orl_lt {h : Nat → Nat} {k : Nat} : ∀ {n : Nat}, (∀ o, o < n → h o < 2 ^ k) → orl h n < 2 ^ k
  | 0, _ => Nat.two_pow_pos k
  | n + 1, q => zor_lt (orl_lt fun o ho => q o (by omega)) (q n (by omega))
theorem orl_cong {h h' : Nat → Nat} : ∀ {n : Nat}, (∀ o, o < n → h o = h' o) → orl h n = orl h' n
  | 0, _ => rfl
  | n + 1, q => by rw [orl, orl, orl_cong fun o ho => q o (by omega), q n (by omega)]
theorem orl_more {h : Nat → Nat} {m : Nat} : ∀ {n : Nat}, (∀ o, m ≤ o → h o = 0) → m ≤ n → orl h n = orl h m
  | 0, _, hm => by rw [show m = 0 by omega]
  | n + 1, q, hm => by
    rcases Nat.lt_or_ge m (n + 1) with z | z
    · rw [orl, orl_more q (by omega), q n (by omega), Nat.or_zero]
    · rw [show m = n + 1 by omega]
/-- the houses of all but one -/
def oth (a : Nat → Nat) (q : Nat) : Nat := orl (fun o => if o = q then 0 else a (12 + o)) 4
theorem oth_lt {p S T : Nat} {a : Nat → Nat} (hw : zWf p S T a) (q : Nat) : oth a q < 2 ^ S := orl_lt fun o ho => by
  split
  · exact Nat.two_pow_pos S
  · exact (hw.2.1 o ho).2.2.2.1
theorem p16 {S n : Nat} (hS : S ≤ 16) (h : n < 2 ^ S) : n < 65536 := Nat.lt_of_lt_of_le h (Nat.pow_le_pow_right (by decide) hS : 2 ^ S ≤ 2 ^ 16)
/-- the first from v on, of n, that isn't in b -/
def gl (b : Nat) : Nat → Nat → Nat
  | 0, v => v
  | n + 1, v => if b.testBit v = true then gl b n (v + 1) else v
theorem gl_le (b : Nat) : ∀ n v, v ≤ gl b n v ∧ gl b n v ≤ v + n
  | 0, v => by rw [gl]; omega
  | n + 1, v => by
    rw [gl]
    have := gl_le b n (v + 1)
    split <;> omega
theorem gl_no (b : Nat) : ∀ n v, gl b n v < v + n → b.testBit (gl b n v) = false
  | 0, v, h => by rw [gl] at h; omega
  | n + 1, v, h => by
    rw [gl] at h ⊢
    split at h
    · rename_i q; rw [if_pos q]; exact gl_no b n (v + 1) (by omega)
    · rename_i q; rw [if_neg q]; exact Bool.eq_false_iff.mpr q
def gol (S : Nat) (a : Nat → Nat) (q : Nat) : Nat := gl (oth a q) (S - a (8 + q)) (a (8 + q))
theorem gol_le {p S T : Nat} {a : Nat → Nat} (hw : zWf p S T a) {q : Nat} (hq : q < 4) : gol S a q ≤ S := by
  have := gl_le (oth a q) (S - a (8 + q)) (a (8 + q))
  have := (hw.2.1 q hq).2.2.1
  unfold gol
  omega
def sm (a : Nat → Nat) (w n : Nat) : Nat := fb_sm (fun q => a (w + q)) n
/-- whose house a square is -/
def own (a : Nat → Nat) (s : Nat) : Nat → Nat → Nat
  | 0, _ => 4
  | n + 1, q => if (a (12 + q)).testBit s = true then q else own a s n (q + 1)
def aims (S : Nat) (a : Nat → Nat) (s p : Nat) : Nat := orl (fun q => if gol S a q = s then 2 ^ q else 0) p
theorem s68 {d : Nat} {s p : Nat} {a : Nat → Nat} (hs : zS s) (hA : cSt I (s + 1) p a) : cal d 68 [.ref s] (I, L, rR ru dr sr rd rl, 65, x) = some (some (.int (nI p)), (I, L, rR ru dr sr rd rl, 65, x)) := by
  rw [k68 hs]
  simp (disch := omega) only [nI_leI, nI_ltI, nI_eq, nI_z, nI_n0, nI_0l, nI_l0, nI_0g, nI_m1, nI_clamp, nI_add, zb0, zb1, ite_true, ite_false, if_true, if_false, eq_self, bI_i, bL_l, bV_n, not_true, not_false_eq_true, ak_s hs, hA 0 (by decide)]
  rfl
theorem s69 {d : Nat} {s p : Nat} {a : Nat → Nat} (hs : zS s) (hA : cSt I (s + 1) p a) : cal d 69 [.ref s] (I, L, rR ru dr sr rd rl, 65, x) = some (some (.int (nI (a 24))), (I, L, rR ru dr sr rd rl, 65, x)) := by
  rw [k69 hs]
  simp (disch := omega) only [nI_leI, nI_ltI, nI_eq, nI_z, nI_n0, nI_0l, nI_l0, nI_0g, nI_m1, nI_clamp, nI_add, zb0, zb1, ite_true, ite_false, if_true, if_false, eq_self, bI_i, bL_l, bV_n, not_true, not_false_eq_true, ak_s hs, hA 1 (by decide)]
  rfl
theorem s70 {d : Nat} {s p : Nat} {a : Nat → Nat} (hs : zS s) (hA : cSt I (s + 1) p a) : cal d 70 [.ref s] (I, L, rR ru dr sr rd rl, 65, x) = some (some (.int (nI (a 25))), (I, L, rR ru dr sr rd rl, 65, x)) := by
  rw [k70 hs]
  simp (disch := omega) only [nI_leI, nI_ltI, nI_eq, nI_z, nI_n0, nI_0l, nI_l0, nI_0g, nI_m1, nI_clamp, nI_add, zb0, zb1, ite_true, ite_false, if_true, if_false, eq_self, bI_i, bL_l, bV_n, not_true, not_false_eq_true, ak_s hs, hA 2 (by decide)]
  rfl
theorem s71t {d : Nat} {s p : Nat} {a : Nat → Nat} (hs : zS s) (hA : cSt I (s + 1) p a) {q : Nat} (hp : p ≤ 4) (hq : q < p) : cal d 71 [.ref s, .int (nI q)] (I, L, rR ru dr sr rd rl, 65, x) = some (some (.int (nI 1)), (I, L, rR ru dr sr rd rl, 65, x)) := by
  simp (disch := omega) only [k71 hs, e71_5 hs, nI_leI, nI_ltI, nI_eq, nI_z, nI_n0, nI_0l, nI_l0, nI_0g, nI_m1, nI_clamp, nI_add, zb0, zb1, ite_true, ite_false, if_true, if_false, eq_self, bI_i, bL_l, bV_n, not_true, not_false_eq_true, s68 hs hA]
  rw [if_neg (by omega)]
theorem s71f {d : Nat} {s p : Nat} {a : Nat → Nat} (hs : zS s) (hA : cSt I (s + 1) p a) {v : Int32} (hp : p ≤ 4) (h : ∀ k, k < p → v ≠ nI k) : cal d 71 [.ref s, .int v] (I, L, rR ru dr sr rd rl, 65, x) = some (some (.int (nI 0)), (I, L, rR ru dr sr rd rl, 65, x)) := by
  simp (disch := omega) only [k71 hs, e71_5 hs, nI_leI, nI_ltI, nI_eq, nI_z, nI_n0, nI_0l, nI_l0, nI_0g, nI_m1, nI_clamp, nI_add, zb0, zb1, ite_true, ite_false, if_true, if_false, eq_self, bI_i, bL_l, bV_n, not_true, not_false_eq_true, s68 hs hA]
  by_cases h0 : v < 0
  · rw [if_pos h0]
  · by_cases h1 : nI p ≤ v
    · rw [if_neg h0, if_pos h1]
    · obtain ⟨k, a, b⟩ := zin_of (by omega) h0 h1
      exact absurd b (h k a)
theorem s72 {d : Nat} {s p : Nat} {a : Nat → Nat} (hs : zS s) (hA : cSt I (s + 1) p a) {w q : Nat} (h : w + q < 27) : cal d 72 [.ref s, .int (nI w), .int (nI q)] (I, L, rR ru dr sr rd rl, 65, x) = some (some (.int (nI (cv p a (w + q)))), (I, L, rR ru dr sr rd rl, 65, x)) := by
  simp (disch := omega) only [k72 hs, nI_leI, nI_ltI, nI_eq, nI_z, nI_n0, nI_0l, nI_l0, nI_0g, nI_m1, nI_clamp, nI_add, zb0, zb1, ite_true, ite_false, if_true, if_false, eq_self, bI_i, bL_l, bV_n, not_true, not_false_eq_true, ak_s hs, hA (w + q) h]
  rw [if_neg (by omega)]
theorem s73 {d : Nat} {s w q : Nat} {v : Int32} (hs : zS s) (h : w + q < 27) : cal d 73 [.ref s, .int (nI w), .int (nI q), .int v] (I, L, rR ru dr sr rd rl, 65, x) = some (none, (zup I (s + 1) (w + q) v, L, rR ru dr sr rd rl, 65, x)) := by
  simp (disch := omega) only [k73 hs, nI_leI, nI_ltI, nI_eq, nI_z, nI_n0, nI_0l, nI_l0, nI_0g, nI_m1, nI_clamp, nI_add, zb0, zb1, ite_true, ite_false, if_true, if_false, eq_self, bI_i, bL_l, bV_n, not_true, not_false_eq_true, ak_s hs]
  rw [if_neg (by omega)]
theorem l74 {d : Nat} {s p : Nat} {a : Nat → Nat} (hs : zS s) (hA : cSt I (s + 1) p a) {w : Nat} (hp : p ≤ 4) (h : w + p ≤ 27) : ∀ n q, q + n = p → res d 74 4 [.ref s, .int (nI w), .int (nI (fb_sm (fun q => cv p a (w + q)) q)), .int (nI q)] [] (I, L, rR ru dr sr rd rl, 65, x) = some (some (.int (nI (fb_sm (fun q => cv p a (w + q)) p))), (I, L, rR ru dr sr rd rl, 65, x))
  | 0, q, e => by
    rw [l74_4 hs]
    simp (disch := omega) only [k74 hs, e74_7 hs, e74_13 hs, nI_leI, nI_ltI, nI_eq, nI_z, nI_n0, nI_0l, nI_l0, nI_0g, nI_m1, nI_clamp, nI_add, zb0, zb1, ite_true, ite_false, if_true, if_false, eq_self, bI_i, bL_l, bV_n, not_true, not_false_eq_true, s68 hs hA]
    rw [if_pos (by omega), show q = p by omega]
  | n + 1, q, e => by
    have ih := l74 (d := d) hs hA hp h n (q + 1) (by omega)
    rw [fb_sm_succ] at ih
    rw [l74_4 hs]
    simp (disch := omega) only [k74 hs, e74_7 hs, e74_13 hs, nI_leI, nI_ltI, nI_eq, nI_z, nI_n0, nI_0l, nI_l0, nI_0g, nI_m1, nI_clamp, nI_add, zb0, zb1, ite_true, ite_false, if_true, if_false, eq_self, bI_i, bL_l, bV_n, not_true, not_false_eq_true, s68 hs hA, s72 hs hA]
    rw [if_neg (by omega)]
    exact ih
theorem s74 {d : Nat} {s p : Nat} {a : Nat → Nat} (hs : zS s) (hA : cSt I (s + 1) p a) {w : Nat} (hp : p ≤ 4) (h : w + p ≤ 27) : cal d 74 [.ref s, .int (nI w)] (I, L, rR ru dr sr rd rl, 65, x) = some (some (.int (nI (fb_sm (fun q => cv p a (w + q)) p))), (I, L, rR ru dr sr rd rl, 65, x)) := by
  rw [k74 hs]
  exact l74 hs hA hp h p 0 (by omega)
theorem s74f {d : Nat} {s p : Nat} {a : Nat → Nat} (hs : zS s) (hA : cSt I (s + 1) p a) (hp : p ≤ 4) : cal d 74 [.ref s, .int (nI 19)] (I, L, rR ru dr sr rd rl, 65, x) = some (some (.int (nI (sm a 16 p))), (I, L, rR ru dr sr rd rl, 65, x)) := by
  rw [s74 hs hA hp (by omega)]
  simp only [cv_19]
  rfl
theorem s74r {d : Nat} {s p : Nat} {a : Nat → Nat} (hs : zS s) (hA : cSt I (s + 1) p a) (hp : p ≤ 4) : cal d 74 [.ref s, .int (nI 23)] (I, L, rR ru dr sr rd rl, 65, x) = some (some (.int (nI (sm a 20 p))), (I, L, rR ru dr sr rd rl, 65, x)) := by
  rw [s74 hs hA hp (by omega)]
  simp only [cv_23]
  rfl
theorem s74a {d : Nat} {s p : Nat} {a : Nat → Nat} (hs : zS s) (hA : cSt I (s + 1) p a) (hp : p ≤ 4) : cal d 74 [.ref s, .int (nI 7)] (I, L, rR ru dr sr rd rl, 65, x) = some (some (.int (nI (sm a 0 p))), (I, L, rR ru dr sr rd rl, 65, x)) := by
  rw [s74 hs hA hp (by omega), sm, fb_sm_cong fun q hq => by rw [cv_7 (show q < 4 by omega)]]
  simp only [Nat.zero_add]
theorem l76 {d : Nat} {s p : Nat} {a : Nat → Nat} (hs : zS s) (hA : cSt I (s + 1) p a) {q : Nat} (hq : q ≤ 4) : ∀ n o, o + n = 4 → res d 76 4 [.ref s, .int (nI q), .int (nI (orl (fun o => if o = q then 0 else a (12 + o)) o)), .int (nI o)] [] (I, L, rR ru dr sr rd rl, 65, x) = some (some (.int (nI (oth a q))), (I, L, rR ru dr sr rd rl, 65, x))
  | 0, o, e => by
    rw [l76_4 hs]
    simp (disch := omega) only [nI_leI, nI_ltI, nI_eq, nI_z, nI_n0, nI_0l, nI_l0, nI_0g, nI_m1, nI_clamp, nI_add, zb0, zb1, ite_true, ite_false, if_true, if_false, eq_self, bI_i, bL_l, bV_n, not_true, not_false_eq_true]
    rw [if_pos (by omega), show o = 4 by omega]
    rfl
  | n + 1, o, e => by
    have ih := l76 (d := d) hs hA hq n (o + 1) (by omega)
    rw [orl] at ih
    rw [l76_4 hs]
    simp (disch := omega) only [nI_leI, nI_ltI, nI_eq, nI_z, nI_n0, nI_0l, nI_l0, nI_0g, nI_m1, nI_clamp, nI_add, zb0, zb1, ite_true, ite_false, if_true, if_false, eq_self, bI_i, bL_l, bV_n, not_true, not_false_eq_true, ak_s hs, hA (15 + o) (by omega), cv_15, fa_or]
    rw [if_neg (by omega)]
    by_cases z : o = q
    · rw [if_pos z] at ih ⊢; exact ih
    · rw [if_neg z] at ih ⊢; exact ih
theorem s76 {d : Nat} {s p : Nat} {a : Nat → Nat} (hs : zS s) (hA : cSt I (s + 1) p a) {q : Nat} (hq : q ≤ 4) : cal d 76 [.ref s, .int (nI q)] (I, L, rR ru dr sr rd rl, 65, x) = some (some (.int (nI (oth a q))), (I, L, rR ru dr sr rd rl, 65, x)) := by
  rw [k76 hs]
  exact l76 hs hA hq 4 0 rfl
theorem s77 {R S d : Nat} {f g : Nat → Nat} (hc : zCt R S f g) (hI : cCt I R S f g) {s p : Nat} {a : Nat → Nat} (hs : zS s) (hA : cSt I (s + 1) p a) : cal d 77 [.ref s] (I, L, rR ru dr sr rd rl, 65, x) = some (some (.int (nI (zdif (2 ^ S - 1) (oth a 4)))), (I, L, rR ru dr sr rd rl, 65, x)) := by
  simp (disch := omega) only [k77 hs, e77_3 hs, e77_6 hs, nI_leI, nI_ltI, nI_eq, nI_z, nI_n0, nI_0l, nI_l0, nI_0g, nI_m1, nI_clamp, nI_add, zb0, zb1, ite_true, ite_false, if_true, if_false, eq_self, bI_i, bL_l, bV_n, not_true, not_false_eq_true, s19 hc hI, s76 hs hA, znot]
theorem l78 {R S d : Nat} {f g : Nat → Nat} (hc : zCt R S f g) (hI : cCt I R S f g) {s p : Nat} {a : Nat → Nat} (hs : zS s) (hA : cSt I (s + 1) p a) {T : Nat} (hw : zWf p S T a) {k : Nat} (hk : k < S) : ∀ n q, q + n = p → res d 78 2 [.ref s, .int (nI k), .int (nI q)] [] (I, L, rR ru dr sr rd rl, 65, x) = some (some (.int (nI (own a k n q))), (I, L, rR ru dr sr rd rl, 65, x))
  | 0, q, e => by
    have := hw.1
    rw [l78_2 hs]
    simp (disch := omega) only [k78 hs, e78_5 hs, e78_10 hs, e78_14 hs, nI_leI, nI_ltI, nI_eq, nI_z, nI_n0, nI_0l, nI_l0, nI_0g, nI_m1, nI_clamp, nI_add, zb0, zb1, ite_true, ite_false, if_true, if_false, eq_self, bI_i, bL_l, bV_n, not_true, not_false_eq_true, s68 hs hA]
    rw [if_pos (by omega), own]
  | n + 1, q, e => by
    have := hw.1
    have := hc.S16
    have ih := l78 (d := d) hc hI hs hA hw hk n (q + 1) (by omega)
    rw [l78_2 hs]
    simp (disch := omega) only [k78 hs, e78_5 hs, e78_10 hs, e78_14 hs, nI_leI, nI_ltI, nI_eq, nI_z, nI_n0, nI_0l, nI_l0, nI_0g, nI_m1, nI_clamp, nI_add, zb0, zb1, ite_true, ite_false, if_true, if_false, eq_self, bI_i, bL_l, bV_n, not_true, not_false_eq_true, s68 hs hA, s72 hs hA, cv_15, s18t hc hI hk, fa_bit]
    rw [if_neg (by omega), own]
    cases z : (a (12 + q)).testBit k with
    | false => simpa using ih
    | true => simp
theorem s78 {R S d : Nat} {f g : Nat → Nat} (hc : zCt R S f g) (hI : cCt I R S f g) {s p : Nat} {a : Nat → Nat} (hs : zS s) (hA : cSt I (s + 1) p a) {T : Nat} (hw : zWf p S T a) {k : Nat} (hk : k < S) : cal d 78 [.ref s, .int (nI k)] (I, L, rR ru dr sr rd rl, 65, x) = some (some (.int (nI (own a k p 0))), (I, L, rR ru dr sr rd rl, 65, x)) := by
  rw [k78 hs]
  exact l78 hc hI hs hA hw hk p 0 (by omega)
theorem l79 {R S d : Nat} {f g : Nat → Nat} (hc : zCt R S f g) (hI : cCt I R S f g) {s p : Nat} {a : Nat → Nat} (hs : zS s) (hA : cSt I (s + 1) p a) {b q : Nat} (hb : b < 65536) : ∀ n v, v + n = S → res d 79 9 [.ref s, .int (nI q), .int (nI b), .int (nI v)] [] (I, L, rR ru dr sr rd rl, 65, x) = some (some (.int (nI (gl b n v))), (I, L, rR ru dr sr rd rl, 65, x))
  | 0, v, e => by
    have := hc.S16
    rw [l79_9 hs]
    simp (disch := omega) only [k79 hs, e79_3 hs, e79_8 hs, e79_13 hs, e79_27 hs, nI_leI, nI_ltI, nI_eq, nI_z, nI_n0, nI_0l, nI_l0, nI_0g, nI_m1, nI_clamp, nI_add, zb0, zb1, ite_true, ite_false, if_true, if_false, eq_self, bI_i, bL_l, bV_n, not_true, not_false_eq_true, s15 hc hI]
    rw [if_pos (by omega), gl, show v = S by omega]
  | n + 1, v, e => by
    have := hc.S16
    have ih := l79 (d := d) (q := q) hc hI hs hA hb n (v + 1) (by omega)
    rw [l79_9 hs]
    simp (disch := omega) only [k79 hs, e79_3 hs, e79_8 hs, e79_13 hs, e79_27 hs, nI_leI, nI_ltI, nI_eq, nI_z, nI_n0, nI_0l, nI_l0, nI_0g, nI_m1, nI_clamp, nI_add, zb0, zb1, ite_true, ite_false, if_true, if_false, eq_self, bI_i, bL_l, bV_n, not_true, not_false_eq_true, s15 hc hI, zbitz]
    rw [if_neg (by omega), gl]
    cases z : b.testBit v with
    | false => simp
    | true => simpa using ih
theorem s79 {R S d : Nat} {f g : Nat → Nat} (hc : zCt R S f g) (hI : cCt I R S f g) {s p : Nat} {a : Nat → Nat} (hs : zS s) (hA : cSt I (s + 1) p a) {T : Nat} (hw : zWf p S T a) {q : Nat} (hq : q < 4) : cal d 79 [.ref s, .int (nI q)] (I, L, rR ru dr sr rd rl, 65, x) = some (some (.int (nI (gol S a q))), (I, L, rR ru dr sr rd rl, 65, x)) := by
  have h1 := (hw.2.1 q hq).2.2.1
  have h2 := p16 hc.S16 (oth_lt hw q)
  simp (disch := omega) only [k79 hs, e79_3 hs, e79_8 hs, e79_13 hs, e79_27 hs, nI_leI, nI_ltI, nI_eq, nI_z, nI_n0, nI_0l, nI_l0, nI_0g, nI_m1, nI_clamp, nI_add, zb0, zb1, ite_true, ite_false, if_true, if_false, eq_self, bI_i, bL_l, bV_n, not_true, not_false_eq_true, s76 hs hA, s72 hs hA, cv_11]
  exact l79 hc hI hs hA h2 (S - a (8 + q)) (a (8 + q)) (by omega)
theorem l80 {R S d : Nat} {f g : Nat → Nat} (hc : zCt R S f g) (hI : cCt I R S f g) {s p : Nat} {a : Nat → Nat} (hs : zS s) (hA : cSt I (s + 1) p a) {T : Nat} (hw : zWf p S T a) {k : Nat} (hk : k ≤ S) : ∀ n q, q + n = p → res d 80 4 [.ref s, .int (nI k), .int (nI (orl (fun q => if gol S a q = k then 2 ^ q else 0) q)), .int (nI q)] [] (I, L, rR ru dr sr rd rl, 65, x) = some (some (.int (nI (aims S a k p))), (I, L, rR ru dr sr rd rl, 65, x))
  | 0, q, e => by
    have := hw.1
    rw [l80_4 hs]
    simp (disch := omega) only [k80 hs, e80_7 hs, e80_12 hs, nI_leI, nI_ltI, nI_eq, nI_z, nI_n0, nI_0l, nI_l0, nI_0g, nI_m1, nI_clamp, nI_add, zb0, zb1, ite_true, ite_false, if_true, if_false, eq_self, bI_i, bL_l, bV_n, not_true, not_false_eq_true, s68 hs hA]
    rw [if_pos (by omega), aims, show q = p by omega]
  | n + 1, q, e => by
    have := hw.1
    have := hc.S16
    have h1 := gol_le hw (q := q) (by omega)
    have ih := l80 (d := d) hc hI hs hA hw hk n (q + 1) (by omega)
    rw [orl] at ih
    rw [l80_4 hs]
    simp (disch := omega) only [k80 hs, e80_7 hs, e80_12 hs, nI_leI, nI_ltI, nI_eq, nI_z, nI_n0, nI_0l, nI_l0, nI_0g, nI_m1, nI_clamp, nI_add, zb0, zb1, ite_true, ite_false, if_true, if_false, eq_self, bI_i, bL_l, bV_n, not_true, not_false_eq_true, s68 hs hA, s79 hc hI hs hA hw, zshl1, fa_or]
    rw [if_neg (by omega)]
    by_cases z : gol S a q = k
    · rw [if_pos z] at ih ⊢; exact ih
    · rw [if_neg z] at ih ⊢; exact ih
theorem s80 {R S d : Nat} {f g : Nat → Nat} (hc : zCt R S f g) (hI : cCt I R S f g) {s p : Nat} {a : Nat → Nat} (hs : zS s) (hA : cSt I (s + 1) p a) {T : Nat} (hw : zWf p S T a) {k : Nat} (hk : k ≤ S) : cal d 80 [.ref s, .int (nI k)] (I, L, rR ru dr sr rd rl, 65, x) = some (some (.int (nI (aims S a k p))), (I, L, rR ru dr sr rd rl, 65, x)) := by
  rw [k80 hs]
  exact l80 hc hI hs hA hw hk p 0 (by omega)
theorem s81 {R S d : Nat} {f g : Nat → Nat} (hc : zCt R S f g) (hI : cCt I R S f g) {s p : Nat} {a : Nat → Nat} (hs : zS s) (hA : cSt I (s + 1) p a) {q m : Nat} (hq : q ≤ 4) : cal d 81 [.ref s, .int (nI q), .int (nI m)] (I, L, rR ru dr sr rd rl, 65, x) = some (some (.int (nI (rws f (zdif (2 ^ S - 1) (oth a q ||| m)) R))), (I, L, rR ru dr sr rd rl, 65, x)) := by
  have h1 : zdif (2 ^ S - 1) (oth a q ||| m) < 2 ^ 16 := by
    have h2 := zdif_le (2 ^ S - 1) (oth a q ||| m)
    have h3 : 2 ^ S ≤ 2 ^ 16 := Nat.pow_le_pow_right (by decide) hc.S16
    have := Nat.two_pow_pos S
    omega
  simp (disch := omega) only [k81 hs, e81_5 hs, e81_8 hs, e81_14 hs, nI_leI, nI_ltI, nI_eq, nI_z, nI_n0, nI_0l, nI_l0, nI_0g, nI_m1, nI_clamp, nI_add, zb0, zb1, ite_true, ite_false, if_true, if_false, eq_self, bI_i, bL_l, bV_n, not_true, not_false_eq_true, s19 hc hI, s76 hs hA, fa_or, znot, s21 hc hI h1]
theorem s92 {d : Nat} {s p : Nat} {a : Nat → Nat} (hs : zS s) (hA : cSt I (s + 1) p a) {S T q : Nat} (hS : S ≤ 16) (hw : zWf p S T a) (hq : q < 4) : cal d 92 [.ref s, .int (nI q)] (I, L, rR ru dr sr rd rl, 65, x) = some (some (.int (nI (pc (a (12 + q)) + a (20 + q)))), (I, L, rR ru dr sr rd rl, 65, x)) := by
  have h1 := p16 hS (hw.2.1 q hq).2.2.2.1
  simp (disch := omega) only [k92 hs, e92_4 hs, e92_5 hs, e92_9 hs, nI_leI, nI_ltI, nI_eq, nI_z, nI_n0, nI_0l, nI_l0, nI_0g, nI_m1, nI_clamp, nI_add, zb0, zb1, ite_true, ite_false, if_true, if_false, eq_self, bI_i, bL_l, bV_n, not_true, not_false_eq_true, s72 hs hA, cv_15, cv_23, s296]

end
