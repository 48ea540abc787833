section
variable {I : Nat → Nat → Int32} {L : Nat → Nat → Int64} {ru dr : Nat} {sr : Nat → Option Nat} {rd : Option Nat} {rl x : Nat}

theorem bI_i {v : Int32} {h : zH} {f : Int32 → zH → Option zO} : bI (some (some (.int v), h)) f = f v h := rfl
theorem bL_l {v : Int64} {h : zH} {f : Int64 → zH → Option zO} : bL (some (some (.long v), h)) f = f v h := rfl
theorem bV_n {h : zH} {f : zH → Option zO} : bV (some (none, h)) f = f h := rfl
/-! ===== the court ===== -/
/-- n bits from a on -/
def rb (a : Nat) : Nat → Nat
  | 0 => 0
  | n + 1 => rb a n ||| 2 ^ (a + n)
theorem rb_tb (a : Nat) : ∀ n i, (rb a n).testBit i = (decide (a ≤ i) && decide (i < a + n))
  | 0, i => by
    rw [rb, Nat.zero_testBit]
    by_cases h : a ≤ i
    · rw [decide_eq_false (by omega : ¬ i < a + 0), Bool.and_false]
    · rw [decide_eq_false h, Bool.false_and]
  | n + 1, i => by
    rw [rb, Nat.testBit_or, rb_tb a n i, tb_one]
    by_cases h : a ≤ i
    · rw [decide_eq_true h, Bool.true_and, Bool.true_and]
      by_cases h2 : i < a + n
      · rw [decide_eq_true h2, decide_eq_true (by omega : i < a + (n + 1))]; rfl
      · by_cases h3 : a + n = i
        · rw [decide_eq_true h3, decide_eq_true (by omega : i < a + (n + 1)), Bool.or_true]
        · rw [decide_eq_false h2, decide_eq_false h3, decide_eq_false (by omega : ¬ i < a + (n + 1))]; rfl
    · rw [decide_eq_false h, decide_eq_false (by omega : ¬ a + n = i)]; rfl
theorem rb_lt (a : Nat) : ∀ n, rb a n < 2 ^ (a + n)
  | 0 => Nat.two_pow_pos _
  | n + 1 => zor_lt (Nat.lt_of_lt_of_le (rb_lt a n) (Nat.pow_le_pow_right (by decide) (by omega))) (Nat.pow_lt_pow_right (by decide) (by omega))
/-- rows R, squares S, the first square of a row f, the row of a square g -/
def zCt (R S : Nat) (f g : Nat → Nat) : Prop := 1 ≤ R ∧ R ≤ 8 ∧ f 0 = 0 ∧ f R = S ∧ (∀ r, r < R → f r < f (r + 1) ∧ f (r + 1) ≤ f r + 2) ∧ (∀ r, r < R → ∀ s, f r ≤ s → s < f (r + 1) → g s = r) ∧ g S = R
theorem zCt.le {R S : Nat} {f g : Nat → Nat} (h : zCt R S f g) : ∀ r, r ≤ R → f r ≤ 2 * r ∧ r ≤ f r
  | 0, _ => by rw [h.2.2.1]; omega
  | r + 1, hr => by
    have := zCt.le h r (by omega)
    have := h.2.2.2.2.1 r (by omega)
    omega
theorem zCt.S16 {R S : Nat} {f g : Nat → Nat} (h : zCt R S f g) : S ≤ 16 := by
  have := (h.le R (Nat.le_refl _)).1
  have := h.2.2.2.1
  have := h.2.1
  omega
theorem zCt.mono {R S : Nat} {f g : Nat → Nat} (h : zCt R S f g) : ∀ n r, r + n ≤ R → f r ≤ f (r + n)
  | 0, r, _ => Nat.le_refl _
  | n + 1, r, hr => by
    have := zCt.mono h n r (by omega)
    have := h.2.2.2.2.1 (r + n) (by omega)
    rw [← Nat.add_assoc]
    omega
theorem zCt.leS {R S : Nat} {f g : Nat → Nat} (h : zCt R S f g) {r : Nat} (hr : r ≤ R) : f r ≤ S := by
  have := h.mono (R - r) r (by omega)
  rw [show r + (R - r) = R by omega, h.2.2.2.1] at this
  exact this
theorem zCt.row {R S : Nat} {f g : Nat → Nat} (h : zCt R S f g) : ∀ n, n ≤ R → ∀ s, s < f n → ∃ r, r < n ∧ f r ≤ s ∧ s < f (r + 1)
  | 0, _, s, hs => by rw [h.2.2.1] at hs; omega
  | n + 1, hn, s, hs => by
    rcases Nat.lt_or_ge s (f n) with q | q
    · obtain ⟨r, a, b, c⟩ := zCt.row h n (by omega) s q
      exact ⟨r, by omega, b, c⟩
    · exact ⟨n, by omega, q, hs⟩
theorem zCt.g {R S : Nat} {f g : Nat → Nat} (h : zCt R S f g) {s : Nat} (hs : s < S) : g s < R ∧ f (g s) ≤ s ∧ s < f (g s + 1) := by
  obtain ⟨r, a, b, c⟩ := h.row R (Nat.le_refl _) s (by rw [h.2.2.2.1]; exact hs)
  rw [h.2.2.2.2.2.1 r a s b c]
  exact ⟨a, b, c⟩
theorem zCt.gle {R S : Nat} {f g : Nat → Nat} (h : zCt R S f g) {s : Nat} (hs : s ≤ S) : g s ≤ R := by
  rcases Nat.lt_or_ge s S with q | q
  · exact Nat.le_of_lt (h.g q).1
  · rw [show s = S by omega, h.2.2.2.2.2.2]; exact Nat.le_refl _
def hit (f : Nat → Nat) (m r : Nat) : Bool := m.testBit (f r) || m.testBit (f (r + 1) - 1)
def sqs (f : Nat → Nat) (r : Nat) : Nat := rb (f r) (f (r + 1) - f r)
theorem sqs_tb {R S : Nat} {f g : Nat → Nat} (h : zCt R S f g) {r : Nat} (hr : r < R) (i : Nat) : (sqs f r).testBit i = (decide (f r ≤ i) && decide (i < f (r + 1))) := by
  have := h.2.2.2.2.1 r hr
  rw [sqs, rb_tb, show f r + (f (r + 1) - f r) = f (r + 1) by omega]
theorem sqs_lt {R S : Nat} {f g : Nat → Nat} (h : zCt R S f g) {r : Nat} (hr : r < R) : sqs f r < 2 ^ 16 := by
  have h1 := h.2.2.2.2.1 r hr
  have h2 := h.leS (r := r + 1) (by omega)
  have h3 := h.S16
  refine Nat.lt_of_lt_of_le (rb_lt _ _) (Nat.pow_le_pow_right (by decide) (by omega))
theorem hit_iff {R S : Nat} {f g : Nat → Nat} (h : zCt R S f g) {r m : Nat} (hr : r < R) : hit f m r = true ↔ ∃ i, f r ≤ i ∧ i < f (r + 1) ∧ m.testBit i = true := by
  have h1 := h.2.2.2.2.1 r hr
  unfold hit
  rw [Bool.or_eq_true]
  constructor
  · rintro (q | q)
    · exact ⟨_, Nat.le_refl _, h1.1, q⟩
    · exact ⟨_, by omega, by omega, q⟩
  · rintro ⟨i, a, b, c⟩
    by_cases e : i = f r
    · left; rw [← e]; exact c
    · right; rw [show f (r + 1) - 1 = i by omega]; exact c
theorem hit_and {R S : Nat} {f g : Nat → Nat} (h : zCt R S f g) {r m : Nat} (hr : r < R) : sqs f r &&& m = 0 ↔ hit f m r = false := by
  rw [← Bool.not_eq_true, hit_iff h hr]
  constructor
  · rintro e ⟨i, a, b, c⟩
    have := congrArg (fun y => y.testBit i) e
    simp only [Nat.testBit_and, sqs_tb h hr, decide_eq_true a, decide_eq_true b, c, Nat.zero_testBit] at this
    exact absurd this (by decide)
  · intro e
    refine tb_ext fun i => ?_
    rw [Nat.testBit_and, sqs_tb h hr, Nat.zero_testBit]
    by_cases a : f r ≤ i
    · by_cases b : i < f (r + 1)
      · cases c : m.testBit i with
        | false => rw [Bool.and_false]
        | true => exact absurd ⟨i, a, b, c⟩ e
      · rw [decide_eq_false b, Bool.and_false, Bool.false_and]
    · rw [decide_eq_false a, Bool.false_and, Bool.false_and]
/-- the rows with one of a set -/
def rws (f : Nat → Nat) (m : Nat) : Nat → Nat
  | 0 => 0
  | r + 1 => if hit f m r = true then rws f m r ||| 2 ^ r else rws f m r
theorem rws_tb (f : Nat → Nat) (m : Nat) : ∀ n r, (rws f m n).testBit r = (decide (r < n) && hit f m r)
  | 0, r => by rw [rws, Nat.zero_testBit]; rfl
  | n + 1, r => by
    rw [rws]
    have ih := rws_tb f m n r
    by_cases e : n = r
    · subst e
      rw [decide_eq_false (Nat.lt_irrefl n), Bool.false_and] at ih
      rw [decide_eq_true (Nat.lt_succ_self n), Bool.true_and]
      split
      · rename_i q; rw [Nat.testBit_or, tb_one, decide_eq_true rfl, Bool.or_true, q]
      · rename_i q; rw [ih]; exact (Bool.eq_false_iff.mpr q).symm
    · have e2 : decide (r < n + 1) = decide (r < n) := decide_eq_decide.mpr (by omega)
      rw [e2]
      split
      · rw [Nat.testBit_or, tb_one, decide_eq_false e, Bool.or_false, ih]
      · exact ih
theorem rws_lt (f : Nat → Nat) (m : Nat) : ∀ n, rws f m n < 2 ^ n
  | 0 => Nat.one_pos
  | n + 1 => by
    rw [rws]
    have := Nat.lt_of_lt_of_le (rws_lt f m n) (Nat.pow_le_pow_right (by decide) (Nat.le_succ n) : 2 ^ n ≤ 2 ^ (n + 1))
    split
    · exact zor_lt this (Nat.pow_lt_pow_right (by decide) (Nat.lt_succ_self n))
    · exact this
/-- the squares of a set of rows -/
def sqo (f : Nat → Nat) (m : Nat) : Nat → Nat
  | 0 => 0
  | r + 1 => if m.testBit r = true then sqo f m r ||| sqs f r else sqo f m r
theorem sqo_lt {R S : Nat} {f g : Nat → Nat} (h : zCt R S f g) (m : Nat) : ∀ n, n ≤ R → sqo f m n < 2 ^ 16
  | 0, _ => Nat.two_pow_pos 16
  | n + 1, hn => by
    rw [sqo]
    have := sqo_lt h m n (by omega)
    split
    · exact zor_lt this (sqs_lt h (by omega))
    · exact this
/-- the court as the class holds it -/
def cCt (I : Nat → Nat → Int32) (R S : Nat) (f g : Nat → Nat) : Prop := I 6 2 = nI R ∧ I 6 3 = nI S ∧ (∀ s, s < S → I 7 s = nI (g s)) ∧ ∀ r, r < R → I 8 r = nI (sqs f r)
theorem cCt.congr {I I' : Nat → Nat → Int32} {R S : Nat} {f g : Nat → Nat} (h : cCt I R S f g) (h6 : I' 6 = I 6) (h7 : I' 7 = I 7) (h8 : I' 8 = I 8) : cCt I' R S f g := by
  unfold cCt
  rw [h6, h7, h8]
  exact h
theorem s14 {R S d : Nat} {f g : Nat → Nat} (hc : zCt R S f g) (hI : cCt I R S f g) : cal d 14 [.ref 6] (I, L, rR ru dr sr rd rl, 65, x) = some (some (.int (nI R)), (I, L, rR ru dr sr rd rl, 65, x)) := by rw [k14, hI.1]
theorem s15 {R S d : Nat} {f g : Nat → Nat} (hc : zCt R S f g) (hI : cCt I R S f g) : cal d 15 [.ref 6] (I, L, rR ru dr sr rd rl, 65, x) = some (some (.int (nI S)), (I, L, rR ru dr sr rd rl, 65, x)) := by rw [k15, hI.2.1]
theorem s16t {R S d : Nat} {f g : Nat → Nat} (hc : zCt R S f g) (hI : cCt I R S f g) {k : Nat} (h : k < S) : cal d 16 [.ref 6, .int (nI k)] (I, L, rR ru dr sr rd rl, 65, x) = some (some (.int (nI 1)), (I, L, rR ru dr sr rd rl, 65, x)) := by
  have := hc.S16
  rw [k16, hI.2.1]
  simp (disch := omega) only [nI_leI, nI_ltI, nI_eq, nI_z, nI_n0, nI_0l, nI_l0, nI_0g, nI_m1, nI_clamp, nI_add, zb0, zb1, ite_true, ite_false, if_true, if_false, eq_self, bI_i, bL_l, bV_n, not_true, not_false_eq_true]
  rw [if_neg (by omega)]
theorem s16f {R S d : Nat} {f g : Nat → Nat} (hc : zCt R S f g) (hI : cCt I R S f g) {v : Int32} (h : ∀ k, k < S → v ≠ nI k) : cal d 16 [.ref 6, .int v] (I, L, rR ru dr sr rd rl, 65, x) = some (some (.int (nI 0)), (I, L, rR ru dr sr rd rl, 65, x)) := by
  have := hc.S16
  rw [k16, hI.2.1]
  simp (disch := omega) only [nI_leI, nI_ltI, nI_eq, nI_z, nI_n0, nI_0l, nI_l0, nI_0g, nI_m1, nI_clamp, nI_add, zb0, zb1, ite_true, ite_false, if_true, if_false, eq_self, bI_i, bL_l, bV_n, not_true, not_false_eq_true]
  by_cases h0 : v < 0
  · rw [if_pos h0]
  · by_cases h1 : nI S ≤ v
    · rw [if_neg h0, if_pos h1]
    · obtain ⟨k, a, b⟩ := zin_of (by omega) h0 h1
      exact absurd b (h k a)
theorem s17t {R S d : Nat} {f g : Nat → Nat} (hc : zCt R S f g) (hI : cCt I R S f g) {k : Nat} (h : k ≤ S) : cal d 17 [.ref 6, .int (nI k)] (I, L, rR ru dr sr rd rl, 65, x) = some (some (.int (nI 1)), (I, L, rR ru dr sr rd rl, 65, x)) := by
  have := hc.S16
  rw [k17, hI.2.1]
  simp (disch := omega) only [nI_leI, nI_ltI, nI_eq, nI_z, nI_n0, nI_0l, nI_l0, nI_0g, nI_m1, nI_clamp, nI_add, zb0, zb1, ite_true, ite_false, if_true, if_false, eq_self, bI_i, bL_l, bV_n, not_true, not_false_eq_true]
  rw [if_neg (by omega)]
theorem s17f {R S d : Nat} {f g : Nat → Nat} (hc : zCt R S f g) (hI : cCt I R S f g) {v : Int32} (h : ∀ k, k ≤ S → v ≠ nI k) : cal d 17 [.ref 6, .int v] (I, L, rR ru dr sr rd rl, 65, x) = some (some (.int (nI 0)), (I, L, rR ru dr sr rd rl, 65, x)) := by
  have := hc.S16
  rw [k17, hI.2.1]
  simp (disch := omega) only [nI_leI, nI_ltI, nI_eq, nI_z, nI_n0, nI_0l, nI_l0, nI_0g, nI_m1, nI_clamp, nI_add, zb0, zb1, ite_true, ite_false, if_true, if_false, eq_self, bI_i, bL_l, bV_n, not_true, not_false_eq_true]
  by_cases h0 : v < 0
  · rw [if_pos h0]
  · by_cases h1 : nI S < v
    · rw [if_neg h0, if_pos h1]
    · obtain ⟨k, a, b⟩ := zin_of2 (by omega) h0 h1
      exact absurd b (h k a)
theorem s18t {R S d : Nat} {f g : Nat → Nat} (hc : zCt R S f g) (hI : cCt I R S f g) {k : Nat} (h : k < S) : cal d 18 [.ref 6, .int (nI k)] (I, L, rR ru dr sr rd rl, 65, x) = some (some (.int (nI (2 ^ k))), (I, L, rR ru dr sr rd rl, 65, x)) := by
  have := hc.S16
  rw [k18, s16t hc hI h, bI_i, e18_3]
  simp (disch := omega) only [nI_leI, nI_ltI, nI_eq, nI_z, nI_n0, nI_0l, nI_l0, nI_0g, nI_m1, nI_clamp, nI_add, zb0, zb1, ite_true, ite_false, if_true, if_false, eq_self, bI_i, bL_l, bV_n, not_true, not_false_eq_true, zshl1]
  rfl
theorem s18f {R S d : Nat} {f g : Nat → Nat} (hc : zCt R S f g) (hI : cCt I R S f g) {v : Int32} (h : ∀ k, k < S → v ≠ nI k) : cal d 18 [.ref 6, .int v] (I, L, rR ru dr sr rd rl, 65, x) = some (some (.int (nI 0)), (I, L, rR ru dr sr rd rl, 65, x)) := by
  have := hc.S16
  rw [k18, s16f hc hI h, bI_i, e18_3]
  simp (disch := omega) only [nI_leI, nI_ltI, nI_eq, nI_z, nI_n0, nI_0l, nI_l0, nI_0g, nI_m1, nI_clamp, nI_add, zb0, zb1, ite_true, ite_false, if_true, if_false, eq_self, bI_i, bL_l, bV_n, not_true, not_false_eq_true]
theorem s19 {R S d : Nat} {f g : Nat → Nat} (hc : zCt R S f g) (hI : cCt I R S f g) : cal d 19 [.ref 6] (I, L, rR ru dr sr rd rl, 65, x) = some (some (.int (nI (2 ^ S - 1))), (I, L, rR ru dr sr rd rl, 65, x)) := by
  have := hc.S16
  rw [k19, hI.2.1, zshl1 (by omega), zsub (Nat.two_pow_pos S)]
theorem s20 {R S d : Nat} {f g : Nat → Nat} (hc : zCt R S f g) (hI : cCt I R S f g) {k : Nat} (h : k ≤ S) : cal d 20 [.ref 6, .int (nI k)] (I, L, rR ru dr sr rd rl, 65, x) = some (some (.int (nI (g k))), (I, L, rR ru dr sr rd rl, 65, x)) := by
  have := hc.S16
  rcases Nat.lt_or_ge k S with q | q
  · rw [k20, s16t hc hI q, bI_i, e20_3]
    simp (disch := omega) only [nI_leI, nI_ltI, nI_eq, nI_z, nI_n0, nI_0l, nI_l0, nI_0g, nI_m1, nI_clamp, nI_add, zb0, zb1, ite_true, ite_false, if_true, if_false, eq_self, bI_i, bL_l, bV_n, not_true, not_false_eq_true, ak_7, hI.2.2.1 k q]
    rw [if_neg (by omega), if_neg (by omega)]
  · rw [k20, s16f hc hI (fun j hj e => by rw [nI_eq (by omega) (by omega)] at e; omega), bI_i, e20_3]
    simp (disch := omega) only [nI_leI, nI_ltI, nI_eq, nI_z, nI_n0, nI_0l, nI_l0, nI_0g, nI_m1, nI_clamp, nI_add, zb0, zb1, ite_true, ite_false, if_true, if_false, eq_self, bI_i, bL_l, bV_n, not_true, not_false_eq_true, hI.1]
    rw [show k = S by omega, hc.2.2.2.2.2.2]
theorem l21 {R S d : Nat} {f g : Nat → Nat} (hc : zCt R S f g) (hI : cCt I R S f g) {m : Nat} (hm : m < 2 ^ 16) : ∀ n r, r + n = R → res d 21 4 [.ref 6, .int (nI m), .int (nI (rws f m r)), .int (nI r)] [] (I, L, rR ru dr sr rd rl, 65, x) = some (some (.int (nI (rws f m R))), (I, L, rR ru dr sr rd rl, 65, x))
  | 0, r, e => by
    have := hc.2.1
    rw [l21_4, hI.1]
    simp (disch := omega) only [nI_leI, nI_ltI, nI_eq, nI_z, nI_n0, nI_0l, nI_l0, nI_0g, nI_m1, nI_clamp, nI_add, zb0, zb1, ite_true, ite_false, if_true, if_false, eq_self, bI_i, bL_l, bV_n, not_true, not_false_eq_true]
    rw [if_pos (by omega), show r = R by omega]
  | n + 1, r, e => by
    have := hc.2.1
    have hr : r < R := by omega
    have ih := l21 hc hI (d := d) hm n (r + 1) (by omega)
    rw [rws] at ih
    rw [l21_4, hI.1]
    simp (disch := omega) only [nI_leI, nI_ltI, nI_eq, nI_z, nI_n0, nI_0l, nI_l0, nI_0g, nI_m1, nI_clamp, nI_add, zb0, zb1, ite_true, ite_false, if_true, if_false, eq_self, bI_i, bL_l, bV_n, not_true, not_false_eq_true, ak_8, hI.2.2.2 r hr, fa_and, fa_or, zshl1]
    have h1 : sqs f r &&& m < 2 ^ 31 := Nat.lt_of_le_of_lt Nat.and_le_right (by omega)
    rw [if_neg (by omega), if_neg (by omega)]
    simp (disch := omega) only [nI_leI, nI_ltI, nI_eq, nI_z, nI_n0, nI_0l, nI_l0, nI_0g, nI_m1, nI_clamp, nI_add, zb0, zb1, ite_true, ite_false, if_true, if_false, eq_self, bI_i, bL_l, bV_n, not_true, not_false_eq_true, hit_and hc hr]
    cases q : hit f m r with
    | false => rw [q] at ih; simpa using ih
    | true => rw [q] at ih; simpa using ih
theorem s21 {R S d : Nat} {f g : Nat → Nat} (hc : zCt R S f g) (hI : cCt I R S f g) {m : Nat} (hm : m < 2 ^ 16) : cal d 21 [.ref 6, .int (nI m)] (I, L, rR ru dr sr rd rl, 65, x) = some (some (.int (nI (rws f m R))), (I, L, rR ru dr sr rd rl, 65, x)) := by
  rw [k21]
  exact l21 hc hI hm R 0 (by omega)
theorem l22 {R S d : Nat} {f g : Nat → Nat} (hc : zCt R S f g) (hI : cCt I R S f g) {m : Nat} (hm : m < 2 ^ 16) : ∀ n r, r + n = R → res d 22 4 [.ref 6, .int (nI m), .int (nI (sqo f m r)), .int (nI r)] [] (I, L, rR ru dr sr rd rl, 65, x) = some (some (.int (nI (sqo f m R))), (I, L, rR ru dr sr rd rl, 65, x))
  | 0, r, e => by
    have := hc.2.1
    rw [l22_4, hI.1]
    simp (disch := omega) only [nI_leI, nI_ltI, nI_eq, nI_z, nI_n0, nI_0l, nI_l0, nI_0g, nI_m1, nI_clamp, nI_add, zb0, zb1, ite_true, ite_false, if_true, if_false, eq_self, bI_i, bL_l, bV_n, not_true, not_false_eq_true]
    rw [if_pos (by omega), show r = R by omega]
  | n + 1, r, e => by
    have := hc.2.1
    have hr : r < R := by omega
    have ih := l22 hc hI (d := d) hm n (r + 1) (by omega)
    rw [sqo] at ih
    rw [l22_4, hI.1]
    simp (disch := omega) only [nI_leI, nI_ltI, nI_eq, nI_z, nI_n0, nI_0l, nI_l0, nI_0g, nI_m1, nI_clamp, nI_add, zb0, zb1, ite_true, ite_false, if_true, if_false, eq_self, bI_i, bL_l, bV_n, not_true, not_false_eq_true, ak_8, hI.2.2.2 r hr, fa_or, zbitz]
    rw [if_neg (by omega), if_neg (by omega)]
    cases q : m.testBit r with
    | false => rw [q] at ih; simpa using ih
    | true => rw [q] at ih; simpa using ih
theorem s22 {R S d : Nat} {f g : Nat → Nat} (hc : zCt R S f g) (hI : cCt I R S f g) {m : Nat} (hm : m < 2 ^ 16) : cal d 22 [.ref 6, .int (nI m)] (I, L, rR ru dr sr rd rl, 65, x) = some (some (.int (nI (sqo f m R))), (I, L, rR ru dr sr rd rl, 65, x)) := by
  rw [k22]
  exact l22 hc hI hm R 0 (by omega)

end
